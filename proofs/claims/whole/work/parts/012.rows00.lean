theorem dX0_power_0 : decode cX0_power 0 = .ok (.lconst 1, 1) := by decide +kernel
theorem dX0_power_1 : decode cX0_power 1 = .ok (.lstore_n 3, 1) := by decide +kernel
theorem dX0_power_2 : decode cX0_power 2 = .ok (.iconst 0, 1) := by decide +kernel
theorem dX0_power_3 : decode cX0_power 3 = .ok (.istore 5, 2) := by decide +kernel
theorem dX0_power_5 : decode cX0_power 5 = .ok (.iload 5, 2) := by decide +kernel
theorem dX0_power_7 : decode cX0_power 7 = .ok (.iload_n 2, 1) := by decide +kernel
theorem dX0_power_8 : decode cX0_power 8 = .ok (.if_icmp .ge 13, 3) := by decide +kernel
theorem dX0_power_11 : decode cX0_power 11 = .ok (.lload_n 3, 1) := by decide +kernel
theorem dX0_power_12 : decode cX0_power 12 = .ok (.lload_n 0, 1) := by decide +kernel
theorem dX0_power_13 : decode cX0_power 13 = .ok (.lmul, 1) := by decide +kernel
theorem dX0_power_14 : decode cX0_power 14 = .ok (.lstore_n 3, 1) := by decide +kernel
theorem dX0_power_15 : decode cX0_power 15 = .ok (.iinc 5 1, 3) := by decide +kernel
theorem dX0_power_18 : decode cX0_power 18 = .ok (.goto (-13), 3) := by decide +kernel
theorem dX0_power_21 : decode cX0_power 21 = .ok (.lload_n 3, 1) := by decide +kernel
theorem dX0_power_22 : decode cX0_power 22 = .ok (.lreturn, 1) := by decide +kernel
theorem dX0_choose_0 : decode cX0_choose 0 = .ok (.lconst 1, 1) := by decide +kernel
theorem dX0_choose_1 : decode cX0_choose 1 = .ok (.lstore_n 2, 1) := by decide +kernel
theorem dX0_choose_2 : decode cX0_choose 2 = .ok (.iconst 0, 1) := by decide +kernel
theorem dX0_choose_3 : decode cX0_choose 3 = .ok (.istore 4, 2) := by decide +kernel
theorem dX0_choose_5 : decode cX0_choose 5 = .ok (.iload 4, 2) := by decide +kernel
theorem dX0_choose_7 : decode cX0_choose 7 = .ok (.iload_n 1, 1) := by decide +kernel
theorem dX0_choose_8 : decode cX0_choose 8 = .ok (.if_icmp .ge 23, 3) := by decide +kernel
theorem dX0_choose_11 : decode cX0_choose 11 = .ok (.lload_n 2, 1) := by decide +kernel
theorem dX0_choose_12 : decode cX0_choose 12 = .ok (.iload_n 0, 1) := by decide +kernel
theorem dX0_choose_13 : decode cX0_choose 13 = .ok (.iload 4, 2) := by decide +kernel
theorem dX0_choose_15 : decode cX0_choose 15 = .ok (.isub, 1) := by decide +kernel
theorem dX0_choose_16 : decode cX0_choose 16 = .ok (.i2l, 1) := by decide +kernel
theorem dX0_choose_17 : decode cX0_choose 17 = .ok (.lmul, 1) := by decide +kernel
theorem dX0_choose_18 : decode cX0_choose 18 = .ok (.iload 4, 2) := by decide +kernel
theorem dX0_choose_20 : decode cX0_choose 20 = .ok (.iconst 1, 1) := by decide +kernel
theorem dX0_choose_21 : decode cX0_choose 21 = .ok (.iadd, 1) := by decide +kernel
theorem dX0_choose_22 : decode cX0_choose 22 = .ok (.i2l, 1) := by decide +kernel
theorem dX0_choose_23 : decode cX0_choose 23 = .ok (.ldiv, 1) := by decide +kernel
theorem dX0_choose_24 : decode cX0_choose 24 = .ok (.lstore_n 2, 1) := by decide +kernel
theorem dX0_choose_25 : decode cX0_choose 25 = .ok (.iinc 4 1, 3) := by decide +kernel
theorem dX0_choose_28 : decode cX0_choose 28 = .ok (.goto (-23), 3) := by decide +kernel
theorem dX0_choose_31 : decode cX0_choose 31 = .ok (.lload_n 2, 1) := by decide +kernel
theorem dX0_choose_32 : decode cX0_choose 32 = .ok (.lreturn, 1) := by decide +kernel
set_option maxRecDepth 20000 in
theorem ggX0_atLeast_X0_choose : GoodIn wsX0_atLeast wsX0_choose := goodIn_r _ [4] (by decide +kernel) (by decide +kernel)
set_option maxRecDepth 20000 in
theorem gX0_atLeast_X0_choose : GoodIn wsX0_atLeast (va_wsS RX0 9 yX0_choose wsX0_choose) := goodIn_app (goodIn_of _ (by decide +kernel)) ggX0_atLeast_X0_choose
set_option maxRecDepth 20000 in
theorem ggX0_atLeast_X0_power : GoodIn wsX0_atLeast wsX0_power := goodIn_r _ [7] (by decide +kernel) (by decide +kernel)
set_option maxRecDepth 20000 in
theorem gX0_atLeast_X0_power : GoodIn wsX0_atLeast (va_wsS RX0 15 yX0_power wsX0_power) := goodIn_app (goodIn_of _ (by decide +kernel)) ggX0_atLeast_X0_power
theorem dX0_atLeast_0 : decode cX0_atLeast 0 = .ok (.lconst 0, 1) := by decide +kernel
theorem dX0_atLeast_1 : decode cX0_atLeast 1 = .ok (.lstore_n 3, 1) := by decide +kernel
theorem dX0_atLeast_2 : decode cX0_atLeast 2 = .ok (.iload_n 2, 1) := by decide +kernel
theorem dX0_atLeast_3 : decode cX0_atLeast 3 = .ok (.istore 5, 2) := by decide +kernel
theorem dX0_atLeast_5 : decode cX0_atLeast 5 = .ok (.iload 5, 2) := by decide +kernel
theorem dX0_atLeast_7 : decode cX0_atLeast 7 = .ok (.iload_n 0, 1) := by decide +kernel
theorem dX0_atLeast_8 : decode cX0_atLeast 8 = .ok (.if_icmp .gt 39, 3) := by decide +kernel
theorem dX0_atLeast_11 : decode cX0_atLeast 11 = .ok (.lload_n 3, 1) := by decide +kernel
theorem dX0_atLeast_12 : decode cX0_atLeast 12 = .ok (.iload_n 0, 1) := by decide +kernel
theorem dX0_atLeast_13 : decode cX0_atLeast 13 = .ok (.iload 5, 2) := by decide +kernel
theorem dX0_atLeast_15 : decode cX0_atLeast 15 = .ok (.invokestatic 9, 3) := by decide +kernel
theorem dX0_atLeast_18 : decode cX0_atLeast 18 = .ok (.iload_n 1, 1) := by decide +kernel
theorem dX0_atLeast_19 : decode cX0_atLeast 19 = .ok (.i2l, 1) := by decide +kernel
theorem dX0_atLeast_20 : decode cX0_atLeast 20 = .ok (.iload 5, 2) := by decide +kernel
theorem dX0_atLeast_22 : decode cX0_atLeast 22 = .ok (.invokestatic 15, 3) := by decide +kernel
theorem dX0_atLeast_25 : decode cX0_atLeast 25 = .ok (.lmul, 1) := by decide +kernel
theorem dX0_atLeast_26 : decode cX0_atLeast 26 = .ok (.bipush 10, 2) := by decide +kernel
theorem dX0_atLeast_28 : decode cX0_atLeast 28 = .ok (.iload_n 1, 1) := by decide +kernel
theorem dX0_atLeast_29 : decode cX0_atLeast 29 = .ok (.isub, 1) := by decide +kernel
theorem dX0_atLeast_30 : decode cX0_atLeast 30 = .ok (.i2l, 1) := by decide +kernel
theorem dX0_atLeast_31 : decode cX0_atLeast 31 = .ok (.iload_n 0, 1) := by decide +kernel
theorem dX0_atLeast_32 : decode cX0_atLeast 32 = .ok (.iload 5, 2) := by decide +kernel
theorem dX0_atLeast_34 : decode cX0_atLeast 34 = .ok (.isub, 1) := by decide +kernel
theorem dX0_atLeast_35 : decode cX0_atLeast 35 = .ok (.invokestatic 15, 3) := by decide +kernel
theorem dX0_atLeast_38 : decode cX0_atLeast 38 = .ok (.lmul, 1) := by decide +kernel
theorem dX0_atLeast_39 : decode cX0_atLeast 39 = .ok (.ladd, 1) := by decide +kernel
theorem dX0_atLeast_40 : decode cX0_atLeast 40 = .ok (.lstore_n 3, 1) := by decide +kernel
theorem dX0_atLeast_41 : decode cX0_atLeast 41 = .ok (.iinc 5 1, 3) := by decide +kernel
theorem dX0_atLeast_44 : decode cX0_atLeast 44 = .ok (.goto (-39), 3) := by decide +kernel
theorem dX0_atLeast_47 : decode cX0_atLeast 47 = .ok (.lload_n 3, 1) := by decide +kernel
theorem dX0_atLeast_48 : decode cX0_atLeast 48 = .ok (.lreturn, 1) := by decide +kernel
theorem dX0_commonDivisor_0 : decode cX0_commonDivisor 0 = .ok (.lload_n 0, 1) := by decide +kernel
theorem dX0_commonDivisor_1 : decode cX0_commonDivisor 1 = .ok (.lstore 4, 2) := by decide +kernel
theorem dX0_commonDivisor_3 : decode cX0_commonDivisor 3 = .ok (.lload_n 2, 1) := by decide +kernel
theorem dX0_commonDivisor_4 : decode cX0_commonDivisor 4 = .ok (.lstore 6, 2) := by decide +kernel
theorem dX0_commonDivisor_6 : decode cX0_commonDivisor 6 = .ok (.iconst 0, 1) := by decide +kernel
theorem dX0_commonDivisor_7 : decode cX0_commonDivisor 7 = .ok (.istore 8, 2) := by decide +kernel
theorem dX0_commonDivisor_9 : decode cX0_commonDivisor 9 = .ok (.iload 8, 2) := by decide +kernel
theorem dX0_commonDivisor_11 : decode cX0_commonDivisor 11 = .ok (.bipush 100, 2) := by decide +kernel
theorem dX0_commonDivisor_13 : decode cX0_commonDivisor 13 = .ok (.if_icmp .ge 31, 3) := by decide +kernel
theorem dX0_commonDivisor_16 : decode cX0_commonDivisor 16 = .ok (.lload 6, 2) := by decide +kernel
theorem dX0_commonDivisor_18 : decode cX0_commonDivisor 18 = .ok (.lconst 0, 1) := by decide +kernel
theorem dX0_commonDivisor_19 : decode cX0_commonDivisor 19 = .ok (.lcmp, 1) := by decide +kernel
theorem dX0_commonDivisor_20 : decode cX0_commonDivisor 20 = .ok (.ifCond .eq 24, 3) := by decide +kernel
theorem dX0_commonDivisor_23 : decode cX0_commonDivisor 23 = .ok (.lload 4, 2) := by decide +kernel
theorem dX0_commonDivisor_25 : decode cX0_commonDivisor 25 = .ok (.lload 6, 2) := by decide +kernel
theorem dX0_commonDivisor_27 : decode cX0_commonDivisor 27 = .ok (.lrem, 1) := by decide +kernel
theorem dX0_commonDivisor_28 : decode cX0_commonDivisor 28 = .ok (.lstore 9, 2) := by decide +kernel
theorem dX0_commonDivisor_30 : decode cX0_commonDivisor 30 = .ok (.lload 6, 2) := by decide +kernel
theorem dX0_commonDivisor_32 : decode cX0_commonDivisor 32 = .ok (.lstore 4, 2) := by decide +kernel
theorem dX0_commonDivisor_34 : decode cX0_commonDivisor 34 = .ok (.lload 9, 2) := by decide +kernel
theorem dX0_commonDivisor_36 : decode cX0_commonDivisor 36 = .ok (.lstore 6, 2) := by decide +kernel
theorem dX0_commonDivisor_38 : decode cX0_commonDivisor 38 = .ok (.iinc 8 1, 3) := by decide +kernel
theorem dX0_commonDivisor_41 : decode cX0_commonDivisor 41 = .ok (.goto (-32), 3) := by decide +kernel
theorem dX0_commonDivisor_44 : decode cX0_commonDivisor 44 = .ok (.lload 4, 2) := by decide +kernel
theorem dX0_commonDivisor_46 : decode cX0_commonDivisor 46 = .ok (.lreturn, 1) := by decide +kernel
set_option maxRecDepth 20000 in
theorem ggX0_lowest_X0_commonDivisor : GoodIn wsX0_lowest wsX0_commonDivisor := goodIn_r _ [5] (by decide +kernel) (by decide +kernel)
set_option maxRecDepth 20000 in
theorem gX0_lowest_X0_commonDivisor : GoodIn wsX0_lowest (va_wsS RX0 19 yX0_commonDivisor wsX0_commonDivisor) := goodIn_app (goodIn_of _ (by decide +kernel)) ggX0_lowest_X0_commonDivisor
theorem dX0_lowest_0 : decode cX0_lowest 0 = .ok (.lload_n 0, 1) := by decide +kernel
theorem dX0_lowest_1 : decode cX0_lowest 1 = .ok (.lload_n 2, 1) := by decide +kernel
theorem dX0_lowest_2 : decode cX0_lowest 2 = .ok (.invokestatic 19, 3) := by decide +kernel
theorem dX0_lowest_5 : decode cX0_lowest 5 = .ok (.lstore 5, 2) := by decide +kernel
theorem dX0_lowest_7 : decode cX0_lowest 7 = .ok (.lload 5, 2) := by decide +kernel
theorem dX0_lowest_9 : decode cX0_lowest 9 = .ok (.lconst 0, 1) := by decide +kernel
theorem dX0_lowest_10 : decode cX0_lowest 10 = .ok (.lcmp, 1) := by decide +kernel
theorem dX0_lowest_11 : decode cX0_lowest 11 = .ok (.ifCond .gt 7, 3) := by decide +kernel
theorem dX0_lowest_14 : decode cX0_lowest 14 = .ok (.ldc2_w 23, 3) := by decide +kernel
theorem dX0_lowest_17 : decode cX0_lowest 17 = .ok (.lreturn, 1) := by decide +kernel
theorem dX0_lowest_18 : decode cX0_lowest 18 = .ok (.iload 4, 2) := by decide +kernel
theorem dX0_lowest_20 : decode cX0_lowest 20 = .ok (.ifCond .ne 7, 3) := by decide +kernel
theorem dX0_lowest_23 : decode cX0_lowest 23 = .ok (.lload_n 0, 1) := by decide +kernel
theorem dX0_lowest_24 : decode cX0_lowest 24 = .ok (.goto 4, 3) := by decide +kernel
theorem dX0_lowest_27 : decode cX0_lowest 27 = .ok (.lload_n 2, 1) := by decide +kernel
theorem dX0_lowest_28 : decode cX0_lowest 28 = .ok (.lload 5, 2) := by decide +kernel
theorem dX0_lowest_30 : decode cX0_lowest 30 = .ok (.ldiv, 1) := by decide +kernel
theorem dX0_lowest_31 : decode cX0_lowest 31 = .ok (.lreturn, 1) := by decide +kernel
theorem dX1_init_0 : decode cX1_init 0 = .ok (.aload_n 0, 1) := by decide +kernel
theorem dX1_init_1 : decode cX1_init 1 = .ok (.invokespecial 3, 3) := by decide +kernel
theorem dX1_init_4 : decode cX1_init 4 = .ok (.aload_n 0, 1) := by decide +kernel
theorem dX1_init_5 : decode cX1_init 5 = .ok (.bipush 60, 2) := by decide +kernel
theorem dX1_init_7 : decode cX1_init 7 = .ok (.newarray .int, 2) := by decide +kernel
theorem dX1_init_9 : decode cX1_init 9 = .ok (.putfield 9, 3) := by decide +kernel
theorem dX1_init_12 : decode cX1_init 12 = .ok (.return_, 1) := by decide +kernel
theorem dX1_add_0 : decode cX1_add 0 = .ok (.aload_n 0, 1) := by decide +kernel
theorem dX1_add_1 : decode cX1_add 1 = .ok (.getfield 15, 3) := by decide +kernel
theorem dX1_add_4 : decode cX1_add 4 = .ok (.ifCond .lt 12, 3) := by decide +kernel
theorem dX1_add_7 : decode cX1_add 7 = .ok (.aload_n 0, 1) := by decide +kernel
theorem dX1_add_8 : decode cX1_add 8 = .ok (.getfield 15, 3) := by decide +kernel
theorem dX1_add_11 : decode cX1_add 11 = .ok (.bipush 60, 2) := by decide +kernel
theorem dX1_add_13 : decode cX1_add 13 = .ok (.if_icmp .lt 5, 3) := by decide +kernel
theorem dX1_add_16 : decode cX1_add 16 = .ok (.iconst 0, 1) := by decide +kernel
theorem dX1_add_17 : decode cX1_add 17 = .ok (.ireturn, 1) := by decide +kernel
theorem dX1_add_18 : decode cX1_add 18 = .ok (.aload_n 0, 1) := by decide +kernel
theorem dX1_add_19 : decode cX1_add 19 = .ok (.getfield 9, 3) := by decide +kernel
theorem dX1_add_22 : decode cX1_add 22 = .ok (.aload_n 0, 1) := by decide +kernel
theorem dX1_add_23 : decode cX1_add 23 = .ok (.getfield 15, 3) := by decide +kernel
theorem dX1_add_26 : decode cX1_add 26 = .ok (.iload_n 1, 1) := by decide +kernel
theorem dX1_add_27 : decode cX1_add 27 = .ok (.iastore, 1) := by decide +kernel
theorem dX1_add_28 : decode cX1_add 28 = .ok (.aload_n 0, 1) := by decide +kernel
theorem dX1_add_29 : decode cX1_add 29 = .ok (.dup, 1) := by decide +kernel
theorem dX1_add_30 : decode cX1_add 30 = .ok (.getfield 15, 3) := by decide +kernel
theorem dX1_add_33 : decode cX1_add 33 = .ok (.iconst 1, 1) := by decide +kernel
theorem dX1_add_34 : decode cX1_add 34 = .ok (.iadd, 1) := by decide +kernel
theorem dX1_add_35 : decode cX1_add 35 = .ok (.putfield 15, 3) := by decide +kernel
theorem dX1_add_38 : decode cX1_add 38 = .ok (.iconst 1, 1) := by decide +kernel
theorem dX1_add_39 : decode cX1_add 39 = .ok (.ireturn, 1) := by decide +kernel
theorem dX1_signAt_0 : decode cX1_signAt 0 = .ok (.iload_n 1, 1) := by decide +kernel
theorem dX1_signAt_1 : decode cX1_signAt 1 = .ok (.ifCond .lt 26, 3) := by decide +kernel
theorem dX1_signAt_4 : decode cX1_signAt 4 = .ok (.iload_n 1, 1) := by decide +kernel
theorem dX1_signAt_5 : decode cX1_signAt 5 = .ok (.aload_n 0, 1) := by decide +kernel
theorem dX1_signAt_6 : decode cX1_signAt 6 = .ok (.getfield 15, 3) := by decide +kernel
theorem dX1_signAt_9 : decode cX1_signAt 9 = .ok (.if_icmp .ge 18, 3) := by decide +kernel
theorem dX1_signAt_12 : decode cX1_signAt 12 = .ok (.iload_n 1, 1) := by decide +kernel
theorem dX1_signAt_13 : decode cX1_signAt 13 = .ok (.bipush 60, 2) := by decide +kernel
theorem dX1_signAt_15 : decode cX1_signAt 15 = .ok (.if_icmp .ge 12, 3) := by decide +kernel
theorem dX1_signAt_18 : decode cX1_signAt 18 = .ok (.aload_n 0, 1) := by decide +kernel
theorem dX1_signAt_19 : decode cX1_signAt 19 = .ok (.getfield 9, 3) := by decide +kernel
theorem dX1_signAt_22 : decode cX1_signAt 22 = .ok (.iload_n 1, 1) := by decide +kernel
theorem dX1_signAt_23 : decode cX1_signAt 23 = .ok (.iaload, 1) := by decide +kernel
theorem dX1_signAt_24 : decode cX1_signAt 24 = .ok (.goto 5, 3) := by decide +kernel
theorem dX1_signAt_27 : decode cX1_signAt 27 = .ok (.bipush (-6), 2) := by decide +kernel
theorem dX1_signAt_29 : decode cX1_signAt 29 = .ok (.ireturn, 1) := by decide +kernel
set_option maxRecDepth 20000 in
theorem ggX1_faultPlace_X1_signAt : GoodIn wsX1_faultPlace wsX1_signAt := goodIn_r _ [6, 1, 7, 17, 18] (by decide +kernel) (by decide +kernel)
set_option maxRecDepth 20000 in
theorem gX1_faultPlace_X1_signAt : GoodIn wsX1_faultPlace (wsV RX1 19 RX1 yX1_signAt wsX1_signAt) := goodIn_app (goodIn_of _ (by decide +kernel)) ggX1_faultPlace_X1_signAt
set_option maxRecDepth 20000 in
theorem ggX1_faultPlace_X1_stateBehind : GoodIn wsX1_faultPlace wsX1_stateBehind := goodIn_r _ [10, 11, 12, 5, 13, 14, 15, 16] (by decide +kernel) (by decide +kernel)
set_option maxRecDepth 20000 in
theorem gX1_faultPlace_X1_stateBehind : GoodIn wsX1_faultPlace (va_wsS RX1 23 yX1_stateBehind wsX1_stateBehind) := goodIn_app (goodIn_of _ (by decide +kernel)) ggX1_faultPlace_X1_stateBehind
theorem dX1_faultPlace_0 : decode cX1_faultPlace 0 = .ok (.iconst 0, 1) := by decide +kernel
theorem dX1_faultPlace_1 : decode cX1_faultPlace 1 = .ok (.istore_n 1, 1) := by decide +kernel
theorem dX1_faultPlace_2 : decode cX1_faultPlace 2 = .ok (.iconst 0, 1) := by decide +kernel
theorem dX1_faultPlace_3 : decode cX1_faultPlace 3 = .ok (.istore_n 2, 1) := by decide +kernel
theorem dX1_faultPlace_4 : decode cX1_faultPlace 4 = .ok (.iload_n 2, 1) := by decide +kernel
theorem dX1_faultPlace_5 : decode cX1_faultPlace 5 = .ok (.aload_n 0, 1) := by decide +kernel
theorem dX1_faultPlace_6 : decode cX1_faultPlace 6 = .ok (.getfield 15, 3) := by decide +kernel
theorem dX1_faultPlace_9 : decode cX1_faultPlace 9 = .ok (.if_icmp .ge 27, 3) := by decide +kernel
theorem dX1_faultPlace_12 : decode cX1_faultPlace 12 = .ok (.iload_n 1, 1) := by decide +kernel
theorem dX1_faultPlace_13 : decode cX1_faultPlace 13 = .ok (.aload_n 0, 1) := by decide +kernel
theorem dX1_faultPlace_14 : decode cX1_faultPlace 14 = .ok (.iload_n 2, 1) := by decide +kernel
theorem dX1_faultPlace_15 : decode cX1_faultPlace 15 = .ok (.invokevirtual 19, 3) := by decide +kernel
theorem dX1_faultPlace_18 : decode cX1_faultPlace 18 = .ok (.invokestatic 23, 3) := by decide +kernel
theorem dX1_faultPlace_21 : decode cX1_faultPlace 21 = .ok (.istore_n 1, 1) := by decide +kernel
theorem dX1_faultPlace_22 : decode cX1_faultPlace 22 = .ok (.iload_n 1, 1) := by decide +kernel
theorem dX1_faultPlace_23 : decode cX1_faultPlace 23 = .ok (.bipush (-6), 2) := by decide +kernel
theorem dX1_faultPlace_25 : decode cX1_faultPlace 25 = .ok (.if_icmp .ne 5, 3) := by decide +kernel
theorem dX1_faultPlace_28 : decode cX1_faultPlace 28 = .ok (.iload_n 2, 1) := by decide +kernel
theorem dX1_faultPlace_29 : decode cX1_faultPlace 29 = .ok (.ireturn, 1) := by decide +kernel
theorem dX1_faultPlace_30 : decode cX1_faultPlace 30 = .ok (.iinc 2 1, 3) := by decide +kernel
theorem dX1_faultPlace_33 : decode cX1_faultPlace 33 = .ok (.goto (-29), 3) := by decide +kernel
theorem dX1_faultPlace_36 : decode cX1_faultPlace 36 = .ok (.iload_n 1, 1) := by decide +kernel
theorem dX1_faultPlace_37 : decode cX1_faultPlace 37 = .ok (.ifCond .ne 8, 3) := by decide +kernel
theorem dX1_faultPlace_40 : decode cX1_faultPlace 40 = .ok (.bipush (-6), 2) := by decide +kernel
theorem dX1_faultPlace_42 : decode cX1_faultPlace 42 = .ok (.goto 7, 3) := by decide +kernel
theorem dX1_faultPlace_45 : decode cX1_faultPlace 45 = .ok (.aload_n 0, 1) := by decide +kernel
theorem dX1_faultPlace_46 : decode cX1_faultPlace 46 = .ok (.getfield 15, 3) := by decide +kernel
theorem dX1_faultPlace_49 : decode cX1_faultPlace 49 = .ok (.ireturn, 1) := by decide +kernel
set_option maxRecDepth 20000 in
theorem ggX1_stateBehind_X1_isDeed : GoodIn wsX1_stateBehind wsX1_isDeed := goodIn_r _ [4] (by decide +kernel) (by decide +kernel)
set_option maxRecDepth 20000 in
theorem gX1_stateBehind_X1_isDeed : GoodIn wsX1_stateBehind (va_wsS RX1 27 yX1_isDeed wsX1_isDeed) := goodIn_app (goodIn_of _ (by decide +kernel)) ggX1_stateBehind_X1_isDeed
set_option maxRecDepth 20000 in
theorem ggX1_stateBehind_X9_isGlobe : GoodIn wsX1_stateBehind wsX9_isGlobe := goodIn_r _ [7] (by decide +kernel) (by decide +kernel)
set_option maxRecDepth 20000 in
theorem gX1_stateBehind_X9_isGlobe_n31 : GoodIn wsX1_stateBehind (wsX9_isGlobe) := ggX1_stateBehind_X9_isGlobe
theorem dX1_stateBehind_0 : decode cX1_stateBehind 0 = .ok (.iload_n 0, 1) := by decide +kernel
theorem dX1_stateBehind_1 : decode cX1_stateBehind 1 = .ok (.iconst 1, 1) := by decide +kernel
theorem dX1_stateBehind_2 : decode cX1_stateBehind 2 = .ok (.if_icmp .ne 25, 3) := by decide +kernel
theorem dX1_stateBehind_5 : decode cX1_stateBehind 5 = .ok (.iload_n 1, 1) := by decide +kernel
theorem dX1_stateBehind_6 : decode cX1_stateBehind 6 = .ok (.bipush 62, 2) := by decide +kernel
theorem dX1_stateBehind_8 : decode cX1_stateBehind 8 = .ok (.if_icmp .ne 5, 3) := by decide +kernel
theorem dX1_stateBehind_11 : decode cX1_stateBehind 11 = .ok (.iconst 2, 1) := by decide +kernel
theorem dX1_stateBehind_12 : decode cX1_stateBehind 12 = .ok (.ireturn, 1) := by decide +kernel
theorem dX1_stateBehind_13 : decode cX1_stateBehind 13 = .ok (.iload_n 1, 1) := by decide +kernel
theorem dX1_stateBehind_14 : decode cX1_stateBehind 14 = .ok (.invokestatic 27, 3) := by decide +kernel
theorem dX1_stateBehind_17 : decode cX1_stateBehind 17 = .ok (.ifCond .eq 7, 3) := by decide +kernel
theorem dX1_stateBehind_20 : decode cX1_stateBehind 20 = .ok (.iconst 0, 1) := by decide +kernel
theorem dX1_stateBehind_21 : decode cX1_stateBehind 21 = .ok (.goto 5, 3) := by decide +kernel
theorem dX1_stateBehind_24 : decode cX1_stateBehind 24 = .ok (.bipush (-6), 2) := by decide +kernel
theorem dX1_stateBehind_26 : decode cX1_stateBehind 26 = .ok (.ireturn, 1) := by decide +kernel
theorem dX1_stateBehind_27 : decode cX1_stateBehind 27 = .ok (.iload_n 0, 1) := by decide +kernel
theorem dX1_stateBehind_28 : decode cX1_stateBehind 28 = .ok (.ifCond .ne 11, 3) := by decide +kernel
theorem dX1_stateBehind_31 : decode cX1_stateBehind 31 = .ok (.iload_n 1, 1) := by decide +kernel
theorem dX1_stateBehind_32 : decode cX1_stateBehind 32 = .ok (.bipush 46, 2) := by decide +kernel
theorem dX1_stateBehind_34 : decode cX1_stateBehind 34 = .ok (.if_icmp .ne 5, 3) := by decide +kernel
theorem dX1_stateBehind_37 : decode cX1_stateBehind 37 = .ok (.iconst 0, 1) := by decide +kernel
theorem dX1_stateBehind_38 : decode cX1_stateBehind 38 = .ok (.ireturn, 1) := by decide +kernel
theorem dX1_stateBehind_39 : decode cX1_stateBehind 39 = .ok (.iload_n 1, 1) := by decide +kernel
theorem dX1_stateBehind_40 : decode cX1_stateBehind 40 = .ok (.bipush 65, 2) := by decide +kernel
theorem dX1_stateBehind_42 : decode cX1_stateBehind 42 = .ok (.isub, 1) := by decide +kernel
theorem dX1_stateBehind_43 : decode cX1_stateBehind 43 = .ok (.invokestatic 31, 3) := by decide +kernel
theorem dX1_stateBehind_46 : decode cX1_stateBehind 46 = .ok (.ifCond .ne 6, 3) := by decide +kernel
theorem dX1_stateBehind_49 : decode cX1_stateBehind 49 = .ok (.bipush (-6), 2) := by decide +kernel
theorem dX1_stateBehind_51 : decode cX1_stateBehind 51 = .ok (.ireturn, 1) := by decide +kernel
theorem dX1_stateBehind_52 : decode cX1_stateBehind 52 = .ok (.iload_n 0, 1) := by decide +kernel
theorem dX1_stateBehind_53 : decode cX1_stateBehind 53 = .ok (.ifCond .ne 7, 3) := by decide +kernel
theorem dX1_stateBehind_56 : decode cX1_stateBehind 56 = .ok (.iconst 1, 1) := by decide +kernel
theorem dX1_stateBehind_57 : decode cX1_stateBehind 57 = .ok (.goto 4, 3) := by decide +kernel
theorem dX1_stateBehind_60 : decode cX1_stateBehind 60 = .ok (.iconst 0, 1) := by decide +kernel
theorem dX1_stateBehind_61 : decode cX1_stateBehind 61 = .ok (.ireturn, 1) := by decide +kernel
theorem dX1_isDeed_0 : decode cX1_isDeed 0 = .ok (.iload_n 0, 1) := by decide +kernel
theorem dX1_isDeed_1 : decode cX1_isDeed 1 = .ok (.bipush 49, 2) := by decide +kernel
theorem dX1_isDeed_3 : decode cX1_isDeed 3 = .ok (.if_icmp .lt 9, 3) := by decide +kernel
theorem dX1_isDeed_6 : decode cX1_isDeed 6 = .ok (.iload_n 0, 1) := by decide +kernel
theorem dX1_isDeed_7 : decode cX1_isDeed 7 = .ok (.bipush 57, 2) := by decide +kernel
theorem dX1_isDeed_9 : decode cX1_isDeed 9 = .ok (.if_icmp .le 33, 3) := by decide +kernel
theorem dX1_isDeed_12 : decode cX1_isDeed 12 = .ok (.iload_n 0, 1) := by decide +kernel
theorem dX1_isDeed_13 : decode cX1_isDeed 13 = .ok (.bipush 43, 2) := by decide +kernel
theorem dX1_isDeed_15 : decode cX1_isDeed 15 = .ok (.if_icmp .eq 27, 3) := by decide +kernel
theorem dX1_isDeed_18 : decode cX1_isDeed 18 = .ok (.iload_n 0, 1) := by decide +kernel
theorem dX1_isDeed_19 : decode cX1_isDeed 19 = .ok (.bipush 61, 2) := by decide +kernel
theorem dX1_isDeed_21 : decode cX1_isDeed 21 = .ok (.if_icmp .eq 21, 3) := by decide +kernel
theorem dX1_isDeed_24 : decode cX1_isDeed 24 = .ok (.iload_n 0, 1) := by decide +kernel
theorem dX1_isDeed_25 : decode cX1_isDeed 25 = .ok (.bipush 47, 2) := by decide +kernel
theorem dX1_isDeed_27 : decode cX1_isDeed 27 = .ok (.if_icmp .eq 15, 3) := by decide +kernel
theorem dX1_isDeed_30 : decode cX1_isDeed 30 = .ok (.iload_n 0, 1) := by decide +kernel
theorem dX1_isDeed_31 : decode cX1_isDeed 31 = .ok (.bipush 94, 2) := by decide +kernel
theorem dX1_isDeed_33 : decode cX1_isDeed 33 = .ok (.if_icmp .eq 9, 3) := by decide +kernel
theorem dX1_isDeed_36 : decode cX1_isDeed 36 = .ok (.iload_n 0, 1) := by decide +kernel
theorem dX1_isDeed_37 : decode cX1_isDeed 37 = .ok (.bipush 35, 2) := by decide +kernel
theorem dX1_isDeed_39 : decode cX1_isDeed 39 = .ok (.if_icmp .ne 7, 3) := by decide +kernel
theorem dX1_isDeed_42 : decode cX1_isDeed 42 = .ok (.iconst 1, 1) := by decide +kernel
theorem dX1_isDeed_43 : decode cX1_isDeed 43 = .ok (.goto 4, 3) := by decide +kernel
theorem dX1_isDeed_46 : decode cX1_isDeed 46 = .ok (.iconst 0, 1) := by decide +kernel
theorem dX1_isDeed_47 : decode cX1_isDeed 47 = .ok (.ireturn, 1) := by decide +kernel
theorem dX2_init_0 : decode cX2_init 0 = .ok (.aload_n 0, 1) := by decide +kernel
theorem dX2_init_1 : decode cX2_init 1 = .ok (.invokespecial 3, 3) := by decide +kernel
theorem dX2_init_4 : decode cX2_init 4 = .ok (.aload_n 0, 1) := by decide +kernel
theorem dX2_init_5 : decode cX2_init 5 = .ok (.bipush 36, 2) := by decide +kernel
theorem dX2_init_7 : decode cX2_init 7 = .ok (.newarray .int, 2) := by decide +kernel
theorem dX2_init_9 : decode cX2_init 9 = .ok (.putfield 9, 3) := by decide +kernel
theorem dX2_init_12 : decode cX2_init 12 = .ok (.aload_n 0, 1) := by decide +kernel
theorem dX2_init_13 : decode cX2_init 13 = .ok (.bipush 6, 2) := by decide +kernel
theorem dX2_init_15 : decode cX2_init 15 = .ok (.newarray .int, 2) := by decide +kernel
theorem dX2_init_17 : decode cX2_init 17 = .ok (.putfield 15, 3) := by decide +kernel
theorem dX2_init_20 : decode cX2_init 20 = .ok (.aload_n 0, 1) := by decide +kernel
theorem dX2_init_21 : decode cX2_init 21 = .ok (.bipush 6, 2) := by decide +kernel
theorem dX2_init_23 : decode cX2_init 23 = .ok (.newarray .int, 2) := by decide +kernel
theorem dX2_init_25 : decode cX2_init 25 = .ok (.putfield 18, 3) := by decide +kernel
theorem dX2_init_28 : decode cX2_init 28 = .ok (.iconst 0, 1) := by decide +kernel
theorem dX2_init_29 : decode cX2_init 29 = .ok (.istore_n 1, 1) := by decide +kernel
theorem dX2_init_30 : decode cX2_init 30 = .ok (.iload_n 1, 1) := by decide +kernel
theorem dX2_init_31 : decode cX2_init 31 = .ok (.bipush 36, 2) := by decide +kernel
theorem dX2_init_33 : decode cX2_init 33 = .ok (.if_icmp .ge 19, 3) := by decide +kernel
theorem dX2_init_36 : decode cX2_init 36 = .ok (.aload_n 0, 1) := by decide +kernel
theorem dX2_init_37 : decode cX2_init 37 = .ok (.getfield 9, 3) := by decide +kernel
theorem dX2_init_40 : decode cX2_init 40 = .ok (.iload_n 1, 1) := by decide +kernel
theorem dX2_init_41 : decode cX2_init 41 = .ok (.iload_n 1, 1) := by decide +kernel
theorem dX2_init_42 : decode cX2_init 42 = .ok (.bipush 6, 2) := by decide +kernel
theorem dX2_init_44 : decode cX2_init 44 = .ok (.irem, 1) := by decide +kernel
theorem dX2_init_45 : decode cX2_init 45 = .ok (.iastore, 1) := by decide +kernel
theorem dX2_init_46 : decode cX2_init 46 = .ok (.iinc 1 1, 3) := by decide +kernel
theorem dX2_init_49 : decode cX2_init 49 = .ok (.goto (-19), 3) := by decide +kernel
theorem dX2_init_52 : decode cX2_init 52 = .ok (.return_, 1) := by decide +kernel
theorem dX2_takeFrom_0 : decode cX2_takeFrom 0 = .ok (.aload_n 1, 1) := by decide +kernel
theorem dX2_takeFrom_1 : decode cX2_takeFrom 1 = .ok (.getfield 9, 3) := by decide +kernel
theorem dX2_takeFrom_4 : decode cX2_takeFrom 4 = .ok (.iconst 0, 1) := by decide +kernel
theorem dX2_takeFrom_5 : decode cX2_takeFrom 5 = .ok (.aload_n 0, 1) := by decide +kernel
theorem dX2_takeFrom_6 : decode cX2_takeFrom 6 = .ok (.getfield 9, 3) := by decide +kernel
theorem dX2_takeFrom_9 : decode cX2_takeFrom 9 = .ok (.iconst 0, 1) := by decide +kernel
theorem dX2_takeFrom_10 : decode cX2_takeFrom 10 = .ok (.bipush 36, 2) := by decide +kernel
theorem dX2_takeFrom_12 : decode cX2_takeFrom 12 = .ok (.invokestatic 21, 3) := by decide +kernel
theorem dX2_takeFrom_15 : decode cX2_takeFrom 15 = .ok (.return_, 1) := by decide +kernel
theorem dX2_isRow_0 : decode cX2_isRow 0 = .ok (.iload_n 0, 1) := by decide +kernel
theorem dX2_isRow_1 : decode cX2_isRow 1 = .ok (.ifCond .ge 5, 3) := by decide +kernel
theorem dX2_isRow_4 : decode cX2_isRow 4 = .ok (.iconst 0, 1) := by decide +kernel
theorem dX2_isRow_5 : decode cX2_isRow 5 = .ok (.ireturn, 1) := by decide +kernel
theorem dX2_isRow_6 : decode cX2_isRow 6 = .ok (.iconst 0, 1) := by decide +kernel
theorem dX2_isRow_7 : decode cX2_isRow 7 = .ok (.istore_n 1, 1) := by decide +kernel
theorem dX2_isRow_8 : decode cX2_isRow 8 = .ok (.iload_n 0, 1) := by decide +kernel
theorem dX2_isRow_9 : decode cX2_isRow 9 = .ok (.istore_n 2, 1) := by decide +kernel
theorem dX2_isRow_10 : decode cX2_isRow 10 = .ok (.iconst 0, 1) := by decide +kernel
theorem dX2_isRow_11 : decode cX2_isRow 11 = .ok (.istore_n 3, 1) := by decide +kernel
theorem dX2_isRow_12 : decode cX2_isRow 12 = .ok (.iload_n 3, 1) := by decide +kernel
theorem dX2_isRow_13 : decode cX2_isRow 13 = .ok (.bipush 6, 2) := by decide +kernel
theorem dX2_isRow_15 : decode cX2_isRow 15 = .ok (.if_icmp .ge 23, 3) := by decide +kernel
theorem dX2_isRow_18 : decode cX2_isRow 18 = .ok (.iload_n 1, 1) := by decide +kernel
theorem dX2_isRow_19 : decode cX2_isRow 19 = .ok (.iconst 1, 1) := by decide +kernel
theorem dX2_isRow_20 : decode cX2_isRow 20 = .ok (.iload_n 2, 1) := by decide +kernel
theorem dX2_isRow_21 : decode cX2_isRow 21 = .ok (.bipush 10, 2) := by decide +kernel
theorem dX2_isRow_23 : decode cX2_isRow 23 = .ok (.irem, 1) := by decide +kernel
theorem dX2_isRow_24 : decode cX2_isRow 24 = .ok (.ishl, 1) := by decide +kernel
theorem dX2_isRow_25 : decode cX2_isRow 25 = .ok (.ior, 1) := by decide +kernel
theorem dX2_isRow_26 : decode cX2_isRow 26 = .ok (.istore_n 1, 1) := by decide +kernel
theorem dX2_isRow_27 : decode cX2_isRow 27 = .ok (.iload_n 2, 1) := by decide +kernel
theorem dX2_isRow_28 : decode cX2_isRow 28 = .ok (.bipush 10, 2) := by decide +kernel
theorem dX2_isRow_30 : decode cX2_isRow 30 = .ok (.idiv, 1) := by decide +kernel
theorem dX2_isRow_31 : decode cX2_isRow 31 = .ok (.istore_n 2, 1) := by decide +kernel
theorem dX2_isRow_32 : decode cX2_isRow 32 = .ok (.iinc 3 1, 3) := by decide +kernel
theorem dX2_isRow_35 : decode cX2_isRow 35 = .ok (.goto (-23), 3) := by decide +kernel
theorem dX2_isRow_38 : decode cX2_isRow 38 = .ok (.iload_n 2, 1) := by decide +kernel
theorem dX2_isRow_39 : decode cX2_isRow 39 = .ok (.ifCond .ne 13, 3) := by decide +kernel
theorem dX2_isRow_42 : decode cX2_isRow 42 = .ok (.iload_n 1, 1) := by decide +kernel
theorem dX2_isRow_43 : decode cX2_isRow 43 = .ok (.bipush 63, 2) := by decide +kernel
theorem dX2_isRow_45 : decode cX2_isRow 45 = .ok (.if_icmp .ne 7, 3) := by decide +kernel
theorem dX2_isRow_48 : decode cX2_isRow 48 = .ok (.iconst 1, 1) := by decide +kernel
theorem dX2_isRow_49 : decode cX2_isRow 49 = .ok (.goto 4, 3) := by decide +kernel
theorem dX2_isRow_52 : decode cX2_isRow 52 = .ok (.iconst 0, 1) := by decide +kernel
theorem dX2_isRow_53 : decode cX2_isRow 53 = .ok (.ireturn, 1) := by decide +kernel
set_option maxRecDepth 20000 in
theorem ggX2_row_X2_placeAt : GoodIn wsX2_row wsX2_placeAt := goodIn_r _ [5, 6, 7, 8, 9] (by decide +kernel) (by decide +kernel)
set_option maxRecDepth 20000 in
theorem gX2_row_X2_placeAt : GoodIn wsX2_row (wsV RX2 27 RX2 yX2_placeAt wsX2_placeAt) := goodIn_app (goodIn_of _ (by decide +kernel)) ggX2_row_X2_placeAt
theorem dX2_row_0 : decode cX2_row 0 = .ok (.iconst 0, 1) := by decide +kernel
theorem dX2_row_1 : decode cX2_row 1 = .ok (.istore_n 2, 1) := by decide +kernel
theorem dX2_row_2 : decode cX2_row 2 = .ok (.iconst 0, 1) := by decide +kernel
theorem dX2_row_3 : decode cX2_row 3 = .ok (.istore_n 3, 1) := by decide +kernel
theorem dX2_row_4 : decode cX2_row 4 = .ok (.iload_n 3, 1) := by decide +kernel
theorem dX2_row_5 : decode cX2_row 5 = .ok (.bipush 6, 2) := by decide +kernel
theorem dX2_row_7 : decode cX2_row 7 = .ok (.if_icmp .ge 21, 3) := by decide +kernel
theorem dX2_row_10 : decode cX2_row 10 = .ok (.bipush 10, 2) := by decide +kernel
theorem dX2_row_12 : decode cX2_row 12 = .ok (.iload_n 2, 1) := by decide +kernel
theorem dX2_row_13 : decode cX2_row 13 = .ok (.imul, 1) := by decide +kernel
theorem dX2_row_14 : decode cX2_row 14 = .ok (.aload_n 0, 1) := by decide +kernel
theorem dX2_row_15 : decode cX2_row 15 = .ok (.iload_n 1, 1) := by decide +kernel
theorem dX2_row_16 : decode cX2_row 16 = .ok (.iload_n 3, 1) := by decide +kernel
theorem dX2_row_17 : decode cX2_row 17 = .ok (.invokevirtual 27, 3) := by decide +kernel
theorem dX2_row_20 : decode cX2_row 20 = .ok (.iadd, 1) := by decide +kernel
theorem dX2_row_21 : decode cX2_row 21 = .ok (.istore_n 2, 1) := by decide +kernel
theorem dX2_row_22 : decode cX2_row 22 = .ok (.iinc 3 1, 3) := by decide +kernel
theorem dX2_row_25 : decode cX2_row 25 = .ok (.goto (-21), 3) := by decide +kernel
theorem dX2_row_28 : decode cX2_row 28 = .ok (.iload_n 2, 1) := by decide +kernel
theorem dX2_row_29 : decode cX2_row 29 = .ok (.ireturn, 1) := by decide +kernel
theorem dX2_setRow_0 : decode cX2_setRow 0 = .ok (.iload_n 1, 1) := by decide +kernel
theorem dX2_setRow_1 : decode cX2_setRow 1 = .ok (.ifCond .lt 9, 3) := by decide +kernel
theorem dX2_setRow_4 : decode cX2_setRow 4 = .ok (.iload_n 1, 1) := by decide +kernel
theorem dX2_setRow_5 : decode cX2_setRow 5 = .ok (.bipush 6, 2) := by decide +kernel
theorem dX2_setRow_7 : decode cX2_setRow 7 = .ok (.if_icmp .lt 4, 3) := by decide +kernel
theorem dX2_setRow_10 : decode cX2_setRow 10 = .ok (.return_, 1) := by decide +kernel
theorem dX2_setRow_11 : decode cX2_setRow 11 = .ok (.iload_n 2, 1) := by decide +kernel
theorem dX2_setRow_12 : decode cX2_setRow 12 = .ok (.istore_n 3, 1) := by decide +kernel
theorem dX2_setRow_13 : decode cX2_setRow 13 = .ok (.iconst 5, 1) := by decide +kernel
theorem dX2_setRow_14 : decode cX2_setRow 14 = .ok (.istore 4, 2) := by decide +kernel
theorem dX2_setRow_16 : decode cX2_setRow 16 = .ok (.iload 4, 2) := by decide +kernel
theorem dX2_setRow_18 : decode cX2_setRow 18 = .ok (.ifCond .lt 30, 3) := by decide +kernel
theorem dX2_setRow_21 : decode cX2_setRow 21 = .ok (.aload_n 0, 1) := by decide +kernel
theorem dX2_setRow_22 : decode cX2_setRow 22 = .ok (.getfield 9, 3) := by decide +kernel
theorem dX2_setRow_25 : decode cX2_setRow 25 = .ok (.bipush 6, 2) := by decide +kernel
theorem dX2_setRow_27 : decode cX2_setRow 27 = .ok (.iload_n 1, 1) := by decide +kernel
theorem dX2_setRow_28 : decode cX2_setRow 28 = .ok (.imul, 1) := by decide +kernel
theorem dX2_setRow_29 : decode cX2_setRow 29 = .ok (.iload 4, 2) := by decide +kernel
theorem dX2_setRow_31 : decode cX2_setRow 31 = .ok (.iadd, 1) := by decide +kernel
theorem dX2_setRow_32 : decode cX2_setRow 32 = .ok (.iload_n 3, 1) := by decide +kernel
theorem dX2_setRow_33 : decode cX2_setRow 33 = .ok (.bipush 10, 2) := by decide +kernel
theorem dX2_setRow_35 : decode cX2_setRow 35 = .ok (.irem, 1) := by decide +kernel
theorem dX2_setRow_36 : decode cX2_setRow 36 = .ok (.iastore, 1) := by decide +kernel
theorem dX2_setRow_37 : decode cX2_setRow 37 = .ok (.iload_n 3, 1) := by decide +kernel
theorem dX2_setRow_38 : decode cX2_setRow 38 = .ok (.bipush 10, 2) := by decide +kernel
theorem dX2_setRow_40 : decode cX2_setRow 40 = .ok (.idiv, 1) := by decide +kernel
theorem dX2_setRow_41 : decode cX2_setRow 41 = .ok (.istore_n 3, 1) := by decide +kernel
theorem dX2_setRow_42 : decode cX2_setRow 42 = .ok (.iinc 4 (-1), 3) := by decide +kernel
theorem dX2_setRow_45 : decode cX2_setRow 45 = .ok (.goto (-29), 3) := by decide +kernel
theorem dX2_setRow_48 : decode cX2_setRow 48 = .ok (.return_, 1) := by decide +kernel
theorem dX2_placeAt_0 : decode cX2_placeAt 0 = .ok (.iload_n 1, 1) := by decide +kernel
theorem dX2_placeAt_1 : decode cX2_placeAt 1 = .ok (.ifCond .lt 23, 3) := by decide +kernel
theorem dX2_placeAt_4 : decode cX2_placeAt 4 = .ok (.iload_n 1, 1) := by decide +kernel
theorem dX2_placeAt_5 : decode cX2_placeAt 5 = .ok (.bipush 6, 2) := by decide +kernel
theorem dX2_placeAt_7 : decode cX2_placeAt 7 = .ok (.if_icmp .ge 17, 3) := by decide +kernel
theorem dX2_placeAt_10 : decode cX2_placeAt 10 = .ok (.iload_n 2, 1) := by decide +kernel
theorem dX2_placeAt_11 : decode cX2_placeAt 11 = .ok (.ifCond .lt 13, 3) := by decide +kernel
theorem dX2_placeAt_14 : decode cX2_placeAt 14 = .ok (.iload_n 2, 1) := by decide +kernel
theorem dX2_placeAt_15 : decode cX2_placeAt 15 = .ok (.bipush 6, 2) := by decide +kernel
theorem dX2_placeAt_17 : decode cX2_placeAt 17 = .ok (.if_icmp .ge 7, 3) := by decide +kernel
theorem dX2_placeAt_20 : decode cX2_placeAt 20 = .ok (.iconst 1, 1) := by decide +kernel
theorem dX2_placeAt_21 : decode cX2_placeAt 21 = .ok (.goto 4, 3) := by decide +kernel
theorem dX2_placeAt_24 : decode cX2_placeAt 24 = .ok (.iconst 0, 1) := by decide +kernel
theorem dX2_placeAt_25 : decode cX2_placeAt 25 = .ok (.istore_n 3, 1) := by decide +kernel
theorem dX2_placeAt_26 : decode cX2_placeAt 26 = .ok (.iload_n 3, 1) := by decide +kernel
theorem dX2_placeAt_27 : decode cX2_placeAt 27 = .ok (.ifCond .eq 17, 3) := by decide +kernel
theorem dX2_placeAt_30 : decode cX2_placeAt 30 = .ok (.aload_n 0, 1) := by decide +kernel
theorem dX2_placeAt_31 : decode cX2_placeAt 31 = .ok (.getfield 9, 3) := by decide +kernel
theorem dX2_placeAt_34 : decode cX2_placeAt 34 = .ok (.bipush 6, 2) := by decide +kernel
theorem dX2_placeAt_36 : decode cX2_placeAt 36 = .ok (.iload_n 1, 1) := by decide +kernel
theorem dX2_placeAt_37 : decode cX2_placeAt 37 = .ok (.imul, 1) := by decide +kernel
theorem dX2_placeAt_38 : decode cX2_placeAt 38 = .ok (.iload_n 2, 1) := by decide +kernel
theorem dX2_placeAt_39 : decode cX2_placeAt 39 = .ok (.iadd, 1) := by decide +kernel
theorem dX2_placeAt_40 : decode cX2_placeAt 40 = .ok (.iaload, 1) := by decide +kernel
theorem dX2_placeAt_41 : decode cX2_placeAt 41 = .ok (.goto 5, 3) := by decide +kernel
theorem dX2_placeAt_44 : decode cX2_placeAt 44 = .ok (.bipush (-6), 2) := by decide +kernel
theorem dX2_placeAt_46 : decode cX2_placeAt 46 = .ok (.ireturn, 1) := by decide +kernel
set_option maxRecDepth 20000 in
theorem ggX2_makeRings_X2_bestOf : GoodIn wsX2_makeRings wsX2_bestOf := goodIn_r _ [7, 8, 9, 10, 6, 11, 12, 17, 18, 19] (by decide +kernel) (by decide +kernel)
set_option maxRecDepth 20000 in
theorem gX2_makeRings_X2_bestOf : GoodIn wsX2_makeRings (wsV RX2 31 RX2 yX2_bestOf wsX2_bestOf) := goodIn_app (goodIn_of _ (by decide +kernel)) ggX2_makeRings_X2_bestOf
set_option maxRecDepth 20000 in
theorem ggX2_makeRings_X2_isInRing : GoodIn wsX2_makeRings wsX2_isInRing := goodIn_r _ [16, 1, 17, 18, 19] (by decide +kernel) (by decide +kernel)
set_option maxRecDepth 20000 in
theorem gX2_makeRings_X2_isInRing : GoodIn wsX2_makeRings (wsV RX2 34 RX2 yX2_isInRing wsX2_isInRing) := goodIn_app (goodIn_of _ (by decide +kernel)) ggX2_makeRings_X2_isInRing
theorem dX2_makeRings_0 : decode cX2_makeRings 0 = .ok (.bipush 63, 2) := by decide +kernel
theorem dX2_makeRings_2 : decode cX2_makeRings 2 = .ok (.istore_n 1, 1) := by decide +kernel
theorem dX2_makeRings_3 : decode cX2_makeRings 3 = .ok (.iconst 0, 1) := by decide +kernel
theorem dX2_makeRings_4 : decode cX2_makeRings 4 = .ok (.istore_n 2, 1) := by decide +kernel
theorem dX2_makeRings_5 : decode cX2_makeRings 5 = .ok (.iload_n 2, 1) := by decide +kernel
theorem dX2_makeRings_6 : decode cX2_makeRings 6 = .ok (.bipush 6, 2) := by decide +kernel
theorem dX2_makeRings_8 : decode cX2_makeRings 8 = .ok (.if_icmp .ge 103, 3) := by decide +kernel
theorem dX2_makeRings_11 : decode cX2_makeRings 11 = .ok (.iload_n 1, 1) := by decide +kernel
theorem dX2_makeRings_12 : decode cX2_makeRings 12 = .ok (.ifCond .eq 99, 3) := by decide +kernel
theorem dX2_makeRings_15 : decode cX2_makeRings 15 = .ok (.iconst 0, 1) := by decide +kernel
theorem dX2_makeRings_16 : decode cX2_makeRings 16 = .ok (.istore_n 3, 1) := by decide +kernel
theorem dX2_makeRings_17 : decode cX2_makeRings 17 = .ok (.iload_n 3, 1) := by decide +kernel
theorem dX2_makeRings_18 : decode cX2_makeRings 18 = .ok (.bipush 6, 2) := by decide +kernel
theorem dX2_makeRings_20 : decode cX2_makeRings 20 = .ok (.if_icmp .ge 21, 3) := by decide +kernel
theorem dX2_makeRings_23 : decode cX2_makeRings 23 = .ok (.aload_n 0, 1) := by decide +kernel
theorem dX2_makeRings_24 : decode cX2_makeRings 24 = .ok (.getfield 18, 3) := by decide +kernel
theorem dX2_makeRings_27 : decode cX2_makeRings 27 = .ok (.iload_n 3, 1) := by decide +kernel
theorem dX2_makeRings_28 : decode cX2_makeRings 28 = .ok (.aload_n 0, 1) := by decide +kernel
theorem dX2_makeRings_29 : decode cX2_makeRings 29 = .ok (.iload_n 3, 1) := by decide +kernel
theorem dX2_makeRings_30 : decode cX2_makeRings 30 = .ok (.iload_n 1, 1) := by decide +kernel
theorem dX2_makeRings_31 : decode cX2_makeRings 31 = .ok (.invokevirtual 31, 3) := by decide +kernel
theorem dX2_makeRings_34 : decode cX2_makeRings 34 = .ok (.iastore, 1) := by decide +kernel
theorem dX2_makeRings_35 : decode cX2_makeRings 35 = .ok (.iinc 3 1, 3) := by decide +kernel
theorem dX2_makeRings_38 : decode cX2_makeRings 38 = .ok (.goto (-21), 3) := by decide +kernel
theorem dX2_makeRings_41 : decode cX2_makeRings 41 = .ok (.iconst 0, 1) := by decide +kernel
theorem dX2_makeRings_42 : decode cX2_makeRings 42 = .ok (.istore_n 3, 1) := by decide +kernel
theorem dX2_makeRings_43 : decode cX2_makeRings 43 = .ok (.iconst 0, 1) := by decide +kernel
theorem dX2_makeRings_44 : decode cX2_makeRings 44 = .ok (.istore 4, 2) := by decide +kernel
theorem dX2_makeRings_46 : decode cX2_makeRings 46 = .ok (.iload 4, 2) := by decide +kernel
theorem dX2_makeRings_48 : decode cX2_makeRings 48 = .ok (.bipush 6, 2) := by decide +kernel
theorem dX2_makeRings_50 : decode cX2_makeRings 50 = .ok (.if_icmp .ge 49, 3) := by decide +kernel
theorem dX2_makeRings_53 : decode cX2_makeRings 53 = .ok (.iload_n 1, 1) := by decide +kernel
theorem dX2_makeRings_54 : decode cX2_makeRings 54 = .ok (.iload 4, 2) := by decide +kernel
theorem dX2_makeRings_56 : decode cX2_makeRings 56 = .ok (.ishr, 1) := by decide +kernel
theorem dX2_makeRings_57 : decode cX2_makeRings 57 = .ok (.iconst 1, 1) := by decide +kernel
theorem dX2_makeRings_58 : decode cX2_makeRings 58 = .ok (.iand, 1) := by decide +kernel
theorem dX2_makeRings_59 : decode cX2_makeRings 59 = .ok (.iconst 1, 1) := by decide +kernel
theorem dX2_makeRings_60 : decode cX2_makeRings 60 = .ok (.if_icmp .ne 33, 3) := by decide +kernel
theorem dX2_makeRings_63 : decode cX2_makeRings 63 = .ok (.aload_n 0, 1) := by decide +kernel
theorem dX2_makeRings_64 : decode cX2_makeRings 64 = .ok (.iload 4, 2) := by decide +kernel
theorem dX2_makeRings_66 : decode cX2_makeRings 66 = .ok (.invokevirtual 34, 3) := by decide +kernel
theorem dX2_makeRings_69 : decode cX2_makeRings 69 = .ok (.ifCond .eq 24, 3) := by decide +kernel
theorem dX2_makeRings_72 : decode cX2_makeRings 72 = .ok (.aload_n 0, 1) := by decide +kernel
theorem dX2_makeRings_73 : decode cX2_makeRings 73 = .ok (.getfield 15, 3) := by decide +kernel
theorem dX2_makeRings_76 : decode cX2_makeRings 76 = .ok (.iload 4, 2) := by decide +kernel
theorem dX2_makeRings_78 : decode cX2_makeRings 78 = .ok (.aload_n 0, 1) := by decide +kernel
theorem dX2_makeRings_79 : decode cX2_makeRings 79 = .ok (.getfield 18, 3) := by decide +kernel
theorem dX2_makeRings_82 : decode cX2_makeRings 82 = .ok (.iload 4, 2) := by decide +kernel
theorem dX2_makeRings_84 : decode cX2_makeRings 84 = .ok (.iaload, 1) := by decide +kernel
theorem dX2_makeRings_85 : decode cX2_makeRings 85 = .ok (.iastore, 1) := by decide +kernel
theorem dX2_makeRings_86 : decode cX2_makeRings 86 = .ok (.iload_n 3, 1) := by decide +kernel
theorem dX2_makeRings_87 : decode cX2_makeRings 87 = .ok (.iconst 1, 1) := by decide +kernel
theorem dX2_makeRings_88 : decode cX2_makeRings 88 = .ok (.iload 4, 2) := by decide +kernel
theorem dX2_makeRings_90 : decode cX2_makeRings 90 = .ok (.ishl, 1) := by decide +kernel
theorem dX2_makeRings_91 : decode cX2_makeRings 91 = .ok (.ior, 1) := by decide +kernel
theorem dX2_makeRings_92 : decode cX2_makeRings 92 = .ok (.istore_n 3, 1) := by decide +kernel
theorem dX2_makeRings_93 : decode cX2_makeRings 93 = .ok (.iinc 4 1, 3) := by decide +kernel
theorem dX2_makeRings_96 : decode cX2_makeRings 96 = .ok (.goto (-50), 3) := by decide +kernel
theorem dX2_makeRings_99 : decode cX2_makeRings 99 = .ok (.iload_n 1, 1) := by decide +kernel
theorem dX2_makeRings_100 : decode cX2_makeRings 100 = .ok (.iload_n 3, 1) := by decide +kernel
theorem dX2_makeRings_101 : decode cX2_makeRings 101 = .ok (.iconst (-1), 1) := by decide +kernel
theorem dX2_makeRings_102 : decode cX2_makeRings 102 = .ok (.ixor, 1) := by decide +kernel
theorem dX2_makeRings_103 : decode cX2_makeRings 103 = .ok (.iand, 1) := by decide +kernel
theorem dX2_makeRings_104 : decode cX2_makeRings 104 = .ok (.istore_n 1, 1) := by decide +kernel
theorem dX2_makeRings_105 : decode cX2_makeRings 105 = .ok (.iinc 2 1, 3) := by decide +kernel
theorem dX2_makeRings_108 : decode cX2_makeRings 108 = .ok (.goto (-103), 3) := by decide +kernel
theorem dX2_makeRings_111 : decode cX2_makeRings 111 = .ok (.return_, 1) := by decide +kernel
set_option maxRecDepth 20000 in
theorem ggX2_bestOf_X2_placeAt : GoodIn wsX2_bestOf wsX2_placeAt := goodIn_r _ [5, 6, 7, 8, 9] (by decide +kernel) (by decide +kernel)
set_option maxRecDepth 20000 in
theorem gX2_bestOf_X2_placeAt : GoodIn wsX2_bestOf (wsV RX2 27 RX2 yX2_placeAt wsX2_placeAt) := goodIn_app (goodIn_of _ (by decide +kernel)) ggX2_bestOf_X2_placeAt
theorem dX2_bestOf_0 : decode cX2_bestOf 0 = .ok (.iconst 0, 1) := by decide +kernel
theorem dX2_bestOf_1 : decode cX2_bestOf 1 = .ok (.istore_n 3, 1) := by decide +kernel
theorem dX2_bestOf_2 : decode cX2_bestOf 2 = .ok (.iload_n 3, 1) := by decide +kernel
theorem dX2_bestOf_3 : decode cX2_bestOf 3 = .ok (.bipush 6, 2) := by decide +kernel
theorem dX2_bestOf_5 : decode cX2_bestOf 5 = .ok (.if_icmp .ge 35, 3) := by decide +kernel
theorem dX2_bestOf_8 : decode cX2_bestOf 8 = .ok (.aload_n 0, 1) := by decide +kernel
theorem dX2_bestOf_9 : decode cX2_bestOf 9 = .ok (.iload_n 1, 1) := by decide +kernel
theorem dX2_bestOf_10 : decode cX2_bestOf 10 = .ok (.iload_n 3, 1) := by decide +kernel
theorem dX2_bestOf_11 : decode cX2_bestOf 11 = .ok (.invokevirtual 27, 3) := by decide +kernel
theorem dX2_bestOf_14 : decode cX2_bestOf 14 = .ok (.istore 4, 2) := by decide +kernel
theorem dX2_bestOf_16 : decode cX2_bestOf 16 = .ok (.iload 4, 2) := by decide +kernel
theorem dX2_bestOf_18 : decode cX2_bestOf 18 = .ok (.ifCond .lt 16, 3) := by decide +kernel
theorem dX2_bestOf_21 : decode cX2_bestOf 21 = .ok (.iload_n 2, 1) := by decide +kernel
theorem dX2_bestOf_22 : decode cX2_bestOf 22 = .ok (.iload 4, 2) := by decide +kernel
theorem dX2_bestOf_24 : decode cX2_bestOf 24 = .ok (.ishr, 1) := by decide +kernel
theorem dX2_bestOf_25 : decode cX2_bestOf 25 = .ok (.iconst 1, 1) := by decide +kernel
theorem dX2_bestOf_26 : decode cX2_bestOf 26 = .ok (.iand, 1) := by decide +kernel
theorem dX2_bestOf_27 : decode cX2_bestOf 27 = .ok (.iconst 1, 1) := by decide +kernel
theorem dX2_bestOf_28 : decode cX2_bestOf 28 = .ok (.if_icmp .ne 6, 3) := by decide +kernel
theorem dX2_bestOf_31 : decode cX2_bestOf 31 = .ok (.iload 4, 2) := by decide +kernel
theorem dX2_bestOf_33 : decode cX2_bestOf 33 = .ok (.ireturn, 1) := by decide +kernel
theorem dX2_bestOf_34 : decode cX2_bestOf 34 = .ok (.iinc 3 1, 3) := by decide +kernel
theorem dX2_bestOf_37 : decode cX2_bestOf 37 = .ok (.goto (-35), 3) := by decide +kernel
theorem dX2_bestOf_40 : decode cX2_bestOf 40 = .ok (.bipush (-6), 2) := by decide +kernel
theorem dX2_bestOf_42 : decode cX2_bestOf 42 = .ok (.ireturn, 1) := by decide +kernel
theorem dX2_isInRing_0 : decode cX2_isInRing 0 = .ok (.iload_n 1, 1) := by decide +kernel
theorem dX2_isInRing_1 : decode cX2_isInRing 1 = .ok (.istore_n 2, 1) := by decide +kernel
theorem dX2_isInRing_2 : decode cX2_isInRing 2 = .ok (.iconst 0, 1) := by decide +kernel
theorem dX2_isInRing_3 : decode cX2_isInRing 3 = .ok (.istore_n 3, 1) := by decide +kernel
theorem dX2_isInRing_4 : decode cX2_isInRing 4 = .ok (.iload_n 3, 1) := by decide +kernel
theorem dX2_isInRing_5 : decode cX2_isInRing 5 = .ok (.bipush 6, 2) := by decide +kernel
theorem dX2_isInRing_7 : decode cX2_isInRing 7 = .ok (.if_icmp .ge 33, 3) := by decide +kernel
theorem dX2_isInRing_10 : decode cX2_isInRing 10 = .ok (.iload_n 2, 1) := by decide +kernel
theorem dX2_isInRing_11 : decode cX2_isInRing 11 = .ok (.ifCond .lt 29, 3) := by decide +kernel
theorem dX2_isInRing_14 : decode cX2_isInRing 14 = .ok (.iload_n 2, 1) := by decide +kernel
theorem dX2_isInRing_15 : decode cX2_isInRing 15 = .ok (.bipush 6, 2) := by decide +kernel
theorem dX2_isInRing_17 : decode cX2_isInRing 17 = .ok (.if_icmp .ge 23, 3) := by decide +kernel
theorem dX2_isInRing_20 : decode cX2_isInRing 20 = .ok (.aload_n 0, 1) := by decide +kernel
theorem dX2_isInRing_21 : decode cX2_isInRing 21 = .ok (.getfield 18, 3) := by decide +kernel
theorem dX2_isInRing_24 : decode cX2_isInRing 24 = .ok (.iload_n 2, 1) := by decide +kernel
theorem dX2_isInRing_25 : decode cX2_isInRing 25 = .ok (.iaload, 1) := by decide +kernel
theorem dX2_isInRing_26 : decode cX2_isInRing 26 = .ok (.istore_n 2, 1) := by decide +kernel
theorem dX2_isInRing_27 : decode cX2_isInRing 27 = .ok (.iload_n 2, 1) := by decide +kernel
theorem dX2_isInRing_28 : decode cX2_isInRing 28 = .ok (.iload_n 1, 1) := by decide +kernel
theorem dX2_isInRing_29 : decode cX2_isInRing 29 = .ok (.if_icmp .ne 5, 3) := by decide +kernel
theorem dX2_isInRing_32 : decode cX2_isInRing 32 = .ok (.iconst 1, 1) := by decide +kernel
theorem dX2_isInRing_33 : decode cX2_isInRing 33 = .ok (.ireturn, 1) := by decide +kernel
theorem dX2_isInRing_34 : decode cX2_isInRing 34 = .ok (.iinc 3 1, 3) := by decide +kernel
theorem dX2_isInRing_37 : decode cX2_isInRing 37 = .ok (.goto (-33), 3) := by decide +kernel
theorem dX2_isInRing_40 : decode cX2_isInRing 40 = .ok (.iconst 0, 1) := by decide +kernel
theorem dX2_isInRing_41 : decode cX2_isInRing 41 = .ok (.ireturn, 1) := by decide +kernel
theorem dX2_moved_0 : decode cX2_moved 0 = .ok (.iconst 0, 1) := by decide +kernel
theorem dX2_moved_1 : decode cX2_moved 1 = .ok (.istore_n 1, 1) := by decide +kernel
theorem dX2_moved_2 : decode cX2_moved 2 = .ok (.iconst 0, 1) := by decide +kernel
theorem dX2_moved_3 : decode cX2_moved 3 = .ok (.istore_n 2, 1) := by decide +kernel
theorem dX2_moved_4 : decode cX2_moved 4 = .ok (.iload_n 2, 1) := by decide +kernel
theorem dX2_moved_5 : decode cX2_moved 5 = .ok (.bipush 6, 2) := by decide +kernel
theorem dX2_moved_7 : decode cX2_moved 7 = .ok (.if_icmp .ge 22, 3) := by decide +kernel
theorem dX2_moved_10 : decode cX2_moved 10 = .ok (.aload_n 0, 1) := by decide +kernel
theorem dX2_moved_11 : decode cX2_moved 11 = .ok (.getfield 15, 3) := by decide +kernel
theorem dX2_moved_14 : decode cX2_moved 14 = .ok (.iload_n 2, 1) := by decide +kernel
theorem dX2_moved_15 : decode cX2_moved 15 = .ok (.iaload, 1) := by decide +kernel
theorem dX2_moved_16 : decode cX2_moved 16 = .ok (.iload_n 2, 1) := by decide +kernel
theorem dX2_moved_17 : decode cX2_moved 17 = .ok (.if_icmp .eq 6, 3) := by decide +kernel
theorem dX2_moved_20 : decode cX2_moved 20 = .ok (.iinc 1 1, 3) := by decide +kernel
theorem dX2_moved_23 : decode cX2_moved 23 = .ok (.iinc 2 1, 3) := by decide +kernel
theorem dX2_moved_26 : decode cX2_moved 26 = .ok (.goto (-22), 3) := by decide +kernel
theorem dX2_moved_29 : decode cX2_moved 29 = .ok (.iload_n 1, 1) := by decide +kernel
theorem dX2_moved_30 : decode cX2_moved 30 = .ok (.ireturn, 1) := by decide +kernel
set_option maxRecDepth 20000 in
theorem ggX3_init_X6_init : GoodIn wsX3_init wsX6_init := goodIn_r _ [17, 18, 2, 3, 19, 20, 21, 22, 23, 24, 25, 26, 39, 40, 41, 42, 43, 44, 45, 46, 47, 48, 49] (by decide +kernel) (by decide +kernel)
set_option maxRecDepth 20000 in
theorem gX3_init_X6_init_n9 : GoodIn wsX3_init (wsX6_init) := ggX3_init_X6_init
set_option maxRecDepth 20000 in
theorem ggX3_init_X2_init : GoodIn wsX3_init wsX2_init := goodIn_r _ [29, 30, 2, 3, 19, 31, 32, 33, 53, 54, 55] (by decide +kernel) (by decide +kernel)
set_option maxRecDepth 20000 in
theorem gX3_init_X2_init : GoodIn wsX3_init (wsX2_init) := ggX3_init_X2_init
set_option maxRecDepth 20000 in
theorem ggX3_init_X7_init : GoodIn wsX3_init wsX7_init := goodIn_r _ [35, 36, 2, 3, 19, 37, 38, 56, 57, 58] (by decide +kernel) (by decide +kernel)
set_option maxRecDepth 20000 in
theorem gX3_init_X7_init_n25 : GoodIn wsX3_init (wsX7_init) := ggX3_init_X7_init
theorem dX3_init_0 : decode cX3_init 0 = .ok (.aload_n 0, 1) := by decide +kernel
theorem dX3_init_1 : decode cX3_init 1 = .ok (.invokespecial 1, 3) := by decide +kernel
theorem dX3_init_4 : decode cX3_init 4 = .ok (.aload_n 0, 1) := by decide +kernel
theorem dX3_init_5 : decode cX3_init 5 = .ok (.new 7, 3) := by decide +kernel
theorem dX3_init_8 : decode cX3_init 8 = .ok (.dup, 1) := by decide +kernel
theorem dX3_init_9 : decode cX3_init 9 = .ok (.invokespecial 9, 3) := by decide +kernel
theorem dX3_init_12 : decode cX3_init 12 = .ok (.putfield 10, 3) := by decide +kernel
theorem dX3_init_15 : decode cX3_init 15 = .ok (.aload_n 0, 1) := by decide +kernel
theorem dX3_init_16 : decode cX3_init 16 = .ok (.new 16, 3) := by decide +kernel
theorem dX3_init_19 : decode cX3_init 19 = .ok (.dup, 1) := by decide +kernel
theorem dX3_init_20 : decode cX3_init 20 = .ok (.invokespecial 18, 3) := by decide +kernel
theorem dX3_init_23 : decode cX3_init 23 = .ok (.putfield 19, 3) := by decide +kernel
theorem dX3_init_26 : decode cX3_init 26 = .ok (.aload_n 0, 1) := by decide +kernel
theorem dX3_init_27 : decode cX3_init 27 = .ok (.new 23, 3) := by decide +kernel
theorem dX3_init_30 : decode cX3_init 30 = .ok (.dup, 1) := by decide +kernel
theorem dX3_init_31 : decode cX3_init 31 = .ok (.invokespecial 25, 3) := by decide +kernel
theorem dX3_init_34 : decode cX3_init 34 = .ok (.putfield 26, 3) := by decide +kernel
theorem dX3_init_37 : decode cX3_init 37 = .ok (.return_, 1) := by decide +kernel
set_option maxRecDepth 20000 in
theorem ggX3_takeFrom_X6_takeFrom : GoodIn wsX3_takeFrom wsX6_takeFrom := goodIn_r _ [8, 9, 10, 11, 12, 13, 14, 15, 16, 17, 18, 19, 20, 21, 22, 23, 43, 44, 45, 46, 47, 48, 49, 50, 51, 52, 53] (by decide +kernel) (by decide +kernel)
set_option maxRecDepth 20000 in
theorem gX3_takeFrom_X6_takeFrom : GoodIn wsX3_takeFrom (wsV RX3 30 RX6 yX6_takeFrom wsX6_takeFrom) := goodIn_app (goodIn_of _ (by decide +kernel)) ggX3_takeFrom_X6_takeFrom
set_option maxRecDepth 20000 in
theorem ggX3_takeFrom_X2_takeFrom : GoodIn wsX3_takeFrom wsX2_takeFrom := goodIn_r _ [28, 29, 30, 11, 12, 13, 54, 55, 56] (by decide +kernel) (by decide +kernel)
set_option maxRecDepth 20000 in
theorem gX3_takeFrom_X2_takeFrom : GoodIn wsX3_takeFrom (wsV RX3 34 RX2 yX2_takeFrom wsX2_takeFrom) := goodIn_app (goodIn_of _ (by decide +kernel)) ggX3_takeFrom_X2_takeFrom
set_option maxRecDepth 20000 in
theorem ggX3_takeFrom_X7_takeFrom : GoodIn wsX3_takeFrom wsX7_takeFrom := goodIn_r _ [35, 36, 37, 11, 12, 13, 38, 39, 57, 58, 59] (by decide +kernel) (by decide +kernel)
set_option maxRecDepth 20000 in
theorem gX3_takeFrom_X7_takeFrom : GoodIn wsX3_takeFrom (wsV RX3 37 RX7 yX7_takeFrom wsX7_takeFrom) := goodIn_app (goodIn_of _ (by decide +kernel)) ggX3_takeFrom_X7_takeFrom
theorem dX3_takeFrom_0 : decode cX3_takeFrom 0 = .ok (.aload_n 0, 1) := by decide +kernel
theorem dX3_takeFrom_1 : decode cX3_takeFrom 1 = .ok (.getfield 10, 3) := by decide +kernel
theorem dX3_takeFrom_4 : decode cX3_takeFrom 4 = .ok (.aload_n 1, 1) := by decide +kernel
theorem dX3_takeFrom_5 : decode cX3_takeFrom 5 = .ok (.getfield 10, 3) := by decide +kernel
theorem dX3_takeFrom_8 : decode cX3_takeFrom 8 = .ok (.invokevirtual 30, 3) := by decide +kernel
theorem dX3_takeFrom_11 : decode cX3_takeFrom 11 = .ok (.aload_n 0, 1) := by decide +kernel
theorem dX3_takeFrom_12 : decode cX3_takeFrom 12 = .ok (.getfield 19, 3) := by decide +kernel
theorem dX3_takeFrom_15 : decode cX3_takeFrom 15 = .ok (.aload_n 1, 1) := by decide +kernel
theorem dX3_takeFrom_16 : decode cX3_takeFrom 16 = .ok (.getfield 19, 3) := by decide +kernel
theorem dX3_takeFrom_19 : decode cX3_takeFrom 19 = .ok (.invokevirtual 34, 3) := by decide +kernel
theorem dX3_takeFrom_22 : decode cX3_takeFrom 22 = .ok (.aload_n 0, 1) := by decide +kernel
theorem dX3_takeFrom_23 : decode cX3_takeFrom 23 = .ok (.getfield 26, 3) := by decide +kernel
theorem dX3_takeFrom_26 : decode cX3_takeFrom 26 = .ok (.aload_n 1, 1) := by decide +kernel
theorem dX3_takeFrom_27 : decode cX3_takeFrom 27 = .ok (.getfield 26, 3) := by decide +kernel
theorem dX3_takeFrom_30 : decode cX3_takeFrom 30 = .ok (.invokevirtual 37, 3) := by decide +kernel
theorem dX3_takeFrom_33 : decode cX3_takeFrom 33 = .ok (.return_, 1) := by decide +kernel
set_option maxRecDepth 20000 in
theorem ggX4_init_X6_init : GoodIn wsX4_init wsX6_init := goodIn_r _ [9, 10, 2, 3, 11, 12, 13, 14, 15, 16, 17, 18, 19, 20, 21, 22, 23, 24, 25, 26, 27, 28, 29] (by decide +kernel) (by decide +kernel)
set_option maxRecDepth 20000 in
theorem gX4_init_X6_init_n11 : GoodIn wsX4_init (wsX6_init) := ggX4_init_X6_init
theorem dX4_init_0 : decode cX4_init 0 = .ok (.aload_n 0, 1) := by decide +kernel
theorem dX4_init_1 : decode cX4_init 1 = .ok (.invokespecial 3, 3) := by decide +kernel
theorem dX4_init_4 : decode cX4_init 4 = .ok (.aload_n 0, 1) := by decide +kernel
theorem dX4_init_5 : decode cX4_init 5 = .ok (.new 9, 3) := by decide +kernel
theorem dX4_init_8 : decode cX4_init 8 = .ok (.dup, 1) := by decide +kernel
theorem dX4_init_9 : decode cX4_init 9 = .ok (.invokespecial 11, 3) := by decide +kernel
theorem dX4_init_12 : decode cX4_init 12 = .ok (.putfield 12, 3) := by decide +kernel
theorem dX4_init_15 : decode cX4_init 15 = .ok (.return_, 1) := by decide +kernel
set_option maxRecDepth 20000 in
theorem ggX4_run_X6_takeFrom : GoodIn wsX4_run wsX6_takeFrom := goodIn_r _ [13, 14, 15, 16, 17, 18, 19, 20, 21, 22, 23, 24, 25, 26, 27, 28, 112, 113, 114, 115, 116, 117, 118, 119, 120, 121, 122] (by decide +kernel) (by decide +kernel)
set_option maxRecDepth 20000 in
theorem gX4_run_X6_takeFrom : GoodIn wsX4_run (wsV RX4 18 RX6 yX6_takeFrom wsX6_takeFrom) := goodIn_app (goodIn_of _ (by decide +kernel)) ggX4_run_X6_takeFrom
set_option maxRecDepth 20000 in
theorem ggX4_run_X1_faultPlace : GoodIn wsX4_run wsX1_faultPlace := goodIn_r _ [33, 34, 35, 36, 37, 32, 38, 39, 40, 41, 42, 43, 44, 45, 46, 47, 48, 110, 111] (by decide +kernel) (by decide +kernel)
set_option maxRecDepth 20000 in
theorem gX4_run_X1_faultPlace : GoodIn wsX4_run (wsV RX4 22 RX1 yX1_faultPlace wsX1_faultPlace) := goodIn_app (goodIn_of _ (by decide +kernel)) ggX4_run_X1_faultPlace
set_option maxRecDepth 20000 in
theorem ggX4_run_X1_signAt : GoodIn wsX4_run wsX1_signAt := goodIn_r _ [38, 34, 39, 110, 111] (by decide +kernel) (by decide +kernel)
set_option maxRecDepth 20000 in
theorem gX4_run_X1_signAt : GoodIn wsX4_run (wsV RX4 51 RX1 yX1_signAt wsX1_signAt) := goodIn_app (goodIn_of _ (by decide +kernel)) ggX4_run_X1_signAt
set_option maxRecDepth 20000 in
theorem ggX4_run_X4_attempt : GoodIn wsX4_run wsX4_attempt := goodIn_r _ [54, 1, 3, 4, 5, 6, 7, 55, 56, 57, 12, 58, 28, 24, 14, 22, 59, 60, 61, 62, 25, 63, 64, 65, 66, 67, 68, 69, 70, 71, 72, 73, 74, 75, 76, 77, 78, 79, 80, 81, 82, 83, 84, 85, 86, 20, 23, 26, 87, 88, 89, 21, 90, 91, 92, 93, 94, 95, 96, 97, 19, 27, 98, 99, 100, 101, 102, 103, 104, 105, 106, 107, 108, 109, 112, 113, 114, 115, 116, 117, 118, 119, 120, 121, 122] (by decide +kernel) (by decide +kernel)
set_option maxRecDepth 20000 in
theorem gX4_run_X4_attempt : GoodIn wsX4_run (wsV RX4 55 RX4 yX4_attempt wsX4_attempt) := goodIn_app (goodIn_of _ (by decide +kernel)) ggX4_run_X4_attempt
theorem dX4_run_0 : decode cX4_run 0 = .ok (.aload_n 0, 1) := by decide +kernel
theorem dX4_run_1 : decode cX4_run 1 = .ok (.getfield 12, 3) := by decide +kernel
theorem dX4_run_4 : decode cX4_run 4 = .ok (.aload_n 2, 1) := by decide +kernel
theorem dX4_run_5 : decode cX4_run 5 = .ok (.invokevirtual 18, 3) := by decide +kernel
theorem dX4_run_8 : decode cX4_run 8 = .ok (.aload_n 0, 1) := by decide +kernel
theorem dX4_run_9 : decode cX4_run 9 = .ok (.aload_n 1, 1) := by decide +kernel
theorem dX4_run_10 : decode cX4_run 10 = .ok (.invokevirtual 22, 3) := by decide +kernel
theorem dX4_run_13 : decode cX4_run 13 = .ok (.bipush (-6), 2) := by decide +kernel
theorem dX4_run_15 : decode cX4_run 15 = .ok (.if_icmp .eq 7, 3) := by decide +kernel
theorem dX4_run_18 : decode cX4_run 18 = .ok (.iconst 1, 1) := by decide +kernel
theorem dX4_run_19 : decode cX4_run 19 = .ok (.goto 4, 3) := by decide +kernel
theorem dX4_run_22 : decode cX4_run 22 = .ok (.iconst 0, 1) := by decide +kernel
theorem dX4_run_23 : decode cX4_run 23 = .ok (.putfield 28, 3) := by decide +kernel
theorem dX4_run_26 : decode cX4_run 26 = .ok (.aload_n 0, 1) := by decide +kernel
theorem dX4_run_27 : decode cX4_run 27 = .ok (.iconst 0, 1) := by decide +kernel
theorem dX4_run_28 : decode cX4_run 28 = .ok (.putfield 32, 3) := by decide +kernel
theorem dX4_run_31 : decode cX4_run 31 = .ok (.aload_n 0, 1) := by decide +kernel
theorem dX4_run_32 : decode cX4_run 32 = .ok (.bipush (-6), 2) := by decide +kernel
theorem dX4_run_34 : decode cX4_run 34 = .ok (.putfield 36, 3) := by decide +kernel
theorem dX4_run_37 : decode cX4_run 37 = .ok (.aload_n 0, 1) := by decide +kernel
theorem dX4_run_38 : decode cX4_run 38 = .ok (.bipush (-6), 2) := by decide +kernel
theorem dX4_run_40 : decode cX4_run 40 = .ok (.putfield 39, 3) := by decide +kernel
theorem dX4_run_43 : decode cX4_run 43 = .ok (.aload_n 0, 1) := by decide +kernel
theorem dX4_run_44 : decode cX4_run 44 = .ok (.bipush (-6), 2) := by decide +kernel
theorem dX4_run_46 : decode cX4_run 46 = .ok (.putfield 42, 3) := by decide +kernel
theorem dX4_run_49 : decode cX4_run 49 = .ok (.aload_n 0, 1) := by decide +kernel
theorem dX4_run_50 : decode cX4_run 50 = .ok (.bipush (-6), 2) := by decide +kernel
theorem dX4_run_52 : decode cX4_run 52 = .ok (.putfield 45, 3) := by decide +kernel
theorem dX4_run_55 : decode cX4_run 55 = .ok (.iconst 0, 1) := by decide +kernel
theorem dX4_run_56 : decode cX4_run 56 = .ok (.istore_n 3, 1) := by decide +kernel
theorem dX4_run_57 : decode cX4_run 57 = .ok (.iconst 0, 1) := by decide +kernel
theorem dX4_run_58 : decode cX4_run 58 = .ok (.istore 4, 2) := by decide +kernel
theorem dX4_run_60 : decode cX4_run 60 = .ok (.iload 4, 2) := by decide +kernel
theorem dX4_run_62 : decode cX4_run 62 = .ok (.bipush 60, 2) := by decide +kernel
theorem dX4_run_64 : decode cX4_run 64 = .ok (.if_icmp .ge 108, 3) := by decide +kernel
theorem dX4_run_67 : decode cX4_run 67 = .ok (.iload_n 3, 1) := by decide +kernel
theorem dX4_run_68 : decode cX4_run 68 = .ok (.aload_n 1, 1) := by decide +kernel
theorem dX4_run_69 : decode cX4_run 69 = .ok (.getfield 48, 3) := by decide +kernel
theorem dX4_run_72 : decode cX4_run 72 = .ok (.if_icmp .ge 100, 3) := by decide +kernel
theorem dX4_run_75 : decode cX4_run 75 = .ok (.aload_n 0, 1) := by decide +kernel
theorem dX4_run_76 : decode cX4_run 76 = .ok (.getfield 28, 3) := by decide +kernel
theorem dX4_run_79 : decode cX4_run 79 = .ok (.ifCond .ne 93, 3) := by decide +kernel
theorem dX4_run_82 : decode cX4_run 82 = .ok (.aload_n 0, 1) := by decide +kernel
theorem dX4_run_83 : decode cX4_run 83 = .ok (.getfield 36, 3) := by decide +kernel
theorem dX4_run_86 : decode cX4_run 86 = .ok (.bipush (-6), 2) := by decide +kernel
theorem dX4_run_88 : decode cX4_run 88 = .ok (.if_icmp .ne 84, 3) := by decide +kernel
theorem dX4_run_91 : decode cX4_run 91 = .ok (.aload_n 1, 1) := by decide +kernel
theorem dX4_run_92 : decode cX4_run 92 = .ok (.iload_n 3, 1) := by decide +kernel
theorem dX4_run_93 : decode cX4_run 93 = .ok (.invokevirtual 51, 3) := by decide +kernel
theorem dX4_run_96 : decode cX4_run 96 = .ok (.istore 5, 2) := by decide +kernel
theorem dX4_run_98 : decode cX4_run 98 = .ok (.iload 5, 2) := by decide +kernel
theorem dX4_run_100 : decode cX4_run 100 = .ok (.bipush 46, 2) := by decide +kernel
theorem dX4_run_102 : decode cX4_run 102 = .ok (.if_icmp .ne 8, 3) := by decide +kernel
theorem dX4_run_105 : decode cX4_run 105 = .ok (.iload 5, 2) := by decide +kernel
theorem dX4_run_107 : decode cX4_run 107 = .ok (.goto 10, 3) := by decide +kernel
theorem dX4_run_110 : decode cX4_run 110 = .ok (.aload_n 1, 1) := by decide +kernel
theorem dX4_run_111 : decode cX4_run 111 = .ok (.iload_n 3, 1) := by decide +kernel
theorem dX4_run_112 : decode cX4_run 112 = .ok (.iconst 1, 1) := by decide +kernel
theorem dX4_run_113 : decode cX4_run 113 = .ok (.iadd, 1) := by decide +kernel
theorem dX4_run_114 : decode cX4_run 114 = .ok (.invokevirtual 51, 3) := by decide +kernel
theorem dX4_run_117 : decode cX4_run 117 = .ok (.istore 6, 2) := by decide +kernel
theorem dX4_run_119 : decode cX4_run 119 = .ok (.aload_n 0, 1) := by decide +kernel
theorem dX4_run_120 : decode cX4_run 120 = .ok (.iload 6, 2) := by decide +kernel
theorem dX4_run_122 : decode cX4_run 122 = .ok (.iload 5, 2) := by decide +kernel
theorem dX4_run_124 : decode cX4_run 124 = .ok (.bipush 65, 2) := by decide +kernel
theorem dX4_run_126 : decode cX4_run 126 = .ok (.isub, 1) := by decide +kernel
theorem dX4_run_127 : decode cX4_run 127 = .ok (.aload_n 1, 1) := by decide +kernel
theorem dX4_run_128 : decode cX4_run 128 = .ok (.iload_n 3, 1) := by decide +kernel
theorem dX4_run_129 : decode cX4_run 129 = .ok (.iconst 2, 1) := by decide +kernel
theorem dX4_run_130 : decode cX4_run 130 = .ok (.iadd, 1) := by decide +kernel
theorem dX4_run_131 : decode cX4_run 131 = .ok (.invokevirtual 51, 3) := by decide +kernel
theorem dX4_run_134 : decode cX4_run 134 = .ok (.bipush 65, 2) := by decide +kernel
theorem dX4_run_136 : decode cX4_run 136 = .ok (.isub, 1) := by decide +kernel
theorem dX4_run_137 : decode cX4_run 137 = .ok (.invokevirtual 55, 3) := by decide +kernel
theorem dX4_run_140 : decode cX4_run 140 = .ok (.iload_n 3, 1) := by decide +kernel
theorem dX4_run_141 : decode cX4_run 141 = .ok (.iload 5, 2) := by decide +kernel
theorem dX4_run_143 : decode cX4_run 143 = .ok (.bipush 46, 2) := by decide +kernel
theorem dX4_run_145 : decode cX4_run 145 = .ok (.if_icmp .ne 7, 3) := by decide +kernel
theorem dX4_run_148 : decode cX4_run 148 = .ok (.iconst 1, 1) := by decide +kernel
theorem dX4_run_149 : decode cX4_run 149 = .ok (.goto 15, 3) := by decide +kernel
theorem dX4_run_152 : decode cX4_run 152 = .ok (.iload 6, 2) := by decide +kernel
