theorem dX8_firstTaken_1 : decode cX8_firstTaken 1 = .ok (.istore_n 2, 1) := by decide +kernel
theorem dX8_firstTaken_2 : decode cX8_firstTaken 2 = .ok (.iload_n 2, 1) := by decide +kernel
theorem dX8_firstTaken_3 : decode cX8_firstTaken 3 = .ok (.bipush 8, 2) := by decide +kernel
theorem dX8_firstTaken_5 : decode cX8_firstTaken 5 = .ok (.if_icmp .ge 20, 3) := by decide +kernel
theorem dX8_firstTaken_8 : decode cX8_firstTaken 8 = .ok (.aload_n 0, 1) := by decide +kernel
theorem dX8_firstTaken_9 : decode cX8_firstTaken 9 = .ok (.getfield 15, 3) := by decide +kernel
theorem dX8_firstTaken_12 : decode cX8_firstTaken 12 = .ok (.iload_n 2, 1) := by decide +kernel
theorem dX8_firstTaken_13 : decode cX8_firstTaken 13 = .ok (.aload_n 1, 1) := by decide +kernel
theorem dX8_firstTaken_14 : decode cX8_firstTaken 14 = .ok (.iload_n 2, 1) := by decide +kernel
theorem dX8_firstTaken_15 : decode cX8_firstTaken 15 = .ok (.invokevirtual 19, 3) := by decide +kernel
theorem dX8_firstTaken_18 : decode cX8_firstTaken 18 = .ok (.iastore, 1) := by decide +kernel
theorem dX8_firstTaken_19 : decode cX8_firstTaken 19 = .ok (.iinc 2 1, 3) := by decide +kernel
theorem dX8_firstTaken_22 : decode cX8_firstTaken 22 = .ok (.goto (-20), 3) := by decide +kernel
theorem dX8_firstTaken_25 : decode cX8_firstTaken 25 = .ok (.iconst 0, 1) := by decide +kernel
theorem dX8_firstTaken_26 : decode cX8_firstTaken 26 = .ok (.istore_n 2, 1) := by decide +kernel
theorem dX8_firstTaken_27 : decode cX8_firstTaken 27 = .ok (.iload_n 2, 1) := by decide +kernel
theorem dX8_firstTaken_28 : decode cX8_firstTaken 28 = .ok (.sipush 256, 3) := by decide +kernel
theorem dX8_firstTaken_31 : decode cX8_firstTaken 31 = .ok (.if_icmp .ge 30, 3) := by decide +kernel
theorem dX8_firstTaken_34 : decode cX8_firstTaken 34 = .ok (.aload_n 0, 1) := by decide +kernel
theorem dX8_firstTaken_35 : decode cX8_firstTaken 35 = .ok (.getfield 9, 3) := by decide +kernel
theorem dX8_firstTaken_38 : decode cX8_firstTaken 38 = .ok (.iload_n 2, 1) := by decide +kernel
theorem dX8_firstTaken_39 : decode cX8_firstTaken 39 = .ok (.aload_n 0, 1) := by decide +kernel
theorem dX8_firstTaken_40 : decode cX8_firstTaken 40 = .ok (.iload_n 2, 1) := by decide +kernel
theorem dX8_firstTaken_41 : decode cX8_firstTaken 41 = .ok (.invokevirtual 25, 3) := by decide +kernel
theorem dX8_firstTaken_44 : decode cX8_firstTaken 44 = .ok (.bipush (-6), 2) := by decide +kernel
theorem dX8_firstTaken_46 : decode cX8_firstTaken 46 = .ok (.if_icmp .eq 7, 3) := by decide +kernel
theorem dX8_firstTaken_49 : decode cX8_firstTaken 49 = .ok (.iconst 1, 1) := by decide +kernel
theorem dX8_firstTaken_50 : decode cX8_firstTaken 50 = .ok (.goto 4, 3) := by decide +kernel
theorem dX8_firstTaken_53 : decode cX8_firstTaken 53 = .ok (.iconst 0, 1) := by decide +kernel
theorem dX8_firstTaken_54 : decode cX8_firstTaken 54 = .ok (.bastore, 1) := by decide +kernel
theorem dX8_firstTaken_55 : decode cX8_firstTaken 55 = .ok (.iinc 2 1, 3) := by decide +kernel
theorem dX8_firstTaken_58 : decode cX8_firstTaken 58 = .ok (.goto (-31), 3) := by decide +kernel
theorem dX8_firstTaken_61 : decode cX8_firstTaken 61 = .ok (.aload_n 0, 1) := by decide +kernel
theorem dX8_firstTaken_62 : decode cX8_firstTaken 62 = .ok (.aload_n 1, 1) := by decide +kernel
theorem dX8_firstTaken_63 : decode cX8_firstTaken 63 = .ok (.getfield 28, 3) := by decide +kernel
theorem dX8_firstTaken_66 : decode cX8_firstTaken 66 = .ok (.invokevirtual 25, 3) := by decide +kernel
theorem dX8_firstTaken_69 : decode cX8_firstTaken 69 = .ok (.ireturn, 1) := by decide +kernel
theorem dX8_winningGlobe_0 : decode cX8_winningGlobe 0 = .ok (.iconst 0, 1) := by decide +kernel
theorem dX8_winningGlobe_1 : decode cX8_winningGlobe 1 = .ok (.istore_n 2, 1) := by decide +kernel
theorem dX8_winningGlobe_2 : decode cX8_winningGlobe 2 = .ok (.iload_n 2, 1) := by decide +kernel
theorem dX8_winningGlobe_3 : decode cX8_winningGlobe 3 = .ok (.bipush 8, 2) := by decide +kernel
theorem dX8_winningGlobe_5 : decode cX8_winningGlobe 5 = .ok (.if_icmp .ge 51, 3) := by decide +kernel
theorem dX8_winningGlobe_8 : decode cX8_winningGlobe 8 = .ok (.iload_n 1, 1) := by decide +kernel
theorem dX8_winningGlobe_9 : decode cX8_winningGlobe 9 = .ok (.aload_n 0, 1) := by decide +kernel
theorem dX8_winningGlobe_10 : decode cX8_winningGlobe 10 = .ok (.getfield 15, 3) := by decide +kernel
theorem dX8_winningGlobe_13 : decode cX8_winningGlobe 13 = .ok (.iload_n 2, 1) := by decide +kernel
theorem dX8_winningGlobe_14 : decode cX8_winningGlobe 14 = .ok (.iaload, 1) := by decide +kernel
theorem dX8_winningGlobe_15 : decode cX8_winningGlobe 15 = .ok (.iconst (-1), 1) := by decide +kernel
theorem dX8_winningGlobe_16 : decode cX8_winningGlobe 16 = .ok (.ixor, 1) := by decide +kernel
theorem dX8_winningGlobe_17 : decode cX8_winningGlobe 17 = .ok (.iand, 1) := by decide +kernel
theorem dX8_winningGlobe_18 : decode cX8_winningGlobe 18 = .ok (.istore_n 3, 1) := by decide +kernel
theorem dX8_winningGlobe_19 : decode cX8_winningGlobe 19 = .ok (.iload_n 1, 1) := by decide +kernel
theorem dX8_winningGlobe_20 : decode cX8_winningGlobe 20 = .ok (.iload_n 2, 1) := by decide +kernel
theorem dX8_winningGlobe_21 : decode cX8_winningGlobe 21 = .ok (.ishr, 1) := by decide +kernel
theorem dX8_winningGlobe_22 : decode cX8_winningGlobe 22 = .ok (.iconst 1, 1) := by decide +kernel
theorem dX8_winningGlobe_23 : decode cX8_winningGlobe 23 = .ok (.iand, 1) := by decide +kernel
theorem dX8_winningGlobe_24 : decode cX8_winningGlobe 24 = .ok (.iconst 1, 1) := by decide +kernel
theorem dX8_winningGlobe_25 : decode cX8_winningGlobe 25 = .ok (.if_icmp .ne 25, 3) := by decide +kernel
theorem dX8_winningGlobe_28 : decode cX8_winningGlobe 28 = .ok (.iload_n 3, 1) := by decide +kernel
theorem dX8_winningGlobe_29 : decode cX8_winningGlobe 29 = .ok (.ifCond .lt 21, 3) := by decide +kernel
theorem dX8_winningGlobe_32 : decode cX8_winningGlobe 32 = .ok (.iload_n 3, 1) := by decide +kernel
theorem dX8_winningGlobe_33 : decode cX8_winningGlobe 33 = .ok (.sipush 256, 3) := by decide +kernel
theorem dX8_winningGlobe_36 : decode cX8_winningGlobe 36 = .ok (.if_icmp .ge 14, 3) := by decide +kernel
theorem dX8_winningGlobe_39 : decode cX8_winningGlobe 39 = .ok (.aload_n 0, 1) := by decide +kernel
theorem dX8_winningGlobe_40 : decode cX8_winningGlobe 40 = .ok (.getfield 9, 3) := by decide +kernel
theorem dX8_winningGlobe_43 : decode cX8_winningGlobe 43 = .ok (.iload_n 3, 1) := by decide +kernel
theorem dX8_winningGlobe_44 : decode cX8_winningGlobe 44 = .ok (.baload, 1) := by decide +kernel
theorem dX8_winningGlobe_45 : decode cX8_winningGlobe 45 = .ok (.ifCond .ne 5, 3) := by decide +kernel
theorem dX8_winningGlobe_48 : decode cX8_winningGlobe 48 = .ok (.iload_n 2, 1) := by decide +kernel
theorem dX8_winningGlobe_49 : decode cX8_winningGlobe 49 = .ok (.ireturn, 1) := by decide +kernel
theorem dX8_winningGlobe_50 : decode cX8_winningGlobe 50 = .ok (.iinc 2 1, 3) := by decide +kernel
theorem dX8_winningGlobe_53 : decode cX8_winningGlobe 53 = .ok (.goto (-51), 3) := by decide +kernel
theorem dX8_winningGlobe_56 : decode cX8_winningGlobe 56 = .ok (.bipush (-6), 2) := by decide +kernel
theorem dX8_winningGlobe_58 : decode cX8_winningGlobe 58 = .ok (.ireturn, 1) := by decide +kernel
set_option maxRecDepth 20000 in
theorem ggX9_init_X3_init : GoodIn wsX9_init wsX3_init := goodIn_r _ [27, 28, 2, 3, 29, 30, 31, 32, 33, 34, 35, 36, 37, 38, 39, 40, 41, 42, 43, 44, 45, 46, 47, 48, 49, 50, 51, 52, 53, 54, 55, 56, 57, 58, 59, 60, 61, 62, 63, 110, 111, 112, 113, 114, 115, 116, 117, 118, 119, 120, 84, 85, 86, 121, 122, 123, 124, 125, 126] (by decide +kernel) (by decide +kernel)
set_option maxRecDepth 20000 in
theorem gX9_init_X3_init_n9 : GoodIn wsX9_init (wsX3_init) := ggX9_init_X3_init
set_option maxRecDepth 20000 in
theorem ggX9_init_X1_init : GoodIn wsX9_init wsX1_init := goodIn_r _ [65, 66, 2, 3, 44, 67, 96, 97] (by decide +kernel) (by decide +kernel)
set_option maxRecDepth 20000 in
theorem gX9_init_X1_init_n24 : GoodIn wsX9_init (wsX1_init) := ggX9_init_X1_init
set_option maxRecDepth 20000 in
theorem ggX9_init_X4_init : GoodIn wsX9_init wsX4_init := goodIn_r _ [69, 70, 2, 3, 71, 30, 31, 72, 41, 42, 43, 44, 45, 46, 47, 48, 49, 50, 51, 110, 111, 112, 113, 114, 115, 116, 117, 118, 119, 120, 98, 99, 100, 101, 102, 103, 104] (by decide +kernel) (by decide +kernel)
set_option maxRecDepth 20000 in
theorem gX9_init_X4_init_n31 : GoodIn wsX9_init (wsX4_init) := ggX9_init_X4_init
set_option maxRecDepth 20000 in
theorem ggX9_init_X5_init : GoodIn wsX9_init wsX5_init := goodIn_r _ [74, 75, 2, 3, 44, 76, 77, 105, 106, 107] (by decide +kernel) (by decide +kernel)
set_option maxRecDepth 20000 in
theorem gX9_init_X5_init_n38 : GoodIn wsX9_init (wsX5_init) := ggX9_init_X5_init
set_option maxRecDepth 20000 in
theorem ggX9_init_X8_init : GoodIn wsX9_init wsX8_init := goodIn_r _ [79, 80, 2, 3, 81, 82, 44, 83, 108, 109] (by decide +kernel) (by decide +kernel)
set_option maxRecDepth 20000 in
theorem gX9_init_X8_init_n45 : GoodIn wsX9_init (wsX8_init) := ggX9_init_X8_init
theorem dX9_init_0 : decode cX9_init 0 = .ok (.aload_n 0, 1) := by decide +kernel
theorem dX9_init_1 : decode cX9_init 1 = .ok (.invokespecial 1, 3) := by decide +kernel
theorem dX9_init_4 : decode cX9_init 4 = .ok (.aload_n 0, 1) := by decide +kernel
theorem dX9_init_5 : decode cX9_init 5 = .ok (.new 7, 3) := by decide +kernel
theorem dX9_init_8 : decode cX9_init 8 = .ok (.dup, 1) := by decide +kernel
theorem dX9_init_9 : decode cX9_init 9 = .ok (.invokespecial 9, 3) := by decide +kernel
theorem dX9_init_12 : decode cX9_init 12 = .ok (.putfield 10, 3) := by decide +kernel
theorem dX9_init_15 : decode cX9_init 15 = .ok (.aload_n 0, 1) := by decide +kernel
theorem dX9_init_16 : decode cX9_init 16 = .ok (.new 7, 3) := by decide +kernel
theorem dX9_init_19 : decode cX9_init 19 = .ok (.dup, 1) := by decide +kernel
theorem dX9_init_20 : decode cX9_init 20 = .ok (.invokespecial 9, 3) := by decide +kernel
theorem dX9_init_23 : decode cX9_init 23 = .ok (.putfield 16, 3) := by decide +kernel
theorem dX9_init_26 : decode cX9_init 26 = .ok (.aload_n 0, 1) := by decide +kernel
theorem dX9_init_27 : decode cX9_init 27 = .ok (.new 7, 3) := by decide +kernel
theorem dX9_init_30 : decode cX9_init 30 = .ok (.dup, 1) := by decide +kernel
theorem dX9_init_31 : decode cX9_init 31 = .ok (.invokespecial 9, 3) := by decide +kernel
theorem dX9_init_34 : decode cX9_init 34 = .ok (.putfield 19, 3) := by decide +kernel
theorem dX9_init_37 : decode cX9_init 37 = .ok (.aload_n 0, 1) := by decide +kernel
theorem dX9_init_38 : decode cX9_init 38 = .ok (.new 22, 3) := by decide +kernel
theorem dX9_init_41 : decode cX9_init 41 = .ok (.dup, 1) := by decide +kernel
theorem dX9_init_42 : decode cX9_init 42 = .ok (.invokespecial 24, 3) := by decide +kernel
theorem dX9_init_45 : decode cX9_init 45 = .ok (.putfield 25, 3) := by decide +kernel
theorem dX9_init_48 : decode cX9_init 48 = .ok (.aload_n 0, 1) := by decide +kernel
theorem dX9_init_49 : decode cX9_init 49 = .ok (.new 29, 3) := by decide +kernel
theorem dX9_init_52 : decode cX9_init 52 = .ok (.dup, 1) := by decide +kernel
theorem dX9_init_53 : decode cX9_init 53 = .ok (.invokespecial 31, 3) := by decide +kernel
theorem dX9_init_56 : decode cX9_init 56 = .ok (.putfield 32, 3) := by decide +kernel
theorem dX9_init_59 : decode cX9_init 59 = .ok (.aload_n 0, 1) := by decide +kernel
theorem dX9_init_60 : decode cX9_init 60 = .ok (.new 36, 3) := by decide +kernel
theorem dX9_init_63 : decode cX9_init 63 = .ok (.dup, 1) := by decide +kernel
theorem dX9_init_64 : decode cX9_init 64 = .ok (.invokespecial 38, 3) := by decide +kernel
theorem dX9_init_67 : decode cX9_init 67 = .ok (.putfield 39, 3) := by decide +kernel
theorem dX9_init_70 : decode cX9_init 70 = .ok (.aload_n 0, 1) := by decide +kernel
theorem dX9_init_71 : decode cX9_init 71 = .ok (.new 43, 3) := by decide +kernel
theorem dX9_init_74 : decode cX9_init 74 = .ok (.dup, 1) := by decide +kernel
theorem dX9_init_75 : decode cX9_init 75 = .ok (.invokespecial 45, 3) := by decide +kernel
theorem dX9_init_78 : decode cX9_init 78 = .ok (.putfield 46, 3) := by decide +kernel
theorem dX9_init_81 : decode cX9_init 81 = .ok (.return_, 1) := by decide +kernel
set_option maxRecDepth 20000 in
theorem ggX9_globe_X9_isGlobe : GoodIn wsX9_globe wsX9_isGlobe := goodIn_r _ [7] (by decide +kernel) (by decide +kernel)
set_option maxRecDepth 20000 in
theorem gX9_globe_X9_isGlobe : GoodIn wsX9_globe (va_wsS RX9 50 yX9_isGlobe wsX9_isGlobe) := goodIn_app (goodIn_of _ (by decide +kernel)) ggX9_globe_X9_isGlobe
set_option maxRecDepth 20000 in
theorem ggX9_globe_X9_isUpTo : GoodIn wsX9_globe wsX9_isUpTo := goodIn_r _ [10] (by decide +kernel) (by decide +kernel)
set_option maxRecDepth 20000 in
theorem gX9_globe_X9_isUpTo : GoodIn wsX9_globe (va_wsS RX9 54 yX9_isUpTo wsX9_isUpTo) := goodIn_app (goodIn_of _ (by decide +kernel)) ggX9_globe_X9_isUpTo
set_option maxRecDepth 20000 in
theorem ggX9_globe_X6_set : GoodIn wsX9_globe wsX6_set := goodIn_r _ [15, 16, 17, 18, 19, 20, 21, 22, 23, 24, 5, 6, 7, 25, 26, 27, 14, 28, 48, 49, 50, 51, 52, 53, 54, 55, 56, 57, 58] (by decide +kernel) (by decide +kernel)
set_option maxRecDepth 20000 in
theorem gX9_globe_X6_set : GoodIn wsX9_globe (wsV RX9 62 RX6 yX6_set wsX6_set) := goodIn_app (goodIn_of _ (by decide +kernel)) ggX9_globe_X6_set
set_option maxRecDepth 20000 in
theorem ggX9_globe_J6_bitCount_0f7a4 : GoodIn wsX9_globe wsJ6_bitCount_0f7a4 := goodIn_r _ [32, 33, 34, 35] (by decide +kernel) (by decide +kernel)
set_option maxRecDepth 20000 in
theorem gX9_globe_J6_bitCount_0f7a4 : GoodIn wsX9_globe (va_wsS RX9 72 yJ6_bitCount_0f7a4 wsJ6_bitCount_0f7a4) := goodIn_app (goodIn_of _ (by decide +kernel)) ggX9_globe_J6_bitCount_0f7a4
theorem dX9_globe_0 : decode cX9_globe 0 = .ok (.iload_n 1, 1) := by decide +kernel
theorem dX9_globe_1 : decode cX9_globe 1 = .ok (.invokestatic 50, 3) := by decide +kernel
theorem dX9_globe_4 : decode cX9_globe 4 = .ok (.ifCond .ne 5, 3) := by decide +kernel
theorem dX9_globe_7 : decode cX9_globe 7 = .ok (.iconst (-1), 1) := by decide +kernel
theorem dX9_globe_8 : decode cX9_globe 8 = .ok (.ireturn, 1) := by decide +kernel
theorem dX9_globe_9 : decode cX9_globe 9 = .ok (.iload_n 2, 1) := by decide +kernel
theorem dX9_globe_10 : decode cX9_globe 10 = .ok (.bipush 99, 2) := by decide +kernel
theorem dX9_globe_12 : decode cX9_globe 12 = .ok (.invokestatic 54, 3) := by decide +kernel
theorem dX9_globe_15 : decode cX9_globe 15 = .ok (.ifCond .eq 22, 3) := by decide +kernel
theorem dX9_globe_18 : decode cX9_globe 18 = .ok (.iload_n 3, 1) := by decide +kernel
theorem dX9_globe_19 : decode cX9_globe 19 = .ok (.bipush 99, 2) := by decide +kernel
theorem dX9_globe_21 : decode cX9_globe 21 = .ok (.invokestatic 54, 3) := by decide +kernel
theorem dX9_globe_24 : decode cX9_globe 24 = .ok (.ifCond .eq 13, 3) := by decide +kernel
theorem dX9_globe_27 : decode cX9_globe 27 = .ok (.iload 4, 2) := by decide +kernel
theorem dX9_globe_29 : decode cX9_globe 29 = .ok (.bipush 9, 2) := by decide +kernel
theorem dX9_globe_31 : decode cX9_globe 31 = .ok (.invokestatic 54, 3) := by decide +kernel
theorem dX9_globe_34 : decode cX9_globe 34 = .ok (.ifCond .ne 6, 3) := by decide +kernel
theorem dX9_globe_37 : decode cX9_globe 37 = .ok (.bipush (-2), 2) := by decide +kernel
theorem dX9_globe_39 : decode cX9_globe 39 = .ok (.ireturn, 1) := by decide +kernel
theorem dX9_globe_40 : decode cX9_globe 40 = .ok (.aload_n 0, 1) := by decide +kernel
theorem dX9_globe_41 : decode cX9_globe 41 = .ok (.getfield 10, 3) := by decide +kernel
theorem dX9_globe_44 : decode cX9_globe 44 = .ok (.getfield 58, 3) := by decide +kernel
theorem dX9_globe_47 : decode cX9_globe 47 = .ok (.iload_n 1, 1) := by decide +kernel
theorem dX9_globe_48 : decode cX9_globe 48 = .ok (.iload_n 2, 1) := by decide +kernel
theorem dX9_globe_49 : decode cX9_globe 49 = .ok (.iload_n 3, 1) := by decide +kernel
theorem dX9_globe_50 : decode cX9_globe 50 = .ok (.iload 4, 2) := by decide +kernel
theorem dX9_globe_52 : decode cX9_globe 52 = .ok (.iload 5, 2) := by decide +kernel
theorem dX9_globe_54 : decode cX9_globe 54 = .ok (.invokevirtual 62, 3) := by decide +kernel
theorem dX9_globe_57 : decode cX9_globe 57 = .ok (.aload_n 0, 1) := by decide +kernel
theorem dX9_globe_58 : decode cX9_globe 58 = .ok (.getfield 10, 3) := by decide +kernel
theorem dX9_globe_61 : decode cX9_globe 61 = .ok (.getfield 58, 3) := by decide +kernel
theorem dX9_globe_64 : decode cX9_globe 64 = .ok (.getfield 68, 3) := by decide +kernel
theorem dX9_globe_67 : decode cX9_globe 67 = .ok (.invokestatic 72, 3) := by decide +kernel
theorem dX9_globe_70 : decode cX9_globe 70 = .ok (.ireturn, 1) := by decide +kernel
set_option maxRecDepth 20000 in
theorem ggX9_fly_X6_has : GoodIn wsX9_fly wsX6_has := goodIn_r _ [9, 10, 27, 28, 29, 30, 31, 32, 33, 34, 35, 36, 37] (by decide +kernel) (by decide +kernel)
set_option maxRecDepth 20000 in
theorem gX9_fly_X6_has : GoodIn wsX9_fly (wsV RX9 78 RX6 yX6_has wsX6_has) := goodIn_app (goodIn_of _ (by decide +kernel)) ggX9_fly_X6_has
set_option maxRecDepth 20000 in
theorem ggX9_fly_X9_isUpTo : GoodIn wsX9_fly wsX9_isUpTo := goodIn_r _ [14] (by decide +kernel) (by decide +kernel)
set_option maxRecDepth 20000 in
theorem gX9_fly_X9_isUpTo : GoodIn wsX9_fly (va_wsS RX9 54 yX9_isUpTo wsX9_isUpTo) := goodIn_app (goodIn_of _ (by decide +kernel)) ggX9_fly_X9_isUpTo
theorem dX9_fly_0 : decode cX9_fly 0 = .ok (.aload_n 0, 1) := by decide +kernel
theorem dX9_fly_1 : decode cX9_fly 1 = .ok (.getfield 10, 3) := by decide +kernel
theorem dX9_fly_4 : decode cX9_fly 4 = .ok (.getfield 58, 3) := by decide +kernel
theorem dX9_fly_7 : decode cX9_fly 7 = .ok (.astore_n 3, 1) := by decide +kernel
theorem dX9_fly_8 : decode cX9_fly 8 = .ok (.aload_n 3, 1) := by decide +kernel
theorem dX9_fly_9 : decode cX9_fly 9 = .ok (.iload_n 1, 1) := by decide +kernel
theorem dX9_fly_10 : decode cX9_fly 10 = .ok (.invokevirtual 78, 3) := by decide +kernel
theorem dX9_fly_13 : decode cX9_fly 13 = .ok (.ifCond .ne 5, 3) := by decide +kernel
theorem dX9_fly_16 : decode cX9_fly 16 = .ok (.iconst (-1), 1) := by decide +kernel
theorem dX9_fly_17 : decode cX9_fly 17 = .ok (.ireturn, 1) := by decide +kernel
theorem dX9_fly_18 : decode cX9_fly 18 = .ok (.iload_n 2, 1) := by decide +kernel
theorem dX9_fly_19 : decode cX9_fly 19 = .ok (.aload_n 3, 1) := by decide +kernel
theorem dX9_fly_20 : decode cX9_fly 20 = .ok (.getfield 81, 3) := by decide +kernel
theorem dX9_fly_23 : decode cX9_fly 23 = .ok (.iload_n 1, 1) := by decide +kernel
theorem dX9_fly_24 : decode cX9_fly 24 = .ok (.iaload, 1) := by decide +kernel
theorem dX9_fly_25 : decode cX9_fly 25 = .ok (.invokestatic 54, 3) := by decide +kernel
theorem dX9_fly_28 : decode cX9_fly 28 = .ok (.ifCond .ne 6, 3) := by decide +kernel
theorem dX9_fly_31 : decode cX9_fly 31 = .ok (.bipush (-2), 2) := by decide +kernel
theorem dX9_fly_33 : decode cX9_fly 33 = .ok (.ireturn, 1) := by decide +kernel
theorem dX9_fly_34 : decode cX9_fly 34 = .ok (.aload_n 3, 1) := by decide +kernel
theorem dX9_fly_35 : decode cX9_fly 35 = .ok (.getfield 85, 3) := by decide +kernel
theorem dX9_fly_38 : decode cX9_fly 38 = .ok (.iload_n 1, 1) := by decide +kernel
theorem dX9_fly_39 : decode cX9_fly 39 = .ok (.iaload, 1) := by decide +kernel
theorem dX9_fly_40 : decode cX9_fly 40 = .ok (.istore 4, 2) := by decide +kernel
theorem dX9_fly_42 : decode cX9_fly 42 = .ok (.aload_n 3, 1) := by decide +kernel
theorem dX9_fly_43 : decode cX9_fly 43 = .ok (.getfield 85, 3) := by decide +kernel
theorem dX9_fly_46 : decode cX9_fly 46 = .ok (.iload_n 1, 1) := by decide +kernel
theorem dX9_fly_47 : decode cX9_fly 47 = .ok (.iload_n 2, 1) := by decide +kernel
theorem dX9_fly_48 : decode cX9_fly 48 = .ok (.iastore, 1) := by decide +kernel
theorem dX9_fly_49 : decode cX9_fly 49 = .ok (.iload 4, 2) := by decide +kernel
theorem dX9_fly_51 : decode cX9_fly 51 = .ok (.ireturn, 1) := by decide +kernel
set_option maxRecDepth 20000 in
theorem ggX9_mood_X6_has : GoodIn wsX9_mood wsX6_has := goodIn_r _ [9, 10, 27, 28, 29, 30, 31, 32, 33, 34, 35, 36, 37] (by decide +kernel) (by decide +kernel)
set_option maxRecDepth 20000 in
theorem gX9_mood_X6_has : GoodIn wsX9_mood (wsV RX9 78 RX6 yX6_has wsX6_has) := goodIn_app (goodIn_of _ (by decide +kernel)) ggX9_mood_X6_has
set_option maxRecDepth 20000 in
theorem ggX9_mood_X9_isUpTo : GoodIn wsX9_mood wsX9_isUpTo := goodIn_r _ [14] (by decide +kernel) (by decide +kernel)
set_option maxRecDepth 20000 in
theorem gX9_mood_X9_isUpTo : GoodIn wsX9_mood (va_wsS RX9 54 yX9_isUpTo wsX9_isUpTo) := goodIn_app (goodIn_of _ (by decide +kernel)) ggX9_mood_X9_isUpTo
theorem dX9_mood_0 : decode cX9_mood 0 = .ok (.aload_n 0, 1) := by decide +kernel
theorem dX9_mood_1 : decode cX9_mood 1 = .ok (.getfield 10, 3) := by decide +kernel
theorem dX9_mood_4 : decode cX9_mood 4 = .ok (.getfield 58, 3) := by decide +kernel
theorem dX9_mood_7 : decode cX9_mood 7 = .ok (.astore 4, 2) := by decide +kernel
theorem dX9_mood_9 : decode cX9_mood 9 = .ok (.aload 4, 2) := by decide +kernel
theorem dX9_mood_11 : decode cX9_mood 11 = .ok (.iload_n 1, 1) := by decide +kernel
theorem dX9_mood_12 : decode cX9_mood 12 = .ok (.invokevirtual 78, 3) := by decide +kernel
theorem dX9_mood_15 : decode cX9_mood 15 = .ok (.ifCond .ne 5, 3) := by decide +kernel
theorem dX9_mood_18 : decode cX9_mood 18 = .ok (.iconst (-1), 1) := by decide +kernel
theorem dX9_mood_19 : decode cX9_mood 19 = .ok (.ireturn, 1) := by decide +kernel
theorem dX9_mood_20 : decode cX9_mood 20 = .ok (.iload_n 2, 1) := by decide +kernel
theorem dX9_mood_21 : decode cX9_mood 21 = .ok (.bipush 9, 2) := by decide +kernel
theorem dX9_mood_23 : decode cX9_mood 23 = .ok (.invokestatic 54, 3) := by decide +kernel
theorem dX9_mood_26 : decode cX9_mood 26 = .ok (.ifCond .eq 12, 3) := by decide +kernel
theorem dX9_mood_29 : decode cX9_mood 29 = .ok (.iload_n 3, 1) := by decide +kernel
theorem dX9_mood_30 : decode cX9_mood 30 = .ok (.bipush 9, 2) := by decide +kernel
theorem dX9_mood_32 : decode cX9_mood 32 = .ok (.invokestatic 54, 3) := by decide +kernel
theorem dX9_mood_35 : decode cX9_mood 35 = .ok (.ifCond .ne 6, 3) := by decide +kernel
theorem dX9_mood_38 : decode cX9_mood 38 = .ok (.bipush (-2), 2) := by decide +kernel
theorem dX9_mood_40 : decode cX9_mood 40 = .ok (.ireturn, 1) := by decide +kernel
theorem dX9_mood_41 : decode cX9_mood 41 = .ok (.bipush 10, 2) := by decide +kernel
theorem dX9_mood_43 : decode cX9_mood 43 = .ok (.aload 4, 2) := by decide +kernel
theorem dX9_mood_45 : decode cX9_mood 45 = .ok (.getfield 88, 3) := by decide +kernel
theorem dX9_mood_48 : decode cX9_mood 48 = .ok (.iload_n 1, 1) := by decide +kernel
theorem dX9_mood_49 : decode cX9_mood 49 = .ok (.iaload, 1) := by decide +kernel
theorem dX9_mood_50 : decode cX9_mood 50 = .ok (.imul, 1) := by decide +kernel
theorem dX9_mood_51 : decode cX9_mood 51 = .ok (.aload 4, 2) := by decide +kernel
theorem dX9_mood_53 : decode cX9_mood 53 = .ok (.getfield 91, 3) := by decide +kernel
theorem dX9_mood_56 : decode cX9_mood 56 = .ok (.iload_n 1, 1) := by decide +kernel
theorem dX9_mood_57 : decode cX9_mood 57 = .ok (.iaload, 1) := by decide +kernel
theorem dX9_mood_58 : decode cX9_mood 58 = .ok (.iadd, 1) := by decide +kernel
theorem dX9_mood_59 : decode cX9_mood 59 = .ok (.istore 5, 2) := by decide +kernel
theorem dX9_mood_61 : decode cX9_mood 61 = .ok (.aload 4, 2) := by decide +kernel
theorem dX9_mood_63 : decode cX9_mood 63 = .ok (.getfield 88, 3) := by decide +kernel
theorem dX9_mood_66 : decode cX9_mood 66 = .ok (.iload_n 1, 1) := by decide +kernel
theorem dX9_mood_67 : decode cX9_mood 67 = .ok (.iload_n 2, 1) := by decide +kernel
theorem dX9_mood_68 : decode cX9_mood 68 = .ok (.iastore, 1) := by decide +kernel
theorem dX9_mood_69 : decode cX9_mood 69 = .ok (.aload 4, 2) := by decide +kernel
theorem dX9_mood_71 : decode cX9_mood 71 = .ok (.getfield 91, 3) := by decide +kernel
theorem dX9_mood_74 : decode cX9_mood 74 = .ok (.iload_n 1, 1) := by decide +kernel
theorem dX9_mood_75 : decode cX9_mood 75 = .ok (.iload_n 3, 1) := by decide +kernel
theorem dX9_mood_76 : decode cX9_mood 76 = .ok (.iastore, 1) := by decide +kernel
theorem dX9_mood_77 : decode cX9_mood 77 = .ok (.iload 5, 2) := by decide +kernel
theorem dX9_mood_79 : decode cX9_mood 79 = .ok (.ireturn, 1) := by decide +kernel
set_option maxRecDepth 20000 in
theorem ggX9_put_X6_has : GoodIn wsX9_put wsX6_has := goodIn_r _ [8, 9, 32, 33, 34, 35, 36, 37, 38, 39, 40, 41, 42] (by decide +kernel) (by decide +kernel)
set_option maxRecDepth 20000 in
theorem gX9_put_X6_has : GoodIn wsX9_put (wsV RX9 78 RX6 yX6_has wsX6_has) := goodIn_app (goodIn_of _ (by decide +kernel)) ggX9_put_X6_has
set_option maxRecDepth 20000 in
theorem ggX9_put_X6_isWithin : GoodIn wsX9_put wsX6_isWithin := goodIn_r _ [13, 14, 15, 5, 6, 7, 8, 9, 32, 33, 34, 35, 36, 37, 38, 39, 40, 41, 42] (by decide +kernel) (by decide +kernel)
set_option maxRecDepth 20000 in
theorem gX9_put_X6_isWithin : GoodIn wsX9_put (wsV RX9 94 RX6 yX6_isWithin wsX6_isWithin) := goodIn_app (goodIn_of _ (by decide +kernel)) ggX9_put_X6_isWithin
set_option maxRecDepth 20000 in
theorem ggX9_put_X6_outer : GoodIn wsX9_put wsX6_outer := goodIn_r _ [19, 14, 15, 5, 6, 7, 8, 9, 32, 33, 34, 35, 36, 37, 38, 39, 40, 41, 42] (by decide +kernel) (by decide +kernel)
set_option maxRecDepth 20000 in
theorem gX9_put_X6_outer : GoodIn wsX9_put (wsV RX9 97 RX6 yX6_outer wsX6_outer) := goodIn_app (goodIn_of _ (by decide +kernel)) ggX9_put_X6_outer
theorem dX9_put_0 : decode cX9_put 0 = .ok (.aload_n 0, 1) := by decide +kernel
theorem dX9_put_1 : decode cX9_put 1 = .ok (.getfield 10, 3) := by decide +kernel
theorem dX9_put_4 : decode cX9_put 4 = .ok (.getfield 58, 3) := by decide +kernel
theorem dX9_put_7 : decode cX9_put 7 = .ok (.astore_n 3, 1) := by decide +kernel
theorem dX9_put_8 : decode cX9_put 8 = .ok (.aload_n 3, 1) := by decide +kernel
theorem dX9_put_9 : decode cX9_put 9 = .ok (.iload_n 1, 1) := by decide +kernel
theorem dX9_put_10 : decode cX9_put 10 = .ok (.invokevirtual 78, 3) := by decide +kernel
theorem dX9_put_13 : decode cX9_put 13 = .ok (.ifCond .eq 16, 3) := by decide +kernel
theorem dX9_put_16 : decode cX9_put 16 = .ok (.iload_n 2, 1) := by decide +kernel
theorem dX9_put_17 : decode cX9_put 17 = .ok (.iconst (-1), 1) := by decide +kernel
theorem dX9_put_18 : decode cX9_put 18 = .ok (.if_icmp .eq 13, 3) := by decide +kernel
theorem dX9_put_21 : decode cX9_put 21 = .ok (.aload_n 3, 1) := by decide +kernel
theorem dX9_put_22 : decode cX9_put 22 = .ok (.iload_n 2, 1) := by decide +kernel
theorem dX9_put_23 : decode cX9_put 23 = .ok (.invokevirtual 78, 3) := by decide +kernel
theorem dX9_put_26 : decode cX9_put 26 = .ok (.ifCond .ne 5, 3) := by decide +kernel
theorem dX9_put_29 : decode cX9_put 29 = .ok (.iconst (-1), 1) := by decide +kernel
theorem dX9_put_30 : decode cX9_put 30 = .ok (.ireturn, 1) := by decide +kernel
theorem dX9_put_31 : decode cX9_put 31 = .ok (.iload_n 2, 1) := by decide +kernel
theorem dX9_put_32 : decode cX9_put 32 = .ok (.iconst (-1), 1) := by decide +kernel
theorem dX9_put_33 : decode cX9_put 33 = .ok (.if_icmp .eq 15, 3) := by decide +kernel
theorem dX9_put_36 : decode cX9_put 36 = .ok (.aload_n 3, 1) := by decide +kernel
theorem dX9_put_37 : decode cX9_put 37 = .ok (.iload_n 2, 1) := by decide +kernel
theorem dX9_put_38 : decode cX9_put 38 = .ok (.iload_n 1, 1) := by decide +kernel
theorem dX9_put_39 : decode cX9_put 39 = .ok (.invokevirtual 94, 3) := by decide +kernel
theorem dX9_put_42 : decode cX9_put 42 = .ok (.ifCond .eq 6, 3) := by decide +kernel
theorem dX9_put_45 : decode cX9_put 45 = .ok (.bipush (-3), 2) := by decide +kernel
theorem dX9_put_47 : decode cX9_put 47 = .ok (.ireturn, 1) := by decide +kernel
theorem dX9_put_48 : decode cX9_put 48 = .ok (.aload_n 3, 1) := by decide +kernel
theorem dX9_put_49 : decode cX9_put 49 = .ok (.iload_n 1, 1) := by decide +kernel
theorem dX9_put_50 : decode cX9_put 50 = .ok (.invokevirtual 97, 3) := by decide +kernel
theorem dX9_put_53 : decode cX9_put 53 = .ok (.istore 4, 2) := by decide +kernel
theorem dX9_put_55 : decode cX9_put 55 = .ok (.aload_n 3, 1) := by decide +kernel
theorem dX9_put_56 : decode cX9_put 56 = .ok (.getfield 100, 3) := by decide +kernel
theorem dX9_put_59 : decode cX9_put 59 = .ok (.iload_n 1, 1) := by decide +kernel
theorem dX9_put_60 : decode cX9_put 60 = .ok (.iload_n 2, 1) := by decide +kernel
theorem dX9_put_61 : decode cX9_put 61 = .ok (.iastore, 1) := by decide +kernel
theorem dX9_put_62 : decode cX9_put 62 = .ok (.iload 4, 2) := by decide +kernel
theorem dX9_put_64 : decode cX9_put 64 = .ok (.ireturn, 1) := by decide +kernel
set_option maxRecDepth 20000 in
theorem ggX9_say_X1_add : GoodIn wsX9_say wsX1_add := goodIn_r _ [7, 8, 9, 19, 20] (by decide +kernel) (by decide +kernel)
set_option maxRecDepth 20000 in
theorem gX9_say_X1_add : GoodIn wsX9_say (wsV RX9 103 RX1 yX1_add wsX1_add) := goodIn_app (goodIn_of _ (by decide +kernel)) ggX9_say_X1_add
theorem dX9_say_0 : decode cX9_say 0 = .ok (.iload_n 1, 1) := by decide +kernel
theorem dX9_say_1 : decode cX9_say 1 = .ok (.bipush 33, 2) := by decide +kernel
theorem dX9_say_3 : decode cX9_say 3 = .ok (.if_icmp .lt 9, 3) := by decide +kernel
theorem dX9_say_6 : decode cX9_say 6 = .ok (.iload_n 1, 1) := by decide +kernel
theorem dX9_say_7 : decode cX9_say 7 = .ok (.bipush 126, 2) := by decide +kernel
theorem dX9_say_9 : decode cX9_say 9 = .ok (.if_icmp .le 6, 3) := by decide +kernel
theorem dX9_say_12 : decode cX9_say 12 = .ok (.bipush (-2), 2) := by decide +kernel
theorem dX9_say_14 : decode cX9_say 14 = .ok (.ireturn, 1) := by decide +kernel
theorem dX9_say_15 : decode cX9_say 15 = .ok (.aload_n 0, 1) := by decide +kernel
theorem dX9_say_16 : decode cX9_say 16 = .ok (.getfield 25, 3) := by decide +kernel
theorem dX9_say_19 : decode cX9_say 19 = .ok (.iload_n 1, 1) := by decide +kernel
theorem dX9_say_20 : decode cX9_say 20 = .ok (.invokevirtual 103, 3) := by decide +kernel
theorem dX9_say_23 : decode cX9_say 23 = .ok (.ifCond .eq 13, 3) := by decide +kernel
theorem dX9_say_26 : decode cX9_say 26 = .ok (.aload_n 0, 1) := by decide +kernel
theorem dX9_say_27 : decode cX9_say 27 = .ok (.getfield 25, 3) := by decide +kernel
theorem dX9_say_30 : decode cX9_say 30 = .ok (.getfield 106, 3) := by decide +kernel
theorem dX9_say_33 : decode cX9_say 33 = .ok (.goto 5, 3) := by decide +kernel
theorem dX9_say_36 : decode cX9_say 36 = .ok (.bipush (-4), 2) := by decide +kernel
theorem dX9_say_38 : decode cX9_say 38 = .ok (.ireturn, 1) := by decide +kernel
theorem dX9_wipe_0 : decode cX9_wipe 0 = .ok (.aload_n 0, 1) := by decide +kernel
theorem dX9_wipe_1 : decode cX9_wipe 1 = .ok (.getfield 25, 3) := by decide +kernel
theorem dX9_wipe_4 : decode cX9_wipe 4 = .ok (.getfield 106, 3) := by decide +kernel
theorem dX9_wipe_7 : decode cX9_wipe 7 = .ok (.istore_n 1, 1) := by decide +kernel
theorem dX9_wipe_8 : decode cX9_wipe 8 = .ok (.aload_n 0, 1) := by decide +kernel
theorem dX9_wipe_9 : decode cX9_wipe 9 = .ok (.getfield 25, 3) := by decide +kernel
theorem dX9_wipe_12 : decode cX9_wipe 12 = .ok (.iconst 0, 1) := by decide +kernel
theorem dX9_wipe_13 : decode cX9_wipe 13 = .ok (.putfield 106, 3) := by decide +kernel
theorem dX9_wipe_16 : decode cX9_wipe 16 = .ok (.iload_n 1, 1) := by decide +kernel
theorem dX9_wipe_17 : decode cX9_wipe 17 = .ok (.ireturn, 1) := by decide +kernel
set_option maxRecDepth 20000 in
theorem ggX9_fault_X1_faultPlace : GoodIn wsX9_fault wsX1_faultPlace := goodIn_r _ [6, 7, 8, 9, 10, 5, 11, 12, 13, 14, 15, 16, 17, 18, 19, 20, 21, 31, 32] (by decide +kernel) (by decide +kernel)
set_option maxRecDepth 20000 in
theorem gX9_fault_X1_faultPlace : GoodIn wsX9_fault (wsV RX9 109 RX1 yX1_faultPlace wsX1_faultPlace) := goodIn_app (goodIn_of _ (by decide +kernel)) ggX9_fault_X1_faultPlace
theorem dX9_fault_0 : decode cX9_fault 0 = .ok (.aload_n 0, 1) := by decide +kernel
theorem dX9_fault_1 : decode cX9_fault 1 = .ok (.getfield 25, 3) := by decide +kernel
theorem dX9_fault_4 : decode cX9_fault 4 = .ok (.invokevirtual 109, 3) := by decide +kernel
theorem dX9_fault_7 : decode cX9_fault 7 = .ok (.ireturn, 1) := by decide +kernel
set_option maxRecDepth 20000 in
theorem ggX9_judge_X9_isUpTo : GoodIn wsX9_judge wsX9_isUpTo := goodIn_r _ [11] (by decide +kernel) (by decide +kernel)
set_option maxRecDepth 20000 in
theorem gX9_judge_X9_isUpTo : GoodIn wsX9_judge (va_wsS RX9 54 yX9_isUpTo wsX9_isUpTo) := goodIn_app (goodIn_of _ (by decide +kernel)) ggX9_judge_X9_isUpTo
set_option maxRecDepth 20000 in
theorem ggX9_judge_X4_run : GoodIn wsX9_judge wsX4_run := goodIn_r _ [16, 17, 18, 19, 20, 21, 22, 23, 24, 25, 26, 27, 28, 29, 30, 31, 32, 33, 34, 35, 36, 37, 38, 39, 40, 41, 42, 43, 44, 45, 46, 47, 48, 49, 50, 51, 52, 53, 54, 55, 56, 57, 58, 59, 60, 61, 62, 10, 63, 64, 65, 66, 67, 15, 68, 69, 70, 71, 72, 73, 74, 75, 76, 77, 78, 79, 80, 81, 82, 83, 84, 85, 86, 87, 88, 89, 90, 91, 92, 93, 94, 95, 96, 97, 98, 99, 100, 101, 102, 103, 104, 105, 106, 107, 108, 109, 110, 111, 112, 113, 114, 115, 116, 129, 130, 131, 132, 133, 134, 135, 136, 137, 138, 139, 140, 141, 142, 143, 144, 145, 146, 147, 148] (by decide +kernel) (by decide +kernel)
set_option maxRecDepth 20000 in
theorem gX9_judge_X4_run : GoodIn wsX9_judge (wsV RX9 113 RX4 yX4_run wsX4_run) := goodIn_app (goodIn_of _ (by decide +kernel)) ggX9_judge_X4_run
theorem dX9_judge_0 : decode cX9_judge 0 = .ok (.iload_n 1, 1) := by decide +kernel
theorem dX9_judge_1 : decode cX9_judge 1 = .ok (.iconst 1, 1) := by decide +kernel
theorem dX9_judge_2 : decode cX9_judge 2 = .ok (.invokestatic 54, 3) := by decide +kernel
theorem dX9_judge_5 : decode cX9_judge 5 = .ok (.ifCond .ne 6, 3) := by decide +kernel
theorem dX9_judge_8 : decode cX9_judge 8 = .ok (.bipush (-2), 2) := by decide +kernel
theorem dX9_judge_10 : decode cX9_judge 10 = .ok (.ireturn, 1) := by decide +kernel
theorem dX9_judge_11 : decode cX9_judge 11 = .ok (.aload_n 0, 1) := by decide +kernel
theorem dX9_judge_12 : decode cX9_judge 12 = .ok (.getfield 32, 3) := by decide +kernel
theorem dX9_judge_15 : decode cX9_judge 15 = .ok (.aload_n 0, 1) := by decide +kernel
theorem dX9_judge_16 : decode cX9_judge 16 = .ok (.getfield 25, 3) := by decide +kernel
theorem dX9_judge_19 : decode cX9_judge 19 = .ok (.aload_n 0, 1) := by decide +kernel
theorem dX9_judge_20 : decode cX9_judge 20 = .ok (.getfield 10, 3) := by decide +kernel
theorem dX9_judge_23 : decode cX9_judge 23 = .ok (.getfield 58, 3) := by decide +kernel
theorem dX9_judge_26 : decode cX9_judge 26 = .ok (.invokevirtual 113, 3) := by decide +kernel
theorem dX9_judge_29 : decode cX9_judge 29 = .ok (.pop, 1) := by decide +kernel
theorem dX9_judge_30 : decode cX9_judge 30 = .ok (.aload_n 0, 1) := by decide +kernel
theorem dX9_judge_31 : decode cX9_judge 31 = .ok (.getfield 32, 3) := by decide +kernel
theorem dX9_judge_34 : decode cX9_judge 34 = .ok (.getfield 117, 3) := by decide +kernel
theorem dX9_judge_37 : decode cX9_judge 37 = .ok (.ifCond .eq 6, 3) := by decide +kernel
theorem dX9_judge_40 : decode cX9_judge 40 = .ok (.bipush (-5), 2) := by decide +kernel
theorem dX9_judge_42 : decode cX9_judge 42 = .ok (.ireturn, 1) := by decide +kernel
theorem dX9_judge_43 : decode cX9_judge 43 = .ok (.iload_n 1, 1) := by decide +kernel
theorem dX9_judge_44 : decode cX9_judge 44 = .ok (.ifCond .ne 13, 3) := by decide +kernel
theorem dX9_judge_47 : decode cX9_judge 47 = .ok (.aload_n 0, 1) := by decide +kernel
theorem dX9_judge_48 : decode cX9_judge 48 = .ok (.getfield 32, 3) := by decide +kernel
theorem dX9_judge_51 : decode cX9_judge 51 = .ok (.getfield 121, 3) := by decide +kernel
theorem dX9_judge_54 : decode cX9_judge 54 = .ok (.goto 10, 3) := by decide +kernel
theorem dX9_judge_57 : decode cX9_judge 57 = .ok (.aload_n 0, 1) := by decide +kernel
theorem dX9_judge_58 : decode cX9_judge 58 = .ok (.getfield 32, 3) := by decide +kernel
theorem dX9_judge_61 : decode cX9_judge 61 = .ok (.getfield 124, 3) := by decide +kernel
theorem dX9_judge_64 : decode cX9_judge 64 = .ok (.ireturn, 1) := by decide +kernel
set_option maxRecDepth 20000 in
theorem ggX9_done_X4_run : GoodIn wsX9_done wsX4_run := goodIn_r _ [12, 13, 14, 15, 16, 17, 18, 19, 20, 21, 22, 23, 24, 25, 26, 27, 28, 29, 30, 31, 32, 33, 34, 35, 36, 37, 38, 39, 40, 41, 42, 43, 44, 45, 46, 47, 48, 49, 50, 51, 52, 53, 54, 55, 56, 57, 58, 59, 60, 61, 62, 63, 64, 11, 65, 66, 67, 68, 69, 70, 71, 72, 73, 74, 75, 76, 77, 78, 79, 80, 81, 82, 83, 84, 85, 86, 87, 88, 89, 90, 91, 92, 93, 94, 95, 96, 97, 98, 99, 100, 101, 102, 103, 104, 105, 106, 107, 108, 109, 110, 111, 112, 113, 127, 128, 129, 130, 131, 132, 133, 134, 135, 136, 137, 138, 139, 140, 141, 142, 143, 144, 145, 146] (by decide +kernel) (by decide +kernel)
set_option maxRecDepth 20000 in
theorem gX9_done_X4_run : GoodIn wsX9_done (wsV RX9 113 RX4 yX4_run wsX4_run) := goodIn_app (goodIn_of _ (by decide +kernel)) ggX9_done_X4_run
set_option maxRecDepth 20000 in
theorem ggX9_done_X6_takeFrom : GoodIn wsX9_done wsX6_takeFrom := goodIn_r _ [25, 26, 27, 28, 29, 30, 31, 32, 33, 34, 35, 36, 37, 38, 39, 40, 136, 137, 138, 139, 140, 141, 142, 143, 144, 145, 146] (by decide +kernel) (by decide +kernel)
set_option maxRecDepth 20000 in
theorem gX9_done_X6_takeFrom : GoodIn wsX9_done (wsV RX9 128 RX6 yX6_takeFrom wsX6_takeFrom) := goodIn_app (goodIn_of _ (by decide +kernel)) ggX9_done_X6_takeFrom
theorem dX9_done_0 : decode cX9_done 0 = .ok (.aload_n 0, 1) := by decide +kernel
theorem dX9_done_1 : decode cX9_done 1 = .ok (.getfield 32, 3) := by decide +kernel
theorem dX9_done_4 : decode cX9_done 4 = .ok (.aload_n 0, 1) := by decide +kernel
theorem dX9_done_5 : decode cX9_done 5 = .ok (.getfield 25, 3) := by decide +kernel
theorem dX9_done_8 : decode cX9_done 8 = .ok (.aload_n 0, 1) := by decide +kernel
theorem dX9_done_9 : decode cX9_done 9 = .ok (.getfield 10, 3) := by decide +kernel
theorem dX9_done_12 : decode cX9_done 12 = .ok (.getfield 58, 3) := by decide +kernel
theorem dX9_done_15 : decode cX9_done 15 = .ok (.invokevirtual 113, 3) := by decide +kernel
theorem dX9_done_18 : decode cX9_done 18 = .ok (.ifCond .ne 6, 3) := by decide +kernel
theorem dX9_done_21 : decode cX9_done 21 = .ok (.bipush (-5), 2) := by decide +kernel
theorem dX9_done_23 : decode cX9_done 23 = .ok (.ireturn, 1) := by decide +kernel
theorem dX9_done_24 : decode cX9_done 24 = .ok (.aload_n 0, 1) := by decide +kernel
theorem dX9_done_25 : decode cX9_done 25 = .ok (.getfield 10, 3) := by decide +kernel
theorem dX9_done_28 : decode cX9_done 28 = .ok (.getfield 58, 3) := by decide +kernel
theorem dX9_done_31 : decode cX9_done 31 = .ok (.aload_n 0, 1) := by decide +kernel
theorem dX9_done_32 : decode cX9_done 32 = .ok (.getfield 32, 3) := by decide +kernel
theorem dX9_done_35 : decode cX9_done 35 = .ok (.getfield 127, 3) := by decide +kernel
theorem dX9_done_38 : decode cX9_done 38 = .ok (.invokevirtual 128, 3) := by decide +kernel
theorem dX9_done_41 : decode cX9_done 41 = .ok (.aload_n 0, 1) := by decide +kernel
theorem dX9_done_42 : decode cX9_done 42 = .ok (.getfield 25, 3) := by decide +kernel
theorem dX9_done_45 : decode cX9_done 45 = .ok (.iconst 0, 1) := by decide +kernel
theorem dX9_done_46 : decode cX9_done 46 = .ok (.putfield 106, 3) := by decide +kernel
theorem dX9_done_49 : decode cX9_done 49 = .ok (.aload_n 0, 1) := by decide +kernel
theorem dX9_done_50 : decode cX9_done 50 = .ok (.getfield 32, 3) := by decide +kernel
theorem dX9_done_53 : decode cX9_done 53 = .ok (.getfield 132, 3) := by decide +kernel
theorem dX9_done_56 : decode cX9_done 56 = .ok (.ireturn, 1) := by decide +kernel
set_option maxRecDepth 20000 in
theorem ggX9_behind_X6_has : GoodIn wsX9_behind wsX6_has := goodIn_r _ [14, 15, 139, 140, 141, 142, 143, 144, 145, 146, 147, 148, 149] (by decide +kernel) (by decide +kernel)
set_option maxRecDepth 20000 in
theorem gX9_behind_X6_has : GoodIn wsX9_behind (wsV RX9 78 RX6 yX6_has wsX6_has) := goodIn_app (goodIn_of _ (by decide +kernel)) ggX9_behind_X6_has
set_option maxRecDepth 20000 in
theorem ggX9_behind_X9_isUpTo : GoodIn wsX9_behind wsX9_isUpTo := goodIn_r _ [19] (by decide +kernel) (by decide +kernel)
set_option maxRecDepth 20000 in
theorem gX9_behind_X9_isUpTo : GoodIn wsX9_behind (va_wsS RX9 54 yX9_isUpTo wsX9_isUpTo) := goodIn_app (goodIn_of _ (by decide +kernel)) ggX9_behind_X9_isUpTo
set_option maxRecDepth 20000 in
theorem ggX9_behind_X4_run : GoodIn wsX9_behind wsX4_run := goodIn_r _ [24, 25, 26, 27, 28, 29, 30, 31, 32, 33, 34, 35, 13, 36, 37, 38, 39, 40, 41, 42, 43, 44, 45, 46, 47, 15, 48, 49, 50, 51, 52, 53, 54, 55, 56, 57, 58, 59, 60, 61, 62, 63, 64, 65, 66, 67, 68, 18, 69, 70, 71, 72, 73, 23, 74, 75, 76, 77, 78, 79, 11, 12, 14, 80, 81, 82, 83, 84, 85, 86, 87, 88, 89, 90, 91, 92, 93, 94, 95, 96, 97, 98, 99, 100, 101, 102, 103, 104, 105, 106, 107, 108, 109, 110, 111, 112, 113, 114, 115, 116, 117, 118, 119, 132, 133, 134, 135, 136, 137, 138, 150, 151, 139, 140, 141, 142, 143, 144, 145, 146, 147, 148, 149] (by decide +kernel) (by decide +kernel)
set_option maxRecDepth 20000 in
theorem gX9_behind_X4_run : GoodIn wsX9_behind (wsV RX9 113 RX4 yX4_run wsX4_run) := goodIn_app (goodIn_of _ (by decide +kernel)) ggX9_behind_X4_run
theorem dX9_behind_0 : decode cX9_behind 0 = .ok (.aload_n 0, 1) := by decide +kernel
theorem dX9_behind_1 : decode cX9_behind 1 = .ok (.getfield 10, 3) := by decide +kernel
theorem dX9_behind_4 : decode cX9_behind 4 = .ok (.getfield 58, 3) := by decide +kernel
theorem dX9_behind_7 : decode cX9_behind 7 = .ok (.iload_n 1, 1) := by decide +kernel
theorem dX9_behind_8 : decode cX9_behind 8 = .ok (.invokevirtual 78, 3) := by decide +kernel
theorem dX9_behind_11 : decode cX9_behind 11 = .ok (.ifCond .ne 5, 3) := by decide +kernel
theorem dX9_behind_14 : decode cX9_behind 14 = .ok (.iconst (-1), 1) := by decide +kernel
theorem dX9_behind_15 : decode cX9_behind 15 = .ok (.ireturn, 1) := by decide +kernel
theorem dX9_behind_16 : decode cX9_behind 16 = .ok (.iload_n 2, 1) := by decide +kernel
theorem dX9_behind_17 : decode cX9_behind 17 = .ok (.iconst 3, 1) := by decide +kernel
theorem dX9_behind_18 : decode cX9_behind 18 = .ok (.invokestatic 54, 3) := by decide +kernel
theorem dX9_behind_21 : decode cX9_behind 21 = .ok (.ifCond .ne 6, 3) := by decide +kernel
theorem dX9_behind_24 : decode cX9_behind 24 = .ok (.bipush (-2), 2) := by decide +kernel
theorem dX9_behind_26 : decode cX9_behind 26 = .ok (.ireturn, 1) := by decide +kernel
theorem dX9_behind_27 : decode cX9_behind 27 = .ok (.aload_n 0, 1) := by decide +kernel
theorem dX9_behind_28 : decode cX9_behind 28 = .ok (.getfield 32, 3) := by decide +kernel
theorem dX9_behind_31 : decode cX9_behind 31 = .ok (.aload_n 0, 1) := by decide +kernel
theorem dX9_behind_32 : decode cX9_behind 32 = .ok (.getfield 25, 3) := by decide +kernel
theorem dX9_behind_35 : decode cX9_behind 35 = .ok (.aload_n 0, 1) := by decide +kernel
theorem dX9_behind_36 : decode cX9_behind 36 = .ok (.getfield 10, 3) := by decide +kernel
theorem dX9_behind_39 : decode cX9_behind 39 = .ok (.getfield 58, 3) := by decide +kernel
theorem dX9_behind_42 : decode cX9_behind 42 = .ok (.invokevirtual 113, 3) := by decide +kernel
theorem dX9_behind_45 : decode cX9_behind 45 = .ok (.ifCond .ne 6, 3) := by decide +kernel
theorem dX9_behind_48 : decode cX9_behind 48 = .ok (.bipush (-5), 2) := by decide +kernel
theorem dX9_behind_50 : decode cX9_behind 50 = .ok (.ireturn, 1) := by decide +kernel
theorem dX9_behind_51 : decode cX9_behind 51 = .ok (.aload_n 0, 1) := by decide +kernel
theorem dX9_behind_52 : decode cX9_behind 52 = .ok (.getfield 32, 3) := by decide +kernel
theorem dX9_behind_55 : decode cX9_behind 55 = .ok (.getfield 127, 3) := by decide +kernel
theorem dX9_behind_58 : decode cX9_behind 58 = .ok (.astore_n 3, 1) := by decide +kernel
theorem dX9_behind_59 : decode cX9_behind 59 = .ok (.aload_n 3, 1) := by decide +kernel
theorem dX9_behind_60 : decode cX9_behind 60 = .ok (.iload_n 1, 1) := by decide +kernel
theorem dX9_behind_61 : decode cX9_behind 61 = .ok (.invokevirtual 78, 3) := by decide +kernel
theorem dX9_behind_64 : decode cX9_behind 64 = .ok (.ifCond .ne 6, 3) := by decide +kernel
theorem dX9_behind_67 : decode cX9_behind 67 = .ok (.bipush (-6), 2) := by decide +kernel
theorem dX9_behind_69 : decode cX9_behind 69 = .ok (.ireturn, 1) := by decide +kernel
theorem dX9_behind_70 : decode cX9_behind 70 = .ok (.iload_n 2, 1) := by decide +kernel
theorem dX9_behind_71 : decode cX9_behind 71 = .ok (.tableswitch 46 0 2 #[25, 32, 39], 25) := by decide +kernel
theorem dX9_behind_96 : decode cX9_behind 96 = .ok (.aload_n 3, 1) := by decide +kernel
theorem dX9_behind_97 : decode cX9_behind 97 = .ok (.getfield 85, 3) := by decide +kernel
theorem dX9_behind_100 : decode cX9_behind 100 = .ok (.iload_n 1, 1) := by decide +kernel
theorem dX9_behind_101 : decode cX9_behind 101 = .ok (.iaload, 1) := by decide +kernel
theorem dX9_behind_102 : decode cX9_behind 102 = .ok (.ireturn, 1) := by decide +kernel
theorem dX9_behind_103 : decode cX9_behind 103 = .ok (.aload_n 3, 1) := by decide +kernel
theorem dX9_behind_104 : decode cX9_behind 104 = .ok (.getfield 135, 3) := by decide +kernel
theorem dX9_behind_107 : decode cX9_behind 107 = .ok (.iload_n 1, 1) := by decide +kernel
theorem dX9_behind_108 : decode cX9_behind 108 = .ok (.iaload, 1) := by decide +kernel
theorem dX9_behind_109 : decode cX9_behind 109 = .ok (.ireturn, 1) := by decide +kernel
theorem dX9_behind_110 : decode cX9_behind 110 = .ok (.aload_n 3, 1) := by decide +kernel
theorem dX9_behind_111 : decode cX9_behind 111 = .ok (.getfield 88, 3) := by decide +kernel
theorem dX9_behind_114 : decode cX9_behind 114 = .ok (.iload_n 1, 1) := by decide +kernel
theorem dX9_behind_115 : decode cX9_behind 115 = .ok (.iaload, 1) := by decide +kernel
theorem dX9_behind_116 : decode cX9_behind 116 = .ok (.ireturn, 1) := by decide +kernel
theorem dX9_behind_117 : decode cX9_behind 117 = .ok (.aload_n 3, 1) := by decide +kernel
theorem dX9_behind_118 : decode cX9_behind 118 = .ok (.getfield 91, 3) := by decide +kernel
theorem dX9_behind_121 : decode cX9_behind 121 = .ok (.iload_n 1, 1) := by decide +kernel
theorem dX9_behind_122 : decode cX9_behind 122 = .ok (.iaload, 1) := by decide +kernel
theorem dX9_behind_123 : decode cX9_behind 123 = .ok (.ireturn, 1) := by decide +kernel
set_option maxRecDepth 20000 in
theorem ggX9_then_X9_isUpTo : GoodIn wsX9_then wsX9_isUpTo := goodIn_r _ [13] (by decide +kernel) (by decide +kernel)
set_option maxRecDepth 20000 in
theorem gX9_then_X9_isUpTo : GoodIn wsX9_then (va_wsS RX9 54 yX9_isUpTo wsX9_isUpTo) := goodIn_app (goodIn_of _ (by decide +kernel)) ggX9_then_X9_isUpTo
set_option maxRecDepth 20000 in
theorem ggX9_then_X4_run : GoodIn wsX9_then wsX4_run := goodIn_r _ [18, 19, 20, 21, 22, 23, 24, 25, 26, 27, 28, 29, 30, 31, 32, 33, 34, 35, 36, 37, 38, 39, 40, 41, 42, 43, 44, 45, 46, 47, 48, 49, 50, 51, 52, 53, 54, 55, 56, 57, 58, 59, 60, 61, 62, 63, 64, 12, 65, 66, 67, 68, 69, 17, 70, 71, 72, 73, 74, 75, 76, 77, 78, 79, 80, 81, 82, 83, 84, 85, 86, 87, 88, 89, 90, 91, 92, 93, 94, 95, 96, 97, 98, 99, 100, 101, 102, 103, 104, 105, 106, 107, 108, 109, 110, 111, 112, 113, 114, 115, 116, 117, 118, 136, 137, 138, 139, 140, 141, 142, 154, 155, 143, 144, 145, 146, 147, 148, 149, 150, 151, 152, 153] (by decide +kernel) (by decide +kernel)
set_option maxRecDepth 20000 in
theorem gX9_then_X4_run : GoodIn wsX9_then (wsV RX9 113 RX4 yX4_run wsX4_run) := goodIn_app (goodIn_of _ (by decide +kernel)) ggX9_then_X4_run
set_option maxRecDepth 20000 in
theorem ggX9_then_X6_snowBits : GoodIn wsX9_then wsX6_snowBits := goodIn_r _ [122, 38, 75, 76, 77, 30, 78, 43, 143, 144, 145, 146, 147, 148, 149, 150, 151, 152, 153] (by decide +kernel) (by decide +kernel)
set_option maxRecDepth 20000 in
theorem gX9_then_X6_snowBits : GoodIn wsX9_then (wsV RX9 138 RX6 yX6_snowBits wsX6_snowBits) := goodIn_app (goodIn_of _ (by decide +kernel)) ggX9_then_X6_snowBits
set_option maxRecDepth 20000 in
theorem ggX9_then_X6_freeBits : GoodIn wsX9_then wsX6_freeBits := goodIn_r _ [90, 83, 84, 85, 30, 86, 32, 75, 76, 77, 78, 43, 143, 144, 145, 146, 147, 148, 149, 150, 151, 152, 153] (by decide +kernel) (by decide +kernel)
set_option maxRecDepth 20000 in
theorem gX9_then_X6_freeBits : GoodIn wsX9_then (wsV RX9 141 RX6 yX6_freeBits wsX6_freeBits) := goodIn_app (goodIn_of _ (by decide +kernel)) ggX9_then_X6_freeBits
theorem dX9_then_0 : decode cX9_then 0 = .ok (.iload_n 1, 1) := by decide +kernel
theorem dX9_then_1 : decode cX9_then 1 = .ok (.iconst 5, 1) := by decide +kernel
theorem dX9_then_2 : decode cX9_then 2 = .ok (.invokestatic 54, 3) := by decide +kernel
theorem dX9_then_5 : decode cX9_then 5 = .ok (.ifCond .ne 6, 3) := by decide +kernel
theorem dX9_then_8 : decode cX9_then 8 = .ok (.bipush (-2), 2) := by decide +kernel
theorem dX9_then_10 : decode cX9_then 10 = .ok (.ireturn, 1) := by decide +kernel
theorem dX9_then_11 : decode cX9_then 11 = .ok (.aload_n 0, 1) := by decide +kernel
theorem dX9_then_12 : decode cX9_then 12 = .ok (.getfield 32, 3) := by decide +kernel
theorem dX9_then_15 : decode cX9_then 15 = .ok (.aload_n 0, 1) := by decide +kernel
theorem dX9_then_16 : decode cX9_then 16 = .ok (.getfield 25, 3) := by decide +kernel
theorem dX9_then_19 : decode cX9_then 19 = .ok (.aload_n 0, 1) := by decide +kernel
theorem dX9_then_20 : decode cX9_then 20 = .ok (.getfield 10, 3) := by decide +kernel
theorem dX9_then_23 : decode cX9_then 23 = .ok (.getfield 58, 3) := by decide +kernel
theorem dX9_then_26 : decode cX9_then 26 = .ok (.invokevirtual 113, 3) := by decide +kernel
theorem dX9_then_29 : decode cX9_then 29 = .ok (.ifCond .ne 6, 3) := by decide +kernel
theorem dX9_then_32 : decode cX9_then 32 = .ok (.bipush (-5), 2) := by decide +kernel
theorem dX9_then_34 : decode cX9_then 34 = .ok (.ireturn, 1) := by decide +kernel
theorem dX9_then_35 : decode cX9_then 35 = .ok (.iload_n 1, 1) := by decide +kernel
theorem dX9_then_36 : decode cX9_then 36 = .ok (.tableswitch 88 0 4 #[36, 47, 58, 69, 80], 36) := by decide +kernel
theorem dX9_then_72 : decode cX9_then 72 = .ok (.aload_n 0, 1) := by decide +kernel
theorem dX9_then_73 : decode cX9_then 73 = .ok (.getfield 32, 3) := by decide +kernel
theorem dX9_then_76 : decode cX9_then 76 = .ok (.getfield 127, 3) := by decide +kernel
theorem dX9_then_79 : decode cX9_then 79 = .ok (.invokevirtual 138, 3) := by decide +kernel
theorem dX9_then_82 : decode cX9_then 82 = .ok (.ireturn, 1) := by decide +kernel
theorem dX9_then_83 : decode cX9_then 83 = .ok (.aload_n 0, 1) := by decide +kernel
theorem dX9_then_84 : decode cX9_then 84 = .ok (.getfield 32, 3) := by decide +kernel
theorem dX9_then_87 : decode cX9_then 87 = .ok (.getfield 127, 3) := by decide +kernel
theorem dX9_then_90 : decode cX9_then 90 = .ok (.invokevirtual 141, 3) := by decide +kernel
theorem dX9_then_93 : decode cX9_then 93 = .ok (.ireturn, 1) := by decide +kernel
theorem dX9_then_94 : decode cX9_then 94 = .ok (.aload_n 0, 1) := by decide +kernel
theorem dX9_then_95 : decode cX9_then 95 = .ok (.getfield 32, 3) := by decide +kernel
theorem dX9_then_98 : decode cX9_then 98 = .ok (.getfield 127, 3) := by decide +kernel
theorem dX9_then_101 : decode cX9_then 101 = .ok (.getfield 144, 3) := by decide +kernel
theorem dX9_then_104 : decode cX9_then 104 = .ok (.ireturn, 1) := by decide +kernel
theorem dX9_then_105 : decode cX9_then 105 = .ok (.aload_n 0, 1) := by decide +kernel
theorem dX9_then_106 : decode cX9_then 106 = .ok (.getfield 32, 3) := by decide +kernel
theorem dX9_then_109 : decode cX9_then 109 = .ok (.getfield 127, 3) := by decide +kernel
theorem dX9_then_112 : decode cX9_then 112 = .ok (.getfield 147, 3) := by decide +kernel
theorem dX9_then_115 : decode cX9_then 115 = .ok (.ireturn, 1) := by decide +kernel
theorem dX9_then_116 : decode cX9_then 116 = .ok (.aload_n 0, 1) := by decide +kernel
theorem dX9_then_117 : decode cX9_then 117 = .ok (.getfield 32, 3) := by decide +kernel
theorem dX9_then_120 : decode cX9_then 120 = .ok (.getfield 150, 3) := by decide +kernel
theorem dX9_then_123 : decode cX9_then 123 = .ok (.ireturn, 1) := by decide +kernel
theorem dX9_then_124 : decode cX9_then 124 = .ok (.aload_n 0, 1) := by decide +kernel
theorem dX9_then_125 : decode cX9_then 125 = .ok (.getfield 32, 3) := by decide +kernel
theorem dX9_then_128 : decode cX9_then 128 = .ok (.getfield 153, 3) := by decide +kernel
theorem dX9_then_131 : decode cX9_then 131 = .ok (.ireturn, 1) := by decide +kernel
set_option maxRecDepth 20000 in
theorem ggX9_look_X6_has : GoodIn wsX9_look wsX6_has := goodIn_r _ [7, 8, 56, 57, 58, 59, 60, 61, 62, 63, 64, 65, 66] (by decide +kernel) (by decide +kernel)
set_option maxRecDepth 20000 in
theorem gX9_look_X6_has : GoodIn wsX9_look (wsV RX9 78 RX6 yX6_has wsX6_has) := goodIn_app (goodIn_of _ (by decide +kernel)) ggX9_look_X6_has
set_option maxRecDepth 20000 in
theorem ggX9_look_X9_isUpTo : GoodIn wsX9_look wsX9_isUpTo := goodIn_r _ [12] (by decide +kernel) (by decide +kernel)
set_option maxRecDepth 20000 in
theorem gX9_look_X9_isUpTo : GoodIn wsX9_look (va_wsS RX9 54 yX9_isUpTo wsX9_isUpTo) := goodIn_app (goodIn_of _ (by decide +kernel)) ggX9_look_X9_isUpTo
set_option maxRecDepth 20000 in
theorem ggX9_look_X6_visible : GoodIn wsX9_look wsX6_visible := goodIn_r _ [16, 17, 18, 19, 20, 21, 22, 23, 4, 5, 6, 7, 8, 24, 25, 26, 27, 28, 56, 57, 58, 59, 60, 61, 62, 63, 64, 65, 66] (by decide +kernel) (by decide +kernel)
set_option maxRecDepth 20000 in
theorem gX9_look_X6_visible : GoodIn wsX9_look (wsV RX9 156 RX6 yX6_visible wsX6_visible) := goodIn_app (goodIn_of _ (by decide +kernel)) ggX9_look_X6_visible
set_option maxRecDepth 20000 in
theorem ggX9_look_X6_depth : GoodIn wsX9_look wsX6_depth := goodIn_r _ [32, 33, 34, 35, 6, 36, 24, 25, 26, 27, 28, 23, 4, 5, 7, 8, 37, 38, 39, 40, 41, 42, 43, 56, 57, 58, 59, 60, 61, 62, 63, 64, 65, 66] (by decide +kernel) (by decide +kernel)
set_option maxRecDepth 20000 in
theorem gX9_look_X6_depth : GoodIn wsX9_look (wsV RX9 159 RX6 yX6_depth wsX6_depth) := goodIn_app (goodIn_of _ (by decide +kernel)) ggX9_look_X6_depth
theorem dX9_look_0 : decode cX9_look 0 = .ok (.aload_n 0, 1) := by decide +kernel
theorem dX9_look_1 : decode cX9_look 1 = .ok (.getfield 10, 3) := by decide +kernel
theorem dX9_look_4 : decode cX9_look 4 = .ok (.getfield 58, 3) := by decide +kernel
theorem dX9_look_7 : decode cX9_look 7 = .ok (.astore_n 3, 1) := by decide +kernel
theorem dX9_look_8 : decode cX9_look 8 = .ok (.aload_n 3, 1) := by decide +kernel
theorem dX9_look_9 : decode cX9_look 9 = .ok (.iload_n 1, 1) := by decide +kernel
theorem dX9_look_10 : decode cX9_look 10 = .ok (.invokevirtual 78, 3) := by decide +kernel
theorem dX9_look_13 : decode cX9_look 13 = .ok (.ifCond .ne 5, 3) := by decide +kernel
theorem dX9_look_16 : decode cX9_look 16 = .ok (.iconst (-1), 1) := by decide +kernel
theorem dX9_look_17 : decode cX9_look 17 = .ok (.ireturn, 1) := by decide +kernel
theorem dX9_look_18 : decode cX9_look 18 = .ok (.iload_n 2, 1) := by decide +kernel
theorem dX9_look_19 : decode cX9_look 19 = .ok (.iconst 1, 1) := by decide +kernel
theorem dX9_look_20 : decode cX9_look 20 = .ok (.invokestatic 54, 3) := by decide +kernel
theorem dX9_look_23 : decode cX9_look 23 = .ok (.ifCond .ne 6, 3) := by decide +kernel
theorem dX9_look_26 : decode cX9_look 26 = .ok (.bipush (-2), 2) := by decide +kernel
theorem dX9_look_28 : decode cX9_look 28 = .ok (.ireturn, 1) := by decide +kernel
theorem dX9_look_29 : decode cX9_look 29 = .ok (.iload_n 2, 1) := by decide +kernel
theorem dX9_look_30 : decode cX9_look 30 = .ok (.ifCond .ne 11, 3) := by decide +kernel
theorem dX9_look_33 : decode cX9_look 33 = .ok (.aload_n 3, 1) := by decide +kernel
theorem dX9_look_34 : decode cX9_look 34 = .ok (.iload_n 1, 1) := by decide +kernel
theorem dX9_look_35 : decode cX9_look 35 = .ok (.invokevirtual 156, 3) := by decide +kernel
theorem dX9_look_38 : decode cX9_look 38 = .ok (.goto 8, 3) := by decide +kernel
theorem dX9_look_41 : decode cX9_look 41 = .ok (.aload_n 3, 1) := by decide +kernel
theorem dX9_look_42 : decode cX9_look 42 = .ok (.iload_n 1, 1) := by decide +kernel
theorem dX9_look_43 : decode cX9_look 43 = .ok (.invokevirtual 159, 3) := by decide +kernel
theorem dX9_look_46 : decode cX9_look 46 = .ok (.ireturn, 1) := by decide +kernel
set_option maxRecDepth 20000 in
theorem ggX9_just_X9_isUpTo : GoodIn wsX9_just wsX9_isUpTo := goodIn_r _ [6] (by decide +kernel) (by decide +kernel)
set_option maxRecDepth 20000 in
theorem gX9_just_X9_isUpTo : GoodIn wsX9_just (va_wsS RX9 54 yX9_isUpTo wsX9_isUpTo) := goodIn_app (goodIn_of _ (by decide +kernel)) ggX9_just_X9_isUpTo
set_option maxRecDepth 20000 in
theorem ggX9_just_X6_shakenFor : GoodIn wsX9_just wsX6_shakenFor := goodIn_r _ [11, 12, 13, 14, 15, 10, 16, 17, 18, 19, 20, 21, 22, 23, 24, 25, 26, 27, 28, 29, 30, 31, 32, 33, 34, 35, 36, 37, 38, 58, 59, 60, 61, 62, 63, 64, 65, 66, 67, 68] (by decide +kernel) (by decide +kernel)
set_option maxRecDepth 20000 in
theorem gX9_just_X6_shakenFor : GoodIn wsX9_just (wsV RX9 162 RX6 yX6_shakenFor wsX6_shakenFor) := goodIn_app (goodIn_of _ (by decide +kernel)) ggX9_just_X6_shakenFor
set_option maxRecDepth 20000 in
theorem ggX9_just_J6_bitCount_0f7a4 : GoodIn wsX9_just wsJ6_bitCount_0f7a4 := goodIn_r _ [42, 43, 44, 45] (by decide +kernel) (by decide +kernel)
set_option maxRecDepth 20000 in
theorem gX9_just_J6_bitCount_0f7a4 : GoodIn wsX9_just (va_wsS RX9 72 yJ6_bitCount_0f7a4 wsJ6_bitCount_0f7a4) := goodIn_app (goodIn_of _ (by decide +kernel)) ggX9_just_J6_bitCount_0f7a4
theorem dX9_just_0 : decode cX9_just 0 = .ok (.iload_n 1, 1) := by decide +kernel
theorem dX9_just_1 : decode cX9_just 1 = .ok (.sipush 255, 3) := by decide +kernel
theorem dX9_just_4 : decode cX9_just 4 = .ok (.invokestatic 54, 3) := by decide +kernel
theorem dX9_just_7 : decode cX9_just 7 = .ok (.ifCond .eq 11, 3) := by decide +kernel
theorem dX9_just_10 : decode cX9_just 10 = .ok (.iload_n 2, 1) := by decide +kernel
theorem dX9_just_11 : decode cX9_just 11 = .ok (.iconst 1, 1) := by decide +kernel
theorem dX9_just_12 : decode cX9_just 12 = .ok (.invokestatic 54, 3) := by decide +kernel
theorem dX9_just_15 : decode cX9_just 15 = .ok (.ifCond .ne 6, 3) := by decide +kernel
theorem dX9_just_18 : decode cX9_just 18 = .ok (.bipush (-2), 2) := by decide +kernel
theorem dX9_just_20 : decode cX9_just 20 = .ok (.ireturn, 1) := by decide +kernel
theorem dX9_just_21 : decode cX9_just 21 = .ok (.aload_n 0, 1) := by decide +kernel
theorem dX9_just_22 : decode cX9_just 22 = .ok (.getfield 10, 3) := by decide +kernel
theorem dX9_just_25 : decode cX9_just 25 = .ok (.getfield 58, 3) := by decide +kernel
theorem dX9_just_28 : decode cX9_just 28 = .ok (.iload_n 1, 1) := by decide +kernel
theorem dX9_just_29 : decode cX9_just 29 = .ok (.invokevirtual 162, 3) := by decide +kernel
theorem dX9_just_32 : decode cX9_just 32 = .ok (.istore_n 3, 1) := by decide +kernel
theorem dX9_just_33 : decode cX9_just 33 = .ok (.iload_n 3, 1) := by decide +kernel
theorem dX9_just_34 : decode cX9_just 34 = .ok (.bipush (-6), 2) := by decide +kernel
theorem dX9_just_36 : decode cX9_just 36 = .ok (.if_icmp .ne 6, 3) := by decide +kernel
theorem dX9_just_39 : decode cX9_just 39 = .ok (.bipush (-6), 2) := by decide +kernel
theorem dX9_just_41 : decode cX9_just 41 = .ok (.ireturn, 1) := by decide +kernel
theorem dX9_just_42 : decode cX9_just 42 = .ok (.iload_n 2, 1) := by decide +kernel
theorem dX9_just_43 : decode cX9_just 43 = .ok (.ifCond .ne 10, 3) := by decide +kernel
theorem dX9_just_46 : decode cX9_just 46 = .ok (.iload_n 3, 1) := by decide +kernel
theorem dX9_just_47 : decode cX9_just 47 = .ok (.invokestatic 72, 3) := by decide +kernel
theorem dX9_just_50 : decode cX9_just 50 = .ok (.goto 4, 3) := by decide +kernel
theorem dX9_just_53 : decode cX9_just 53 = .ok (.iload_n 3, 1) := by decide +kernel
theorem dX9_just_54 : decode cX9_just 54 = .ok (.ireturn, 1) := by decide +kernel
set_option maxRecDepth 20000 in
theorem ggX9_fill_X9_isUpTo : GoodIn wsX9_fill wsX9_isUpTo := goodIn_r _ [6] (by decide +kernel) (by decide +kernel)
set_option maxRecDepth 20000 in
theorem gX9_fill_X9_isUpTo : GoodIn wsX9_fill (va_wsS RX9 54 yX9_isUpTo wsX9_isUpTo) := goodIn_app (goodIn_of _ (by decide +kernel)) ggX9_fill_X9_isUpTo
set_option maxRecDepth 20000 in
theorem ggX9_fill_X6_fillings : GoodIn wsX9_fill wsX6_fillings := goodIn_r _ [11, 12, 13, 14, 10, 15, 16, 17, 18, 19, 20, 21, 22, 23, 24, 25, 26, 39, 40, 41, 42, 43, 44, 45, 46, 47, 48, 49] (by decide +kernel) (by decide +kernel)
set_option maxRecDepth 20000 in
theorem gX9_fill_X6_fillings : GoodIn wsX9_fill (wsV RX9 165 RX6 yX6_fillings wsX6_fillings) := goodIn_app (goodIn_of _ (by decide +kernel)) ggX9_fill_X6_fillings
theorem dX9_fill_0 : decode cX9_fill 0 = .ok (.iload_n 1, 1) := by decide +kernel
theorem dX9_fill_1 : decode cX9_fill 1 = .ok (.bipush 99, 2) := by decide +kernel
theorem dX9_fill_3 : decode cX9_fill 3 = .ok (.invokestatic 54, 3) := by decide +kernel
theorem dX9_fill_6 : decode cX9_fill 6 = .ok (.ifCond .ne 6, 3) := by decide +kernel
theorem dX9_fill_9 : decode cX9_fill 9 = .ok (.bipush (-2), 2) := by decide +kernel
theorem dX9_fill_11 : decode cX9_fill 11 = .ok (.ireturn, 1) := by decide +kernel
theorem dX9_fill_12 : decode cX9_fill 12 = .ok (.aload_n 0, 1) := by decide +kernel
theorem dX9_fill_13 : decode cX9_fill 13 = .ok (.getfield 10, 3) := by decide +kernel
theorem dX9_fill_16 : decode cX9_fill 16 = .ok (.getfield 58, 3) := by decide +kernel
theorem dX9_fill_19 : decode cX9_fill 19 = .ok (.iload_n 1, 1) := by decide +kernel
theorem dX9_fill_20 : decode cX9_fill 20 = .ok (.invokevirtual 165, 3) := by decide +kernel
theorem dX9_fill_23 : decode cX9_fill 23 = .ok (.ireturn, 1) := by decide +kernel
set_option maxRecDepth 20000 in
theorem ggX9_vote_X9_isUpTo : GoodIn wsX9_vote wsX9_isUpTo := goodIn_r _ [7] (by decide +kernel) (by decide +kernel)
set_option maxRecDepth 20000 in
theorem gX9_vote_X9_isUpTo : GoodIn wsX9_vote (va_wsS RX9 54 yX9_isUpTo wsX9_isUpTo) := goodIn_app (goodIn_of _ (by decide +kernel)) ggX9_vote_X9_isUpTo
set_option maxRecDepth 20000 in
theorem ggX9_vote_X6_offFrom : GoodIn wsX9_vote wsX6_offFrom := goodIn_r _ [12, 13, 14, 15, 16, 17, 18, 19, 11, 20, 21, 34, 35, 36, 37, 38, 39, 40, 41, 42, 43, 44] (by decide +kernel) (by decide +kernel)
set_option maxRecDepth 20000 in
theorem gX9_vote_X6_offFrom : GoodIn wsX9_vote (wsV RX9 169 RX6 yX6_offFrom wsX6_offFrom) := goodIn_app (goodIn_of _ (by decide +kernel)) ggX9_vote_X6_offFrom
theorem dX9_vote_0 : decode cX9_vote 0 = .ok (.iload_n 1, 1) := by decide +kernel
theorem dX9_vote_1 : decode cX9_vote 1 = .ok (.ldc 168, 2) := by decide +kernel
theorem dX9_vote_3 : decode cX9_vote 3 = .ok (.invokestatic 54, 3) := by decide +kernel
theorem dX9_vote_6 : decode cX9_vote 6 = .ok (.ifCond .eq 11, 3) := by decide +kernel
theorem dX9_vote_9 : decode cX9_vote 9 = .ok (.iload_n 2, 1) := by decide +kernel
theorem dX9_vote_10 : decode cX9_vote 10 = .ok (.iconst 1, 1) := by decide +kernel
theorem dX9_vote_11 : decode cX9_vote 11 = .ok (.invokestatic 54, 3) := by decide +kernel
theorem dX9_vote_14 : decode cX9_vote 14 = .ok (.ifCond .ne 6, 3) := by decide +kernel
theorem dX9_vote_17 : decode cX9_vote 17 = .ok (.bipush (-2), 2) := by decide +kernel
theorem dX9_vote_19 : decode cX9_vote 19 = .ok (.ireturn, 1) := by decide +kernel
theorem dX9_vote_20 : decode cX9_vote 20 = .ok (.iconst 0, 1) := by decide +kernel
theorem dX9_vote_21 : decode cX9_vote 21 = .ok (.istore_n 3, 1) := by decide +kernel
theorem dX9_vote_22 : decode cX9_vote 22 = .ok (.aload_n 0, 1) := by decide +kernel
theorem dX9_vote_23 : decode cX9_vote 23 = .ok (.getfield 10, 3) := by decide +kernel
theorem dX9_vote_26 : decode cX9_vote 26 = .ok (.getfield 58, 3) := by decide +kernel
theorem dX9_vote_29 : decode cX9_vote 29 = .ok (.iload_n 1, 1) := by decide +kernel
theorem dX9_vote_30 : decode cX9_vote 30 = .ok (.iconst 0, 1) := by decide +kernel
theorem dX9_vote_31 : decode cX9_vote 31 = .ok (.invokevirtual 169, 3) := by decide +kernel
theorem dX9_vote_34 : decode cX9_vote 34 = .ok (.istore 4, 2) := by decide +kernel
theorem dX9_vote_36 : decode cX9_vote 36 = .ok (.iconst 1, 1) := by decide +kernel
theorem dX9_vote_37 : decode cX9_vote 37 = .ok (.istore 5, 2) := by decide +kernel
theorem dX9_vote_39 : decode cX9_vote 39 = .ok (.iload 5, 2) := by decide +kernel
theorem dX9_vote_41 : decode cX9_vote 41 = .ok (.bipush 9, 2) := by decide +kernel
theorem dX9_vote_43 : decode cX9_vote 43 = .ok (.if_icmp .gt 38, 3) := by decide +kernel
theorem dX9_vote_46 : decode cX9_vote 46 = .ok (.aload_n 0, 1) := by decide +kernel
theorem dX9_vote_47 : decode cX9_vote 47 = .ok (.getfield 10, 3) := by decide +kernel
theorem dX9_vote_50 : decode cX9_vote 50 = .ok (.getfield 58, 3) := by decide +kernel
theorem dX9_vote_53 : decode cX9_vote 53 = .ok (.iload_n 1, 1) := by decide +kernel
theorem dX9_vote_54 : decode cX9_vote 54 = .ok (.iload 5, 2) := by decide +kernel
theorem dX9_vote_56 : decode cX9_vote 56 = .ok (.invokevirtual 169, 3) := by decide +kernel
theorem dX9_vote_59 : decode cX9_vote 59 = .ok (.istore 6, 2) := by decide +kernel
theorem dX9_vote_61 : decode cX9_vote 61 = .ok (.iload 6, 2) := by decide +kernel
theorem dX9_vote_63 : decode cX9_vote 63 = .ok (.iload 4, 2) := by decide +kernel
theorem dX9_vote_65 : decode cX9_vote 65 = .ok (.if_icmp .ge 10, 3) := by decide +kernel
theorem dX9_vote_68 : decode cX9_vote 68 = .ok (.iload 6, 2) := by decide +kernel
theorem dX9_vote_70 : decode cX9_vote 70 = .ok (.istore 4, 2) := by decide +kernel
theorem dX9_vote_72 : decode cX9_vote 72 = .ok (.iload 5, 2) := by decide +kernel
theorem dX9_vote_74 : decode cX9_vote 74 = .ok (.istore_n 3, 1) := by decide +kernel
theorem dX9_vote_75 : decode cX9_vote 75 = .ok (.iinc 5 1, 3) := by decide +kernel
theorem dX9_vote_78 : decode cX9_vote 78 = .ok (.goto (-39), 3) := by decide +kernel
theorem dX9_vote_81 : decode cX9_vote 81 = .ok (.iload_n 2, 1) := by decide +kernel
theorem dX9_vote_82 : decode cX9_vote 82 = .ok (.ifCond .ne 7, 3) := by decide +kernel
theorem dX9_vote_85 : decode cX9_vote 85 = .ok (.iload_n 3, 1) := by decide +kernel
theorem dX9_vote_86 : decode cX9_vote 86 = .ok (.goto 5, 3) := by decide +kernel
theorem dX9_vote_89 : decode cX9_vote 89 = .ok (.iload 4, 2) := by decide +kernel
theorem dX9_vote_91 : decode cX9_vote 91 = .ok (.ireturn, 1) := by decide +kernel
set_option maxRecDepth 20000 in
theorem ggX9_rank_X9_isUpTo : GoodIn wsX9_rank wsX9_isUpTo := goodIn_r _ [6] (by decide +kernel) (by decide +kernel)
set_option maxRecDepth 20000 in
theorem gX9_rank_X9_isUpTo : GoodIn wsX9_rank (va_wsS RX9 54 yX9_isUpTo wsX9_isUpTo) := goodIn_app (goodIn_of _ (by decide +kernel)) ggX9_rank_X9_isUpTo
set_option maxRecDepth 20000 in
theorem ggX9_rank_X2_isRow : GoodIn wsX9_rank wsX2_isRow := goodIn_r _ [10] (by decide +kernel) (by decide +kernel)
set_option maxRecDepth 20000 in
theorem gX9_rank_X2_isRow : GoodIn wsX9_rank (va_wsS RX9 173 yX2_isRow wsX2_isRow) := goodIn_app (goodIn_of _ (by decide +kernel)) ggX9_rank_X2_isRow
set_option maxRecDepth 20000 in
theorem ggX9_rank_X2_row : GoodIn wsX9_rank wsX2_row := goodIn_r _ [14, 15, 16, 17, 9, 18, 19, 36, 37, 38] (by decide +kernel) (by decide +kernel)
set_option maxRecDepth 20000 in
theorem gX9_rank_X2_row : GoodIn wsX9_rank (wsV RX9 182 RX2 yX2_row wsX2_row) := goodIn_app (goodIn_of _ (by decide +kernel)) ggX9_rank_X2_row
set_option maxRecDepth 20000 in
theorem ggX9_rank_X2_setRow : GoodIn wsX9_rank wsX2_setRow := goodIn_r _ [23, 19, 36, 37, 38] (by decide +kernel) (by decide +kernel)
set_option maxRecDepth 20000 in
theorem gX9_rank_X2_setRow : GoodIn wsX9_rank (wsV RX9 185 RX2 yX2_setRow wsX2_setRow) := goodIn_app (goodIn_of _ (by decide +kernel)) ggX9_rank_X2_setRow
theorem dX9_rank_0 : decode cX9_rank 0 = .ok (.iload_n 1, 1) := by decide +kernel
theorem dX9_rank_1 : decode cX9_rank 1 = .ok (.iconst 5, 1) := by decide +kernel
theorem dX9_rank_2 : decode cX9_rank 2 = .ok (.invokestatic 54, 3) := by decide +kernel
theorem dX9_rank_5 : decode cX9_rank 5 = .ok (.ifCond .ne 5, 3) := by decide +kernel
theorem dX9_rank_8 : decode cX9_rank 8 = .ok (.iconst (-1), 1) := by decide +kernel
theorem dX9_rank_9 : decode cX9_rank 9 = .ok (.ireturn, 1) := by decide +kernel
theorem dX9_rank_10 : decode cX9_rank 10 = .ok (.iload_n 2, 1) := by decide +kernel
theorem dX9_rank_11 : decode cX9_rank 11 = .ok (.invokestatic 173, 3) := by decide +kernel
theorem dX9_rank_14 : decode cX9_rank 14 = .ok (.ifCond .ne 6, 3) := by decide +kernel
theorem dX9_rank_17 : decode cX9_rank 17 = .ok (.bipush (-2), 2) := by decide +kernel
theorem dX9_rank_19 : decode cX9_rank 19 = .ok (.ireturn, 1) := by decide +kernel
theorem dX9_rank_20 : decode cX9_rank 20 = .ok (.aload_n 0, 1) := by decide +kernel
theorem dX9_rank_21 : decode cX9_rank 21 = .ok (.getfield 10, 3) := by decide +kernel
theorem dX9_rank_24 : decode cX9_rank 24 = .ok (.getfield 178, 3) := by decide +kernel
theorem dX9_rank_27 : decode cX9_rank 27 = .ok (.iload_n 1, 1) := by decide +kernel
theorem dX9_rank_28 : decode cX9_rank 28 = .ok (.invokevirtual 182, 3) := by decide +kernel
theorem dX9_rank_31 : decode cX9_rank 31 = .ok (.istore_n 3, 1) := by decide +kernel
theorem dX9_rank_32 : decode cX9_rank 32 = .ok (.aload_n 0, 1) := by decide +kernel
theorem dX9_rank_33 : decode cX9_rank 33 = .ok (.getfield 10, 3) := by decide +kernel
theorem dX9_rank_36 : decode cX9_rank 36 = .ok (.getfield 178, 3) := by decide +kernel
theorem dX9_rank_39 : decode cX9_rank 39 = .ok (.iload_n 1, 1) := by decide +kernel
theorem dX9_rank_40 : decode cX9_rank 40 = .ok (.iload_n 2, 1) := by decide +kernel
theorem dX9_rank_41 : decode cX9_rank 41 = .ok (.invokevirtual 185, 3) := by decide +kernel
theorem dX9_rank_44 : decode cX9_rank 44 = .ok (.iload_n 3, 1) := by decide +kernel
theorem dX9_rank_45 : decode cX9_rank 45 = .ok (.ireturn, 1) := by decide +kernel
set_option maxRecDepth 20000 in
theorem ggX9_change_X2_makeRings : GoodIn wsX9_change wsX2_makeRings := goodIn_r _ [8, 9, 10, 11, 12, 13, 7, 14, 15, 16, 17, 18, 19, 20, 21, 22, 23, 40, 41, 42] (by decide +kernel) (by decide +kernel)
set_option maxRecDepth 20000 in
theorem gX9_change_X2_makeRings : GoodIn wsX9_change (wsV RX9 189 RX2 yX2_makeRings wsX2_makeRings) := goodIn_app (goodIn_of _ (by decide +kernel)) ggX9_change_X2_makeRings
set_option maxRecDepth 20000 in
theorem ggX9_change_X2_moved : GoodIn wsX9_change wsX2_moved := goodIn_r _ [27, 10, 40, 41, 42] (by decide +kernel) (by decide +kernel)
set_option maxRecDepth 20000 in
theorem gX9_change_X2_moved : GoodIn wsX9_change (wsV RX9 192 RX2 yX2_moved wsX2_moved) := goodIn_app (goodIn_of _ (by decide +kernel)) ggX9_change_X2_moved
theorem dX9_change_0 : decode cX9_change 0 = .ok (.iload_n 1, 1) := by decide +kernel
theorem dX9_change_1 : decode cX9_change 1 = .ok (.iconst (-1), 1) := by decide +kernel
theorem dX9_change_2 : decode cX9_change 2 = .ok (.if_icmp .lt 9, 3) := by decide +kernel
theorem dX9_change_5 : decode cX9_change 5 = .ok (.iload_n 1, 1) := by decide +kernel
theorem dX9_change_6 : decode cX9_change 6 = .ok (.bipush 6, 2) := by decide +kernel
theorem dX9_change_8 : decode cX9_change 8 = .ok (.if_icmp .lt 5, 3) := by decide +kernel
theorem dX9_change_11 : decode cX9_change 11 = .ok (.iconst (-1), 1) := by decide +kernel
theorem dX9_change_12 : decode cX9_change 12 = .ok (.ireturn, 1) := by decide +kernel
theorem dX9_change_13 : decode cX9_change 13 = .ok (.aload_n 0, 1) := by decide +kernel
theorem dX9_change_14 : decode cX9_change 14 = .ok (.getfield 10, 3) := by decide +kernel
theorem dX9_change_17 : decode cX9_change 17 = .ok (.getfield 178, 3) := by decide +kernel
theorem dX9_change_20 : decode cX9_change 20 = .ok (.invokevirtual 189, 3) := by decide +kernel
theorem dX9_change_23 : decode cX9_change 23 = .ok (.iload_n 1, 1) := by decide +kernel
theorem dX9_change_24 : decode cX9_change 24 = .ok (.ifCond .ge 16, 3) := by decide +kernel
theorem dX9_change_27 : decode cX9_change 27 = .ok (.aload_n 0, 1) := by decide +kernel
theorem dX9_change_28 : decode cX9_change 28 = .ok (.getfield 10, 3) := by decide +kernel
theorem dX9_change_31 : decode cX9_change 31 = .ok (.getfield 178, 3) := by decide +kernel
theorem dX9_change_34 : decode cX9_change 34 = .ok (.invokevirtual 192, 3) := by decide +kernel
