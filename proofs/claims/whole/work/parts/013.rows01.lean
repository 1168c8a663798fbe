theorem dX4_run_154 : decode cX4_run 154 = .ok (.bipush 62, 2) := by decide +kernel
theorem dX4_run_156 : decode cX4_run 156 = .ok (.if_icmp .ne 7, 3) := by decide +kernel
theorem dX4_run_159 : decode cX4_run 159 = .ok (.iconst 3, 1) := by decide +kernel
theorem dX4_run_160 : decode cX4_run 160 = .ok (.goto 4, 3) := by decide +kernel
theorem dX4_run_163 : decode cX4_run 163 = .ok (.iconst 2, 1) := by decide +kernel
theorem dX4_run_164 : decode cX4_run 164 = .ok (.iadd, 1) := by decide +kernel
theorem dX4_run_165 : decode cX4_run 165 = .ok (.istore_n 3, 1) := by decide +kernel
theorem dX4_run_166 : decode cX4_run 166 = .ok (.iinc 4 1, 3) := by decide +kernel
theorem dX4_run_169 : decode cX4_run 169 = .ok (.goto (-109), 3) := by decide +kernel
theorem dX4_run_172 : decode cX4_run 172 = .ok (.aload_n 0, 1) := by decide +kernel
theorem dX4_run_173 : decode cX4_run 173 = .ok (.getfield 28, 3) := by decide +kernel
theorem dX4_run_176 : decode cX4_run 176 = .ok (.ifCond .ne 16, 3) := by decide +kernel
theorem dX4_run_179 : decode cX4_run 179 = .ok (.aload_n 0, 1) := by decide +kernel
theorem dX4_run_180 : decode cX4_run 180 = .ok (.getfield 36, 3) := by decide +kernel
theorem dX4_run_183 : decode cX4_run 183 = .ok (.bipush (-6), 2) := by decide +kernel
theorem dX4_run_185 : decode cX4_run 185 = .ok (.if_icmp .ne 7, 3) := by decide +kernel
theorem dX4_run_188 : decode cX4_run 188 = .ok (.iconst 1, 1) := by decide +kernel
theorem dX4_run_189 : decode cX4_run 189 = .ok (.goto 4, 3) := by decide +kernel
theorem dX4_run_192 : decode cX4_run 192 = .ok (.iconst 0, 1) := by decide +kernel
theorem dX4_run_193 : decode cX4_run 193 = .ok (.ireturn, 1) := by decide +kernel
set_option maxRecDepth 20000 in
theorem ggX4_attempt_X6_refusal : GoodIn wsX4_attempt wsX6_refusal := goodIn_r _ [11, 12, 13, 14, 15, 16, 17, 18, 10, 19, 20, 21, 22, 23, 24, 25, 26, 27, 28, 74, 75, 76, 77, 78, 79, 80, 81, 82, 83, 84] (by decide +kernel) (by decide +kernel)
set_option maxRecDepth 20000 in
theorem gX4_attempt_X6_refusal : GoodIn wsX4_attempt (wsV RX4 59 RX6 yX6_refusal wsX6_refusal) := goodIn_app (goodIn_of _ (by decide +kernel)) ggX4_attempt_X6_refusal
set_option maxRecDepth 20000 in
theorem ggX4_attempt_X6_freeBits : GoodIn wsX4_attempt wsX6_freeBits := goodIn_r _ [32, 25, 26, 27, 10, 28, 14, 16, 17, 18, 19, 20, 74, 75, 76, 77, 78, 79, 80, 81, 82, 83, 84] (by decide +kernel) (by decide +kernel)
set_option maxRecDepth 20000 in
theorem gX4_attempt_X6_freeBits : GoodIn wsX4_attempt (wsV RX4 63 RX6 yX6_freeBits wsX6_freeBits) := goodIn_app (goodIn_of _ (by decide +kernel)) ggX4_attempt_X6_freeBits
set_option maxRecDepth 20000 in
theorem ggX4_attempt_X6_perform : GoodIn wsX4_attempt wsX6_perform := goodIn_r _ [36, 13, 14, 15, 37, 38, 39, 40, 41, 42, 43, 10, 44, 45, 46, 47, 48, 49, 50, 51, 12, 16, 17, 18, 19, 20, 52, 53, 54, 55, 56, 57, 58, 59, 60, 61, 21, 22, 23, 24, 25, 26, 27, 28, 74, 75, 76, 77, 78, 79, 80, 81, 82, 83, 84] (by decide +kernel) (by decide +kernel)
set_option maxRecDepth 20000 in
theorem gX4_attempt_X6_perform : GoodIn wsX4_attempt (wsV RX4 66 RX6 yX6_perform wsX6_perform) := goodIn_app (goodIn_of _ (by decide +kernel)) ggX4_attempt_X6_perform
set_option maxRecDepth 20000 in
theorem ggX4_attempt_J6_numberOfTrailingZeros_0f7a4 : GoodIn wsX4_attempt wsJ6_numberOfTrailingZeros_0f7a4 := goodIn_r _ [65, 66] (by decide +kernel) (by decide +kernel)
set_option maxRecDepth 20000 in
theorem gX4_attempt_J6_numberOfTrailingZeros_0f7a4 : GoodIn wsX4_attempt (va_wsS RX4 69 yJ6_numberOfTrailingZeros_0f7a4 wsJ6_numberOfTrailingZeros_0f7a4) := goodIn_app (goodIn_of _ (by decide +kernel)) ggX4_attempt_J6_numberOfTrailingZeros_0f7a4
theorem dX4_attempt_0 : decode cX4_attempt 0 = .ok (.aload_n 0, 1) := by decide +kernel
theorem dX4_attempt_1 : decode cX4_attempt 1 = .ok (.getfield 12, 3) := by decide +kernel
theorem dX4_attempt_4 : decode cX4_attempt 4 = .ok (.iload_n 1, 1) := by decide +kernel
theorem dX4_attempt_5 : decode cX4_attempt 5 = .ok (.iload_n 2, 1) := by decide +kernel
theorem dX4_attempt_6 : decode cX4_attempt 6 = .ok (.iload_n 3, 1) := by decide +kernel
theorem dX4_attempt_7 : decode cX4_attempt 7 = .ok (.invokevirtual 59, 3) := by decide +kernel
theorem dX4_attempt_10 : decode cX4_attempt 10 = .ok (.istore 4, 2) := by decide +kernel
theorem dX4_attempt_12 : decode cX4_attempt 12 = .ok (.iload 4, 2) := by decide +kernel
theorem dX4_attempt_14 : decode cX4_attempt 14 = .ok (.bipush (-6), 2) := by decide +kernel
theorem dX4_attempt_16 : decode cX4_attempt 16 = .ok (.if_icmp .eq 18, 3) := by decide +kernel
theorem dX4_attempt_19 : decode cX4_attempt 19 = .ok (.aload_n 0, 1) := by decide +kernel
theorem dX4_attempt_20 : decode cX4_attempt 20 = .ok (.aload_n 0, 1) := by decide +kernel
theorem dX4_attempt_21 : decode cX4_attempt 21 = .ok (.getfield 32, 3) := by decide +kernel
theorem dX4_attempt_24 : decode cX4_attempt 24 = .ok (.putfield 36, 3) := by decide +kernel
theorem dX4_attempt_27 : decode cX4_attempt 27 = .ok (.aload_n 0, 1) := by decide +kernel
theorem dX4_attempt_28 : decode cX4_attempt 28 = .ok (.iload 4, 2) := by decide +kernel
theorem dX4_attempt_30 : decode cX4_attempt 30 = .ok (.putfield 39, 3) := by decide +kernel
theorem dX4_attempt_33 : decode cX4_attempt 33 = .ok (.return_, 1) := by decide +kernel
theorem dX4_attempt_34 : decode cX4_attempt 34 = .ok (.aload_n 0, 1) := by decide +kernel
theorem dX4_attempt_35 : decode cX4_attempt 35 = .ok (.getfield 12, 3) := by decide +kernel
theorem dX4_attempt_38 : decode cX4_attempt 38 = .ok (.invokevirtual 63, 3) := by decide +kernel
theorem dX4_attempt_41 : decode cX4_attempt 41 = .ok (.istore 5, 2) := by decide +kernel
theorem dX4_attempt_43 : decode cX4_attempt 43 = .ok (.aload_n 0, 1) := by decide +kernel
theorem dX4_attempt_44 : decode cX4_attempt 44 = .ok (.getfield 12, 3) := by decide +kernel
theorem dX4_attempt_47 : decode cX4_attempt 47 = .ok (.iload_n 1, 1) := by decide +kernel
theorem dX4_attempt_48 : decode cX4_attempt 48 = .ok (.iload_n 2, 1) := by decide +kernel
theorem dX4_attempt_49 : decode cX4_attempt 49 = .ok (.iload_n 3, 1) := by decide +kernel
theorem dX4_attempt_50 : decode cX4_attempt 50 = .ok (.invokevirtual 66, 3) := by decide +kernel
theorem dX4_attempt_53 : decode cX4_attempt 53 = .ok (.aload_n 0, 1) := by decide +kernel
theorem dX4_attempt_54 : decode cX4_attempt 54 = .ok (.getfield 12, 3) := by decide +kernel
theorem dX4_attempt_57 : decode cX4_attempt 57 = .ok (.invokevirtual 63, 3) := by decide +kernel
theorem dX4_attempt_60 : decode cX4_attempt 60 = .ok (.iload 5, 2) := by decide +kernel
theorem dX4_attempt_62 : decode cX4_attempt 62 = .ok (.iconst (-1), 1) := by decide +kernel
theorem dX4_attempt_63 : decode cX4_attempt 63 = .ok (.ixor, 1) := by decide +kernel
theorem dX4_attempt_64 : decode cX4_attempt 64 = .ok (.iand, 1) := by decide +kernel
theorem dX4_attempt_65 : decode cX4_attempt 65 = .ok (.istore 6, 2) := by decide +kernel
theorem dX4_attempt_67 : decode cX4_attempt 67 = .ok (.iload 6, 2) := by decide +kernel
theorem dX4_attempt_69 : decode cX4_attempt 69 = .ok (.ifCond .eq 29, 3) := by decide +kernel
theorem dX4_attempt_72 : decode cX4_attempt 72 = .ok (.aload_n 0, 1) := by decide +kernel
theorem dX4_attempt_73 : decode cX4_attempt 73 = .ok (.getfield 42, 3) := by decide +kernel
theorem dX4_attempt_76 : decode cX4_attempt 76 = .ok (.bipush (-6), 2) := by decide +kernel
theorem dX4_attempt_78 : decode cX4_attempt 78 = .ok (.if_icmp .ne 20, 3) := by decide +kernel
theorem dX4_attempt_81 : decode cX4_attempt 81 = .ok (.aload_n 0, 1) := by decide +kernel
theorem dX4_attempt_82 : decode cX4_attempt 82 = .ok (.aload_n 0, 1) := by decide +kernel
theorem dX4_attempt_83 : decode cX4_attempt 83 = .ok (.getfield 32, 3) := by decide +kernel
theorem dX4_attempt_86 : decode cX4_attempt 86 = .ok (.putfield 42, 3) := by decide +kernel
theorem dX4_attempt_89 : decode cX4_attempt 89 = .ok (.aload_n 0, 1) := by decide +kernel
theorem dX4_attempt_90 : decode cX4_attempt 90 = .ok (.iload 6, 2) := by decide +kernel
theorem dX4_attempt_92 : decode cX4_attempt 92 = .ok (.invokestatic 69, 3) := by decide +kernel
theorem dX4_attempt_95 : decode cX4_attempt 95 = .ok (.putfield 45, 3) := by decide +kernel
theorem dX4_attempt_98 : decode cX4_attempt 98 = .ok (.aload_n 0, 1) := by decide +kernel
theorem dX4_attempt_99 : decode cX4_attempt 99 = .ok (.dup, 1) := by decide +kernel
theorem dX4_attempt_100 : decode cX4_attempt 100 = .ok (.getfield 32, 3) := by decide +kernel
theorem dX4_attempt_103 : decode cX4_attempt 103 = .ok (.iconst 1, 1) := by decide +kernel
theorem dX4_attempt_104 : decode cX4_attempt 104 = .ok (.iadd, 1) := by decide +kernel
theorem dX4_attempt_105 : decode cX4_attempt 105 = .ok (.putfield 32, 3) := by decide +kernel
theorem dX4_attempt_108 : decode cX4_attempt 108 = .ok (.return_, 1) := by decide +kernel
set_option maxRecDepth 20000 in
theorem ggX4_draw_X6_takeFrom : GoodIn wsX4_draw wsX6_takeFrom := goodIn_r _ [7, 8, 9, 10, 11, 12, 13, 14, 15, 16, 17, 18, 19, 20, 21, 22, 73, 74, 75, 76, 77, 78, 79, 80, 81, 82, 83] (by decide +kernel) (by decide +kernel)
set_option maxRecDepth 20000 in
theorem gX4_draw_X6_takeFrom : GoodIn wsX4_draw (wsV RX4 18 RX6 yX6_takeFrom wsX6_takeFrom) := goodIn_app (goodIn_of _ (by decide +kernel)) ggX4_draw_X6_takeFrom
set_option maxRecDepth 20000 in
theorem ggX4_draw_X4_drawnAct : GoodIn wsX4_draw wsX4_drawnAct := goodIn_r _ [26] (by decide +kernel) (by decide +kernel)
set_option maxRecDepth 20000 in
theorem gX4_draw_X4_drawnAct : GoodIn wsX4_draw (va_wsS RX4 75 yX4_drawnAct wsX4_drawnAct) := goodIn_app (goodIn_of _ (by decide +kernel)) ggX4_draw_X4_drawnAct
set_option maxRecDepth 20000 in
theorem ggX4_draw_X6_refusal : GoodIn wsX4_draw wsX6_refusal := goodIn_r _ [30, 22, 18, 8, 16, 31, 32, 33, 6, 34, 19, 35, 36, 37, 38, 39, 40, 41, 42, 73, 74, 75, 76, 77, 78, 79, 80, 81, 82, 83] (by decide +kernel) (by decide +kernel)
set_option maxRecDepth 20000 in
theorem gX4_draw_X6_refusal : GoodIn wsX4_draw (wsV RX4 59 RX6 yX6_refusal wsX6_refusal) := goodIn_app (goodIn_of _ (by decide +kernel)) ggX4_draw_X6_refusal
set_option maxRecDepth 20000 in
theorem ggX4_draw_X6_perform : GoodIn wsX4_draw wsX6_perform := goodIn_r _ [46, 18, 8, 16, 47, 48, 49, 50, 51, 52, 53, 6, 54, 14, 17, 20, 55, 56, 57, 15, 22, 31, 32, 33, 34, 19, 58, 59, 60, 61, 62, 63, 64, 65, 13, 21, 35, 36, 37, 38, 39, 40, 41, 42, 73, 74, 75, 76, 77, 78, 79, 80, 81, 82, 83] (by decide +kernel) (by decide +kernel)
set_option maxRecDepth 20000 in
theorem gX4_draw_X6_perform : GoodIn wsX4_draw (wsV RX4 66 RX6 yX6_perform wsX6_perform) := goodIn_app (goodIn_of _ (by decide +kernel)) ggX4_draw_X6_perform
theorem dX4_draw_0 : decode cX4_draw 0 = .ok (.aload_n 0, 1) := by decide +kernel
theorem dX4_draw_1 : decode cX4_draw 1 = .ok (.getfield 12, 3) := by decide +kernel
theorem dX4_draw_4 : decode cX4_draw 4 = .ok (.aload_n 1, 1) := by decide +kernel
theorem dX4_draw_5 : decode cX4_draw 5 = .ok (.invokevirtual 18, 3) := by decide +kernel
theorem dX4_draw_8 : decode cX4_draw 8 = .ok (.iload_n 2, 1) := by decide +kernel
theorem dX4_draw_9 : decode cX4_draw 9 = .ok (.istore 4, 2) := by decide +kernel
theorem dX4_draw_11 : decode cX4_draw 11 = .ok (.iconst 0, 1) := by decide +kernel
theorem dX4_draw_12 : decode cX4_draw 12 = .ok (.istore 5, 2) := by decide +kernel
theorem dX4_draw_14 : decode cX4_draw 14 = .ok (.iload 5, 2) := by decide +kernel
theorem dX4_draw_16 : decode cX4_draw 16 = .ok (.iload_n 3, 1) := by decide +kernel
theorem dX4_draw_17 : decode cX4_draw 17 = .ok (.if_icmp .ge 87, 3) := by decide +kernel
theorem dX4_draw_20 : decode cX4_draw 20 = .ok (.bipush 75, 2) := by decide +kernel
theorem dX4_draw_22 : decode cX4_draw 22 = .ok (.iload 4, 2) := by decide +kernel
theorem dX4_draw_24 : decode cX4_draw 24 = .ok (.imul, 1) := by decide +kernel
theorem dX4_draw_25 : decode cX4_draw 25 = .ok (.bipush 74, 2) := by decide +kernel
theorem dX4_draw_27 : decode cX4_draw 27 = .ok (.iadd, 1) := by decide +kernel
theorem dX4_draw_28 : decode cX4_draw 28 = .ok (.ldc 74, 2) := by decide +kernel
theorem dX4_draw_30 : decode cX4_draw 30 = .ok (.irem, 1) := by decide +kernel
theorem dX4_draw_31 : decode cX4_draw 31 = .ok (.istore 4, 2) := by decide +kernel
theorem dX4_draw_33 : decode cX4_draw 33 = .ok (.iload 4, 2) := by decide +kernel
theorem dX4_draw_35 : decode cX4_draw 35 = .ok (.bipush 8, 2) := by decide +kernel
theorem dX4_draw_37 : decode cX4_draw 37 = .ok (.idiv, 1) := by decide +kernel
theorem dX4_draw_38 : decode cX4_draw 38 = .ok (.bipush 8, 2) := by decide +kernel
theorem dX4_draw_40 : decode cX4_draw 40 = .ok (.irem, 1) := by decide +kernel
theorem dX4_draw_41 : decode cX4_draw 41 = .ok (.iload 4, 2) := by decide +kernel
theorem dX4_draw_43 : decode cX4_draw 43 = .ok (.bipush 64, 2) := by decide +kernel
theorem dX4_draw_45 : decode cX4_draw 45 = .ok (.idiv, 1) := by decide +kernel
theorem dX4_draw_46 : decode cX4_draw 46 = .ok (.invokestatic 75, 3) := by decide +kernel
theorem dX4_draw_49 : decode cX4_draw 49 = .ok (.istore 6, 2) := by decide +kernel
theorem dX4_draw_51 : decode cX4_draw 51 = .ok (.iload 4, 2) := by decide +kernel
theorem dX4_draw_53 : decode cX4_draw 53 = .ok (.bipush 64, 2) := by decide +kernel
theorem dX4_draw_55 : decode cX4_draw 55 = .ok (.idiv, 1) := by decide +kernel
theorem dX4_draw_56 : decode cX4_draw 56 = .ok (.bipush 8, 2) := by decide +kernel
theorem dX4_draw_58 : decode cX4_draw 58 = .ok (.irem, 1) := by decide +kernel
theorem dX4_draw_59 : decode cX4_draw 59 = .ok (.istore 7, 2) := by decide +kernel
theorem dX4_draw_61 : decode cX4_draw 61 = .ok (.aload_n 0, 1) := by decide +kernel
theorem dX4_draw_62 : decode cX4_draw 62 = .ok (.getfield 12, 3) := by decide +kernel
theorem dX4_draw_65 : decode cX4_draw 65 = .ok (.iload 6, 2) := by decide +kernel
theorem dX4_draw_67 : decode cX4_draw 67 = .ok (.iload 4, 2) := by decide +kernel
theorem dX4_draw_69 : decode cX4_draw 69 = .ok (.bipush 8, 2) := by decide +kernel
theorem dX4_draw_71 : decode cX4_draw 71 = .ok (.irem, 1) := by decide +kernel
theorem dX4_draw_72 : decode cX4_draw 72 = .ok (.iload 7, 2) := by decide +kernel
theorem dX4_draw_74 : decode cX4_draw 74 = .ok (.invokevirtual 59, 3) := by decide +kernel
theorem dX4_draw_77 : decode cX4_draw 77 = .ok (.bipush (-6), 2) := by decide +kernel
theorem dX4_draw_79 : decode cX4_draw 79 = .ok (.if_icmp .ne 19, 3) := by decide +kernel
theorem dX4_draw_82 : decode cX4_draw 82 = .ok (.aload_n 0, 1) := by decide +kernel
theorem dX4_draw_83 : decode cX4_draw 83 = .ok (.getfield 12, 3) := by decide +kernel
theorem dX4_draw_86 : decode cX4_draw 86 = .ok (.iload 6, 2) := by decide +kernel
theorem dX4_draw_88 : decode cX4_draw 88 = .ok (.iload 4, 2) := by decide +kernel
theorem dX4_draw_90 : decode cX4_draw 90 = .ok (.bipush 8, 2) := by decide +kernel
theorem dX4_draw_92 : decode cX4_draw 92 = .ok (.irem, 1) := by decide +kernel
theorem dX4_draw_93 : decode cX4_draw 93 = .ok (.iload 7, 2) := by decide +kernel
theorem dX4_draw_95 : decode cX4_draw 95 = .ok (.invokevirtual 66, 3) := by decide +kernel
theorem dX4_draw_98 : decode cX4_draw 98 = .ok (.iinc 5 1, 3) := by decide +kernel
theorem dX4_draw_101 : decode cX4_draw 101 = .ok (.goto (-87), 3) := by decide +kernel
theorem dX4_draw_104 : decode cX4_draw 104 = .ok (.return_, 1) := by decide +kernel
theorem dX4_drawnAct_0 : decode cX4_drawnAct 0 = .ok (.iload_n 0, 1) := by decide +kernel
theorem dX4_drawnAct_1 : decode cX4_drawnAct 1 = .ok (.tableswitch 57 2 7 #[39, 42, 45, 48, 51, 54], 39) := by decide +kernel
theorem dX4_drawnAct_40 : decode cX4_drawnAct 40 = .ok (.bipush 43, 2) := by decide +kernel
theorem dX4_drawnAct_42 : decode cX4_drawnAct 42 = .ok (.ireturn, 1) := by decide +kernel
theorem dX4_drawnAct_43 : decode cX4_drawnAct 43 = .ok (.bipush 61, 2) := by decide +kernel
theorem dX4_drawnAct_45 : decode cX4_drawnAct 45 = .ok (.ireturn, 1) := by decide +kernel
theorem dX4_drawnAct_46 : decode cX4_drawnAct 46 = .ok (.bipush 47, 2) := by decide +kernel
theorem dX4_drawnAct_48 : decode cX4_drawnAct 48 = .ok (.ireturn, 1) := by decide +kernel
theorem dX4_drawnAct_49 : decode cX4_drawnAct 49 = .ok (.bipush 62, 2) := by decide +kernel
theorem dX4_drawnAct_51 : decode cX4_drawnAct 51 = .ok (.ireturn, 1) := by decide +kernel
theorem dX4_drawnAct_52 : decode cX4_drawnAct 52 = .ok (.bipush 94, 2) := by decide +kernel
theorem dX4_drawnAct_54 : decode cX4_drawnAct 54 = .ok (.ireturn, 1) := by decide +kernel
theorem dX4_drawnAct_55 : decode cX4_drawnAct 55 = .ok (.bipush 46, 2) := by decide +kernel
theorem dX4_drawnAct_57 : decode cX4_drawnAct 57 = .ok (.ireturn, 1) := by decide +kernel
theorem dX4_drawnAct_58 : decode cX4_drawnAct 58 = .ok (.bipush 49, 2) := by decide +kernel
theorem dX4_drawnAct_60 : decode cX4_drawnAct 60 = .ok (.iload_n 1, 1) := by decide +kernel
theorem dX4_drawnAct_61 : decode cX4_drawnAct 61 = .ok (.bipush 9, 2) := by decide +kernel
theorem dX4_drawnAct_63 : decode cX4_drawnAct 63 = .ok (.irem, 1) := by decide +kernel
theorem dX4_drawnAct_64 : decode cX4_drawnAct 64 = .ok (.iadd, 1) := by decide +kernel
theorem dX4_drawnAct_65 : decode cX4_drawnAct 65 = .ok (.ireturn, 1) := by decide +kernel
theorem dX5_init_0 : decode cX5_init 0 = .ok (.aload_n 0, 1) := by decide +kernel
theorem dX5_init_1 : decode cX5_init 1 = .ok (.invokespecial 3, 3) := by decide +kernel
theorem dX5_init_4 : decode cX5_init 4 = .ok (.aload_n 0, 1) := by decide +kernel
theorem dX5_init_5 : decode cX5_init 5 = .ok (.sipush 189, 3) := by decide +kernel
theorem dX5_init_8 : decode cX5_init 8 = .ok (.newarray .int, 2) := by decide +kernel
theorem dX5_init_10 : decode cX5_init 10 = .ok (.putfield 9, 3) := by decide +kernel
theorem dX5_init_13 : decode cX5_init 13 = .ok (.aload_n 0, 1) := by decide +kernel
theorem dX5_init_14 : decode cX5_init 14 = .ok (.bipush 100, 2) := by decide +kernel
theorem dX5_init_16 : decode cX5_init 16 = .ok (.newarray .int, 2) := by decide +kernel
theorem dX5_init_18 : decode cX5_init 18 = .ok (.putfield 15, 3) := by decide +kernel
theorem dX5_init_21 : decode cX5_init 21 = .ok (.return_, 1) := by decide +kernel
theorem dX5_flyingAt_0 : decode cX5_flyingAt 0 = .ok (.iload_n 2, 1) := by decide +kernel
theorem dX5_flyingAt_1 : decode cX5_flyingAt 1 = .ok (.iload_n 1, 1) := by decide +kernel
theorem dX5_flyingAt_2 : decode cX5_flyingAt 2 = .ok (.if_icmp .ge 7, 3) := by decide +kernel
theorem dX5_flyingAt_5 : decode cX5_flyingAt 5 = .ok (.iconst 0, 1) := by decide +kernel
theorem dX5_flyingAt_6 : decode cX5_flyingAt 6 = .ok (.goto 18, 3) := by decide +kernel
theorem dX5_flyingAt_9 : decode cX5_flyingAt 9 = .ok (.iconst 0, 1) := by decide +kernel
theorem dX5_flyingAt_10 : decode cX5_flyingAt 10 = .ok (.bipush 10, 2) := by decide +kernel
theorem dX5_flyingAt_12 : decode cX5_flyingAt 12 = .ok (.iload_n 0, 1) := by decide +kernel
theorem dX5_flyingAt_13 : decode cX5_flyingAt 13 = .ok (.imul, 1) := by decide +kernel
theorem dX5_flyingAt_14 : decode cX5_flyingAt 14 = .ok (.bipush 7, 2) := by decide +kernel
theorem dX5_flyingAt_16 : decode cX5_flyingAt 16 = .ok (.iload_n 2, 1) := by decide +kernel
theorem dX5_flyingAt_17 : decode cX5_flyingAt 17 = .ok (.iload_n 1, 1) := by decide +kernel
theorem dX5_flyingAt_18 : decode cX5_flyingAt 18 = .ok (.isub, 1) := by decide +kernel
theorem dX5_flyingAt_19 : decode cX5_flyingAt 19 = .ok (.imul, 1) := by decide +kernel
theorem dX5_flyingAt_20 : decode cX5_flyingAt 20 = .ok (.isub, 1) := by decide +kernel
theorem dX5_flyingAt_21 : decode cX5_flyingAt 21 = .ok (.invokestatic 18, 3) := by decide +kernel
theorem dX5_flyingAt_24 : decode cX5_flyingAt 24 = .ok (.ireturn, 1) := by decide +kernel
set_option maxRecDepth 20000 in
theorem ggX5_find_X7_fit : GoodIn wsX5_find wsX7_fit := goodIn_r _ [7, 8, 9, 10, 11, 12, 13, 14, 15, 16, 17, 18, 22, 23, 24] (by decide +kernel) (by decide +kernel)
set_option maxRecDepth 20000 in
theorem gX5_find_X7_fit : GoodIn wsX5_find (wsV RX5 28 RX7 yX7_fit wsX7_fit) := goodIn_app (goodIn_of _ (by decide +kernel)) ggX5_find_X7_fit
theorem dX5_find_0 : decode cX5_find 0 = .ok (.aload_n 0, 1) := by decide +kernel
theorem dX5_find_1 : decode cX5_find 1 = .ok (.iconst 0, 1) := by decide +kernel
theorem dX5_find_2 : decode cX5_find 2 = .ok (.putfield 24, 3) := by decide +kernel
theorem dX5_find_5 : decode cX5_find 5 = .ok (.iconst 1, 1) := by decide +kernel
theorem dX5_find_6 : decode cX5_find 6 = .ok (.istore_n 2, 1) := by decide +kernel
theorem dX5_find_7 : decode cX5_find 7 = .ok (.iload_n 2, 1) := by decide +kernel
theorem dX5_find_8 : decode cX5_find 8 = .ok (.bipush 9, 2) := by decide +kernel
theorem dX5_find_10 : decode cX5_find 10 = .ok (.if_icmp .gt 67, 3) := by decide +kernel
theorem dX5_find_13 : decode cX5_find 13 = .ok (.iconst 0, 1) := by decide +kernel
theorem dX5_find_14 : decode cX5_find 14 = .ok (.istore_n 3, 1) := by decide +kernel
theorem dX5_find_15 : decode cX5_find 15 = .ok (.iload_n 3, 1) := by decide +kernel
theorem dX5_find_16 : decode cX5_find 16 = .ok (.bipush 20, 2) := by decide +kernel
theorem dX5_find_18 : decode cX5_find 18 = .ok (.if_icmp .gt 53, 3) := by decide +kernel
theorem dX5_find_21 : decode cX5_find 21 = .ok (.aload_n 0, 1) := by decide +kernel
theorem dX5_find_22 : decode cX5_find 22 = .ok (.getfield 24, 3) := by decide +kernel
theorem dX5_find_25 : decode cX5_find 25 = .ok (.sipush 189, 3) := by decide +kernel
theorem dX5_find_28 : decode cX5_find 28 = .ok (.if_icmp .ge 37, 3) := by decide +kernel
theorem dX5_find_31 : decode cX5_find 31 = .ok (.aload_n 1, 1) := by decide +kernel
theorem dX5_find_32 : decode cX5_find 32 = .ok (.iload_n 2, 1) := by decide +kernel
theorem dX5_find_33 : decode cX5_find 33 = .ok (.iload_n 3, 1) := by decide +kernel
theorem dX5_find_34 : decode cX5_find 34 = .ok (.invokevirtual 28, 3) := by decide +kernel
theorem dX5_find_37 : decode cX5_find 37 = .ok (.ifCond .eq 28, 3) := by decide +kernel
theorem dX5_find_40 : decode cX5_find 40 = .ok (.aload_n 0, 1) := by decide +kernel
theorem dX5_find_41 : decode cX5_find 41 = .ok (.getfield 9, 3) := by decide +kernel
theorem dX5_find_44 : decode cX5_find 44 = .ok (.aload_n 0, 1) := by decide +kernel
theorem dX5_find_45 : decode cX5_find 45 = .ok (.getfield 24, 3) := by decide +kernel
theorem dX5_find_48 : decode cX5_find 48 = .ok (.bipush 100, 2) := by decide +kernel
theorem dX5_find_50 : decode cX5_find 50 = .ok (.iload_n 2, 1) := by decide +kernel
theorem dX5_find_51 : decode cX5_find 51 = .ok (.imul, 1) := by decide +kernel
theorem dX5_find_52 : decode cX5_find 52 = .ok (.iload_n 3, 1) := by decide +kernel
theorem dX5_find_53 : decode cX5_find 53 = .ok (.iadd, 1) := by decide +kernel
theorem dX5_find_54 : decode cX5_find 54 = .ok (.iastore, 1) := by decide +kernel
theorem dX5_find_55 : decode cX5_find 55 = .ok (.aload_n 0, 1) := by decide +kernel
theorem dX5_find_56 : decode cX5_find 56 = .ok (.dup, 1) := by decide +kernel
theorem dX5_find_57 : decode cX5_find 57 = .ok (.getfield 24, 3) := by decide +kernel
theorem dX5_find_60 : decode cX5_find 60 = .ok (.iconst 1, 1) := by decide +kernel
theorem dX5_find_61 : decode cX5_find 61 = .ok (.iadd, 1) := by decide +kernel
theorem dX5_find_62 : decode cX5_find 62 = .ok (.putfield 24, 3) := by decide +kernel
theorem dX5_find_65 : decode cX5_find 65 = .ok (.iinc 3 1, 3) := by decide +kernel
theorem dX5_find_68 : decode cX5_find 68 = .ok (.goto (-53), 3) := by decide +kernel
theorem dX5_find_71 : decode cX5_find 71 = .ok (.iinc 2 1, 3) := by decide +kernel
theorem dX5_find_74 : decode cX5_find 74 = .ok (.goto (-67), 3) := by decide +kernel
theorem dX5_find_77 : decode cX5_find 77 = .ok (.return_, 1) := by decide +kernel
theorem dX5_code_0 : decode cX5_code 0 = .ok (.iload_n 1, 1) := by decide +kernel
theorem dX5_code_1 : decode cX5_code 1 = .ok (.ifCond .lt 27, 3) := by decide +kernel
theorem dX5_code_4 : decode cX5_code 4 = .ok (.iload_n 1, 1) := by decide +kernel
theorem dX5_code_5 : decode cX5_code 5 = .ok (.aload_n 0, 1) := by decide +kernel
theorem dX5_code_6 : decode cX5_code 6 = .ok (.getfield 24, 3) := by decide +kernel
theorem dX5_code_9 : decode cX5_code 9 = .ok (.if_icmp .ge 19, 3) := by decide +kernel
theorem dX5_code_12 : decode cX5_code 12 = .ok (.iload_n 1, 1) := by decide +kernel
theorem dX5_code_13 : decode cX5_code 13 = .ok (.sipush 189, 3) := by decide +kernel
theorem dX5_code_16 : decode cX5_code 16 = .ok (.if_icmp .ge 12, 3) := by decide +kernel
theorem dX5_code_19 : decode cX5_code 19 = .ok (.aload_n 0, 1) := by decide +kernel
theorem dX5_code_20 : decode cX5_code 20 = .ok (.getfield 9, 3) := by decide +kernel
theorem dX5_code_23 : decode cX5_code 23 = .ok (.iload_n 1, 1) := by decide +kernel
theorem dX5_code_24 : decode cX5_code 24 = .ok (.iaload, 1) := by decide +kernel
theorem dX5_code_25 : decode cX5_code 25 = .ok (.goto 5, 3) := by decide +kernel
theorem dX5_code_28 : decode cX5_code 28 = .ok (.bipush (-6), 2) := by decide +kernel
theorem dX5_code_30 : decode cX5_code 30 = .ok (.ireturn, 1) := by decide +kernel
set_option maxRecDepth 20000 in
theorem ggX5_leftAtMost_X5_flyingAt : GoodIn wsX5_leftAtMost wsX5_flyingAt := goodIn_r _ [11, 4, 5, 6, 7] (by decide +kernel) (by decide +kernel)
set_option maxRecDepth 20000 in
theorem gX5_leftAtMost_X5_flyingAt : GoodIn wsX5_leftAtMost (va_wsS RX5 34 yX5_flyingAt wsX5_flyingAt) := goodIn_app (goodIn_of _ (by decide +kernel)) ggX5_leftAtMost_X5_flyingAt
theorem dX5_leftAtMost_0 : decode cX5_leftAtMost 0 = .ok (.iconst 0, 1) := by decide +kernel
theorem dX5_leftAtMost_1 : decode cX5_leftAtMost 1 = .ok (.istore_n 2, 1) := by decide +kernel
theorem dX5_leftAtMost_2 : decode cX5_leftAtMost 2 = .ok (.iload_n 2, 1) := by decide +kernel
theorem dX5_leftAtMost_3 : decode cX5_leftAtMost 3 = .ok (.bipush 99, 2) := by decide +kernel
theorem dX5_leftAtMost_5 : decode cX5_leftAtMost 5 = .ok (.if_icmp .gt 16, 3) := by decide +kernel
theorem dX5_leftAtMost_8 : decode cX5_leftAtMost 8 = .ok (.aload_n 0, 1) := by decide +kernel
theorem dX5_leftAtMost_9 : decode cX5_leftAtMost 9 = .ok (.getfield 15, 3) := by decide +kernel
theorem dX5_leftAtMost_12 : decode cX5_leftAtMost 12 = .ok (.iload_n 2, 1) := by decide +kernel
theorem dX5_leftAtMost_13 : decode cX5_leftAtMost 13 = .ok (.iconst 0, 1) := by decide +kernel
theorem dX5_leftAtMost_14 : decode cX5_leftAtMost 14 = .ok (.iastore, 1) := by decide +kernel
theorem dX5_leftAtMost_15 : decode cX5_leftAtMost 15 = .ok (.iinc 2 1, 3) := by decide +kernel
theorem dX5_leftAtMost_18 : decode cX5_leftAtMost 18 = .ok (.goto (-16), 3) := by decide +kernel
theorem dX5_leftAtMost_21 : decode cX5_leftAtMost 21 = .ok (.iconst 0, 1) := by decide +kernel
theorem dX5_leftAtMost_22 : decode cX5_leftAtMost 22 = .ok (.istore_n 2, 1) := by decide +kernel
theorem dX5_leftAtMost_23 : decode cX5_leftAtMost 23 = .ok (.iconst 0, 1) := by decide +kernel
theorem dX5_leftAtMost_24 : decode cX5_leftAtMost 24 = .ok (.istore_n 3, 1) := by decide +kernel
theorem dX5_leftAtMost_25 : decode cX5_leftAtMost 25 = .ok (.iload_n 3, 1) := by decide +kernel
theorem dX5_leftAtMost_26 : decode cX5_leftAtMost 26 = .ok (.aload_n 0, 1) := by decide +kernel
theorem dX5_leftAtMost_27 : decode cX5_leftAtMost 27 = .ok (.getfield 24, 3) := by decide +kernel
theorem dX5_leftAtMost_30 : decode cX5_leftAtMost 30 = .ok (.if_icmp .ge 75, 3) := by decide +kernel
theorem dX5_leftAtMost_33 : decode cX5_leftAtMost 33 = .ok (.iload_n 3, 1) := by decide +kernel
theorem dX5_leftAtMost_34 : decode cX5_leftAtMost 34 = .ok (.sipush 189, 3) := by decide +kernel
theorem dX5_leftAtMost_37 : decode cX5_leftAtMost 37 = .ok (.if_icmp .ge 68, 3) := by decide +kernel
theorem dX5_leftAtMost_40 : decode cX5_leftAtMost 40 = .ok (.aload_n 0, 1) := by decide +kernel
theorem dX5_leftAtMost_41 : decode cX5_leftAtMost 41 = .ok (.getfield 9, 3) := by decide +kernel
theorem dX5_leftAtMost_44 : decode cX5_leftAtMost 44 = .ok (.iload_n 3, 1) := by decide +kernel
theorem dX5_leftAtMost_45 : decode cX5_leftAtMost 45 = .ok (.iaload, 1) := by decide +kernel
theorem dX5_leftAtMost_46 : decode cX5_leftAtMost 46 = .ok (.bipush 100, 2) := by decide +kernel
theorem dX5_leftAtMost_48 : decode cX5_leftAtMost 48 = .ok (.idiv, 1) := by decide +kernel
theorem dX5_leftAtMost_49 : decode cX5_leftAtMost 49 = .ok (.aload_n 0, 1) := by decide +kernel
theorem dX5_leftAtMost_50 : decode cX5_leftAtMost 50 = .ok (.getfield 9, 3) := by decide +kernel
theorem dX5_leftAtMost_53 : decode cX5_leftAtMost 53 = .ok (.iload_n 3, 1) := by decide +kernel
theorem dX5_leftAtMost_54 : decode cX5_leftAtMost 54 = .ok (.iaload, 1) := by decide +kernel
theorem dX5_leftAtMost_55 : decode cX5_leftAtMost 55 = .ok (.bipush 100, 2) := by decide +kernel
theorem dX5_leftAtMost_57 : decode cX5_leftAtMost 57 = .ok (.irem, 1) := by decide +kernel
theorem dX5_leftAtMost_58 : decode cX5_leftAtMost 58 = .ok (.iload_n 1, 1) := by decide +kernel
theorem dX5_leftAtMost_59 : decode cX5_leftAtMost 59 = .ok (.invokestatic 34, 3) := by decide +kernel
theorem dX5_leftAtMost_62 : decode cX5_leftAtMost 62 = .ok (.istore 4, 2) := by decide +kernel
theorem dX5_leftAtMost_64 : decode cX5_leftAtMost 64 = .ok (.iload 4, 2) := by decide +kernel
theorem dX5_leftAtMost_66 : decode cX5_leftAtMost 66 = .ok (.ifCond .lt 33, 3) := by decide +kernel
theorem dX5_leftAtMost_69 : decode cX5_leftAtMost 69 = .ok (.iload 4, 2) := by decide +kernel
theorem dX5_leftAtMost_71 : decode cX5_leftAtMost 71 = .ok (.bipush 99, 2) := by decide +kernel
theorem dX5_leftAtMost_73 : decode cX5_leftAtMost 73 = .ok (.if_icmp .gt 26, 3) := by decide +kernel
theorem dX5_leftAtMost_76 : decode cX5_leftAtMost 76 = .ok (.aload_n 0, 1) := by decide +kernel
theorem dX5_leftAtMost_77 : decode cX5_leftAtMost 77 = .ok (.getfield 15, 3) := by decide +kernel
theorem dX5_leftAtMost_80 : decode cX5_leftAtMost 80 = .ok (.iload 4, 2) := by decide +kernel
theorem dX5_leftAtMost_82 : decode cX5_leftAtMost 82 = .ok (.dup2, 1) := by decide +kernel
theorem dX5_leftAtMost_83 : decode cX5_leftAtMost 83 = .ok (.iaload, 1) := by decide +kernel
theorem dX5_leftAtMost_84 : decode cX5_leftAtMost 84 = .ok (.iconst 1, 1) := by decide +kernel
theorem dX5_leftAtMost_85 : decode cX5_leftAtMost 85 = .ok (.iadd, 1) := by decide +kernel
theorem dX5_leftAtMost_86 : decode cX5_leftAtMost 86 = .ok (.iastore, 1) := by decide +kernel
theorem dX5_leftAtMost_87 : decode cX5_leftAtMost 87 = .ok (.iload_n 2, 1) := by decide +kernel
theorem dX5_leftAtMost_88 : decode cX5_leftAtMost 88 = .ok (.aload_n 0, 1) := by decide +kernel
theorem dX5_leftAtMost_89 : decode cX5_leftAtMost 89 = .ok (.getfield 15, 3) := by decide +kernel
theorem dX5_leftAtMost_92 : decode cX5_leftAtMost 92 = .ok (.iload 4, 2) := by decide +kernel
theorem dX5_leftAtMost_94 : decode cX5_leftAtMost 94 = .ok (.iaload, 1) := by decide +kernel
theorem dX5_leftAtMost_95 : decode cX5_leftAtMost 95 = .ok (.invokestatic 18, 3) := by decide +kernel
theorem dX5_leftAtMost_98 : decode cX5_leftAtMost 98 = .ok (.istore_n 2, 1) := by decide +kernel
theorem dX5_leftAtMost_99 : decode cX5_leftAtMost 99 = .ok (.iinc 3 1, 3) := by decide +kernel
theorem dX5_leftAtMost_102 : decode cX5_leftAtMost 102 = .ok (.goto (-77), 3) := by decide +kernel
theorem dX5_leftAtMost_105 : decode cX5_leftAtMost 105 = .ok (.iload_n 2, 1) := by decide +kernel
theorem dX5_leftAtMost_106 : decode cX5_leftAtMost 106 = .ok (.ireturn, 1) := by decide +kernel
theorem dX6_init_0 : decode cX6_init 0 = .ok (.aload_n 0, 1) := by decide +kernel
theorem dX6_init_1 : decode cX6_init 1 = .ok (.invokespecial 3, 3) := by decide +kernel
theorem dX6_init_4 : decode cX6_init 4 = .ok (.aload_n 0, 1) := by decide +kernel
theorem dX6_init_5 : decode cX6_init 5 = .ok (.bipush 8, 2) := by decide +kernel
theorem dX6_init_7 : decode cX6_init 7 = .ok (.newarray .int, 2) := by decide +kernel
theorem dX6_init_9 : decode cX6_init 9 = .ok (.putfield 9, 3) := by decide +kernel
theorem dX6_init_12 : decode cX6_init 12 = .ok (.aload_n 0, 1) := by decide +kernel
theorem dX6_init_13 : decode cX6_init 13 = .ok (.bipush 8, 2) := by decide +kernel
theorem dX6_init_15 : decode cX6_init 15 = .ok (.newarray .int, 2) := by decide +kernel
theorem dX6_init_17 : decode cX6_init 17 = .ok (.putfield 15, 3) := by decide +kernel
theorem dX6_init_20 : decode cX6_init 20 = .ok (.aload_n 0, 1) := by decide +kernel
theorem dX6_init_21 : decode cX6_init 21 = .ok (.bipush 8, 2) := by decide +kernel
theorem dX6_init_23 : decode cX6_init 23 = .ok (.newarray .int, 2) := by decide +kernel
theorem dX6_init_25 : decode cX6_init 25 = .ok (.putfield 18, 3) := by decide +kernel
theorem dX6_init_28 : decode cX6_init 28 = .ok (.aload_n 0, 1) := by decide +kernel
theorem dX6_init_29 : decode cX6_init 29 = .ok (.bipush 8, 2) := by decide +kernel
theorem dX6_init_31 : decode cX6_init 31 = .ok (.newarray .int, 2) := by decide +kernel
theorem dX6_init_33 : decode cX6_init 33 = .ok (.putfield 21, 3) := by decide +kernel
theorem dX6_init_36 : decode cX6_init 36 = .ok (.aload_n 0, 1) := by decide +kernel
theorem dX6_init_37 : decode cX6_init 37 = .ok (.bipush 8, 2) := by decide +kernel
theorem dX6_init_39 : decode cX6_init 39 = .ok (.newarray .int, 2) := by decide +kernel
theorem dX6_init_41 : decode cX6_init 41 = .ok (.putfield 24, 3) := by decide +kernel
theorem dX6_init_44 : decode cX6_init 44 = .ok (.aload_n 0, 1) := by decide +kernel
theorem dX6_init_45 : decode cX6_init 45 = .ok (.bipush 8, 2) := by decide +kernel
theorem dX6_init_47 : decode cX6_init 47 = .ok (.newarray .int, 2) := by decide +kernel
theorem dX6_init_49 : decode cX6_init 49 = .ok (.putfield 27, 3) := by decide +kernel
theorem dX6_init_52 : decode cX6_init 52 = .ok (.aload_n 0, 1) := by decide +kernel
theorem dX6_init_53 : decode cX6_init 53 = .ok (.bipush 8, 2) := by decide +kernel
theorem dX6_init_55 : decode cX6_init 55 = .ok (.newarray .int, 2) := by decide +kernel
theorem dX6_init_57 : decode cX6_init 57 = .ok (.putfield 30, 3) := by decide +kernel
theorem dX6_init_60 : decode cX6_init 60 = .ok (.return_, 1) := by decide +kernel
theorem dX6_takeFrom_0 : decode cX6_takeFrom 0 = .ok (.aload_n 1, 1) := by decide +kernel
theorem dX6_takeFrom_1 : decode cX6_takeFrom 1 = .ok (.getfield 9, 3) := by decide +kernel
theorem dX6_takeFrom_4 : decode cX6_takeFrom 4 = .ok (.iconst 0, 1) := by decide +kernel
theorem dX6_takeFrom_5 : decode cX6_takeFrom 5 = .ok (.aload_n 0, 1) := by decide +kernel
theorem dX6_takeFrom_6 : decode cX6_takeFrom 6 = .ok (.getfield 9, 3) := by decide +kernel
theorem dX6_takeFrom_9 : decode cX6_takeFrom 9 = .ok (.iconst 0, 1) := by decide +kernel
theorem dX6_takeFrom_10 : decode cX6_takeFrom 10 = .ok (.bipush 8, 2) := by decide +kernel
theorem dX6_takeFrom_12 : decode cX6_takeFrom 12 = .ok (.invokestatic 33, 3) := by decide +kernel
theorem dX6_takeFrom_15 : decode cX6_takeFrom 15 = .ok (.aload_n 1, 1) := by decide +kernel
theorem dX6_takeFrom_16 : decode cX6_takeFrom 16 = .ok (.getfield 15, 3) := by decide +kernel
theorem dX6_takeFrom_19 : decode cX6_takeFrom 19 = .ok (.iconst 0, 1) := by decide +kernel
theorem dX6_takeFrom_20 : decode cX6_takeFrom 20 = .ok (.aload_n 0, 1) := by decide +kernel
theorem dX6_takeFrom_21 : decode cX6_takeFrom 21 = .ok (.getfield 15, 3) := by decide +kernel
theorem dX6_takeFrom_24 : decode cX6_takeFrom 24 = .ok (.iconst 0, 1) := by decide +kernel
theorem dX6_takeFrom_25 : decode cX6_takeFrom 25 = .ok (.bipush 8, 2) := by decide +kernel
theorem dX6_takeFrom_27 : decode cX6_takeFrom 27 = .ok (.invokestatic 33, 3) := by decide +kernel
theorem dX6_takeFrom_30 : decode cX6_takeFrom 30 = .ok (.aload_n 1, 1) := by decide +kernel
theorem dX6_takeFrom_31 : decode cX6_takeFrom 31 = .ok (.getfield 18, 3) := by decide +kernel
theorem dX6_takeFrom_34 : decode cX6_takeFrom 34 = .ok (.iconst 0, 1) := by decide +kernel
theorem dX6_takeFrom_35 : decode cX6_takeFrom 35 = .ok (.aload_n 0, 1) := by decide +kernel
theorem dX6_takeFrom_36 : decode cX6_takeFrom 36 = .ok (.getfield 18, 3) := by decide +kernel
theorem dX6_takeFrom_39 : decode cX6_takeFrom 39 = .ok (.iconst 0, 1) := by decide +kernel
theorem dX6_takeFrom_40 : decode cX6_takeFrom 40 = .ok (.bipush 8, 2) := by decide +kernel
theorem dX6_takeFrom_42 : decode cX6_takeFrom 42 = .ok (.invokestatic 33, 3) := by decide +kernel
theorem dX6_takeFrom_45 : decode cX6_takeFrom 45 = .ok (.aload_n 1, 1) := by decide +kernel
theorem dX6_takeFrom_46 : decode cX6_takeFrom 46 = .ok (.getfield 21, 3) := by decide +kernel
theorem dX6_takeFrom_49 : decode cX6_takeFrom 49 = .ok (.iconst 0, 1) := by decide +kernel
theorem dX6_takeFrom_50 : decode cX6_takeFrom 50 = .ok (.aload_n 0, 1) := by decide +kernel
theorem dX6_takeFrom_51 : decode cX6_takeFrom 51 = .ok (.getfield 21, 3) := by decide +kernel
theorem dX6_takeFrom_54 : decode cX6_takeFrom 54 = .ok (.iconst 0, 1) := by decide +kernel
theorem dX6_takeFrom_55 : decode cX6_takeFrom 55 = .ok (.bipush 8, 2) := by decide +kernel
theorem dX6_takeFrom_57 : decode cX6_takeFrom 57 = .ok (.invokestatic 33, 3) := by decide +kernel
theorem dX6_takeFrom_60 : decode cX6_takeFrom 60 = .ok (.aload_n 1, 1) := by decide +kernel
theorem dX6_takeFrom_61 : decode cX6_takeFrom 61 = .ok (.getfield 24, 3) := by decide +kernel
theorem dX6_takeFrom_64 : decode cX6_takeFrom 64 = .ok (.iconst 0, 1) := by decide +kernel
theorem dX6_takeFrom_65 : decode cX6_takeFrom 65 = .ok (.aload_n 0, 1) := by decide +kernel
theorem dX6_takeFrom_66 : decode cX6_takeFrom 66 = .ok (.getfield 24, 3) := by decide +kernel
theorem dX6_takeFrom_69 : decode cX6_takeFrom 69 = .ok (.iconst 0, 1) := by decide +kernel
theorem dX6_takeFrom_70 : decode cX6_takeFrom 70 = .ok (.bipush 8, 2) := by decide +kernel
theorem dX6_takeFrom_72 : decode cX6_takeFrom 72 = .ok (.invokestatic 33, 3) := by decide +kernel
theorem dX6_takeFrom_75 : decode cX6_takeFrom 75 = .ok (.aload_n 1, 1) := by decide +kernel
theorem dX6_takeFrom_76 : decode cX6_takeFrom 76 = .ok (.getfield 27, 3) := by decide +kernel
theorem dX6_takeFrom_79 : decode cX6_takeFrom 79 = .ok (.iconst 0, 1) := by decide +kernel
theorem dX6_takeFrom_80 : decode cX6_takeFrom 80 = .ok (.aload_n 0, 1) := by decide +kernel
theorem dX6_takeFrom_81 : decode cX6_takeFrom 81 = .ok (.getfield 27, 3) := by decide +kernel
theorem dX6_takeFrom_84 : decode cX6_takeFrom 84 = .ok (.iconst 0, 1) := by decide +kernel
theorem dX6_takeFrom_85 : decode cX6_takeFrom 85 = .ok (.bipush 8, 2) := by decide +kernel
theorem dX6_takeFrom_87 : decode cX6_takeFrom 87 = .ok (.invokestatic 33, 3) := by decide +kernel
theorem dX6_takeFrom_90 : decode cX6_takeFrom 90 = .ok (.aload_n 1, 1) := by decide +kernel
theorem dX6_takeFrom_91 : decode cX6_takeFrom 91 = .ok (.getfield 30, 3) := by decide +kernel
theorem dX6_takeFrom_94 : decode cX6_takeFrom 94 = .ok (.iconst 0, 1) := by decide +kernel
theorem dX6_takeFrom_95 : decode cX6_takeFrom 95 = .ok (.aload_n 0, 1) := by decide +kernel
theorem dX6_takeFrom_96 : decode cX6_takeFrom 96 = .ok (.getfield 30, 3) := by decide +kernel
theorem dX6_takeFrom_99 : decode cX6_takeFrom 99 = .ok (.iconst 0, 1) := by decide +kernel
theorem dX6_takeFrom_100 : decode cX6_takeFrom 100 = .ok (.bipush 8, 2) := by decide +kernel
theorem dX6_takeFrom_102 : decode cX6_takeFrom 102 = .ok (.invokestatic 33, 3) := by decide +kernel
theorem dX6_takeFrom_105 : decode cX6_takeFrom 105 = .ok (.aload_n 0, 1) := by decide +kernel
theorem dX6_takeFrom_106 : decode cX6_takeFrom 106 = .ok (.aload_n 1, 1) := by decide +kernel
theorem dX6_takeFrom_107 : decode cX6_takeFrom 107 = .ok (.getfield 39, 3) := by decide +kernel
theorem dX6_takeFrom_110 : decode cX6_takeFrom 110 = .ok (.putfield 39, 3) := by decide +kernel
theorem dX6_takeFrom_113 : decode cX6_takeFrom 113 = .ok (.aload_n 0, 1) := by decide +kernel
theorem dX6_takeFrom_114 : decode cX6_takeFrom 114 = .ok (.aload_n 1, 1) := by decide +kernel
theorem dX6_takeFrom_115 : decode cX6_takeFrom 115 = .ok (.getfield 43, 3) := by decide +kernel
theorem dX6_takeFrom_118 : decode cX6_takeFrom 118 = .ok (.putfield 43, 3) := by decide +kernel
theorem dX6_takeFrom_121 : decode cX6_takeFrom 121 = .ok (.aload_n 0, 1) := by decide +kernel
theorem dX6_takeFrom_122 : decode cX6_takeFrom 122 = .ok (.aload_n 1, 1) := by decide +kernel
theorem dX6_takeFrom_123 : decode cX6_takeFrom 123 = .ok (.getfield 46, 3) := by decide +kernel
theorem dX6_takeFrom_126 : decode cX6_takeFrom 126 = .ok (.putfield 46, 3) := by decide +kernel
theorem dX6_takeFrom_129 : decode cX6_takeFrom 129 = .ok (.aload_n 0, 1) := by decide +kernel
theorem dX6_takeFrom_130 : decode cX6_takeFrom 130 = .ok (.aload_n 1, 1) := by decide +kernel
theorem dX6_takeFrom_131 : decode cX6_takeFrom 131 = .ok (.getfield 49, 3) := by decide +kernel
theorem dX6_takeFrom_134 : decode cX6_takeFrom 134 = .ok (.putfield 49, 3) := by decide +kernel
theorem dX6_takeFrom_137 : decode cX6_takeFrom 137 = .ok (.return_, 1) := by decide +kernel
theorem dX6_has_0 : decode cX6_has 0 = .ok (.iload_n 1, 1) := by decide +kernel
theorem dX6_has_1 : decode cX6_has 1 = .ok (.ifCond .lt 25, 3) := by decide +kernel
theorem dX6_has_4 : decode cX6_has 4 = .ok (.iload_n 1, 1) := by decide +kernel
theorem dX6_has_5 : decode cX6_has 5 = .ok (.bipush 8, 2) := by decide +kernel
theorem dX6_has_7 : decode cX6_has 7 = .ok (.if_icmp .ge 19, 3) := by decide +kernel
theorem dX6_has_10 : decode cX6_has 10 = .ok (.aload_n 0, 1) := by decide +kernel
theorem dX6_has_11 : decode cX6_has 11 = .ok (.getfield 39, 3) := by decide +kernel
theorem dX6_has_14 : decode cX6_has 14 = .ok (.iload_n 1, 1) := by decide +kernel
theorem dX6_has_15 : decode cX6_has 15 = .ok (.ishr, 1) := by decide +kernel
theorem dX6_has_16 : decode cX6_has 16 = .ok (.iconst 1, 1) := by decide +kernel
theorem dX6_has_17 : decode cX6_has 17 = .ok (.iand, 1) := by decide +kernel
theorem dX6_has_18 : decode cX6_has 18 = .ok (.iconst 1, 1) := by decide +kernel
theorem dX6_has_19 : decode cX6_has 19 = .ok (.if_icmp .ne 7, 3) := by decide +kernel
theorem dX6_has_22 : decode cX6_has 22 = .ok (.iconst 1, 1) := by decide +kernel
theorem dX6_has_23 : decode cX6_has 23 = .ok (.goto 4, 3) := by decide +kernel
theorem dX6_has_26 : decode cX6_has 26 = .ok (.iconst 0, 1) := by decide +kernel
theorem dX6_has_27 : decode cX6_has 27 = .ok (.ireturn, 1) := by decide +kernel
set_option maxRecDepth 20000 in
theorem ggX6_isFree_X6_has : GoodIn wsX6_isFree wsX6_has := goodIn_r _ [6, 7, 8, 9, 10, 11, 12, 13, 14, 15, 16, 17, 18] (by decide +kernel) (by decide +kernel)
set_option maxRecDepth 20000 in
theorem gX6_isFree_X6_has : GoodIn wsX6_isFree (wsV RX6 52 RX6 yX6_has wsX6_has) := goodIn_app (goodIn_of _ (by decide +kernel)) ggX6_isFree_X6_has
theorem dX6_isFree_0 : decode cX6_isFree 0 = .ok (.aload_n 0, 1) := by decide +kernel
theorem dX6_isFree_1 : decode cX6_isFree 1 = .ok (.iload_n 1, 1) := by decide +kernel
theorem dX6_isFree_2 : decode cX6_isFree 2 = .ok (.invokevirtual 52, 3) := by decide +kernel
theorem dX6_isFree_5 : decode cX6_isFree 5 = .ok (.ifCond .eq 16, 3) := by decide +kernel
theorem dX6_isFree_8 : decode cX6_isFree 8 = .ok (.aload_n 0, 1) := by decide +kernel
theorem dX6_isFree_9 : decode cX6_isFree 9 = .ok (.getfield 9, 3) := by decide +kernel
theorem dX6_isFree_12 : decode cX6_isFree 12 = .ok (.iload_n 1, 1) := by decide +kernel
theorem dX6_isFree_13 : decode cX6_isFree 13 = .ok (.iaload, 1) := by decide +kernel
theorem dX6_isFree_14 : decode cX6_isFree 14 = .ok (.ifCond .ne 7, 3) := by decide +kernel
theorem dX6_isFree_17 : decode cX6_isFree 17 = .ok (.iconst 1, 1) := by decide +kernel
theorem dX6_isFree_18 : decode cX6_isFree 18 = .ok (.goto 4, 3) := by decide +kernel
theorem dX6_isFree_21 : decode cX6_isFree 21 = .ok (.iconst 0, 1) := by decide +kernel
theorem dX6_isFree_22 : decode cX6_isFree 22 = .ok (.ireturn, 1) := by decide +kernel
set_option maxRecDepth 20000 in
theorem ggX6_set_X9_isGlobe : GoodIn wsX6_set wsX9_isGlobe := goodIn_r _ [12] (by decide +kernel) (by decide +kernel)
set_option maxRecDepth 20000 in
theorem gX6_set_X9_isGlobe_n56 : GoodIn wsX6_set (wsX9_isGlobe) := ggX6_set_X9_isGlobe
set_option maxRecDepth 20000 in
theorem ggX6_set_X6_has : GoodIn wsX6_set wsX6_has := goodIn_r _ [17, 2, 18, 19, 20, 21, 22, 23, 24, 25, 26, 27, 28] (by decide +kernel) (by decide +kernel)
set_option maxRecDepth 20000 in
theorem gX6_set_X6_has : GoodIn wsX6_set (wsV RX6 52 RX6 yX6_has wsX6_has) := goodIn_app (goodIn_of _ (by decide +kernel)) ggX6_set_X6_has
theorem dX6_set_0 : decode cX6_set 0 = .ok (.iload_n 1, 1) := by decide +kernel
theorem dX6_set_1 : decode cX6_set 1 = .ok (.invokestatic 56, 3) := by decide +kernel
theorem dX6_set_4 : decode cX6_set 4 = .ok (.ifCond .ne 4, 3) := by decide +kernel
theorem dX6_set_7 : decode cX6_set 7 = .ok (.return_, 1) := by decide +kernel
theorem dX6_set_8 : decode cX6_set 8 = .ok (.aload_n 0, 1) := by decide +kernel
theorem dX6_set_9 : decode cX6_set 9 = .ok (.iload_n 1, 1) := by decide +kernel
theorem dX6_set_10 : decode cX6_set 10 = .ok (.invokevirtual 52, 3) := by decide +kernel
theorem dX6_set_13 : decode cX6_set 13 = .ok (.ifCond .ne 10, 3) := by decide +kernel
theorem dX6_set_16 : decode cX6_set 16 = .ok (.aload_n 0, 1) := by decide +kernel
theorem dX6_set_17 : decode cX6_set 17 = .ok (.getfield 30, 3) := by decide +kernel
theorem dX6_set_20 : decode cX6_set 20 = .ok (.iload_n 1, 1) := by decide +kernel
theorem dX6_set_21 : decode cX6_set 21 = .ok (.iconst (-1), 1) := by decide +kernel
theorem dX6_set_22 : decode cX6_set 22 = .ok (.iastore, 1) := by decide +kernel
theorem dX6_set_23 : decode cX6_set 23 = .ok (.aload_n 0, 1) := by decide +kernel
theorem dX6_set_24 : decode cX6_set 24 = .ok (.dup, 1) := by decide +kernel
theorem dX6_set_25 : decode cX6_set 25 = .ok (.getfield 39, 3) := by decide +kernel
theorem dX6_set_28 : decode cX6_set 28 = .ok (.iconst 1, 1) := by decide +kernel
theorem dX6_set_29 : decode cX6_set 29 = .ok (.iload_n 1, 1) := by decide +kernel
theorem dX6_set_30 : decode cX6_set 30 = .ok (.ishl, 1) := by decide +kernel
theorem dX6_set_31 : decode cX6_set 31 = .ok (.ior, 1) := by decide +kernel
theorem dX6_set_32 : decode cX6_set 32 = .ok (.putfield 39, 3) := by decide +kernel
theorem dX6_set_35 : decode cX6_set 35 = .ok (.aload_n 0, 1) := by decide +kernel
theorem dX6_set_36 : decode cX6_set 36 = .ok (.iload 5, 2) := by decide +kernel
theorem dX6_set_38 : decode cX6_set 38 = .ok (.ifCond .eq 14, 3) := by decide +kernel
theorem dX6_set_41 : decode cX6_set 41 = .ok (.aload_n 0, 1) := by decide +kernel
theorem dX6_set_42 : decode cX6_set 42 = .ok (.getfield 43, 3) := by decide +kernel
theorem dX6_set_45 : decode cX6_set 45 = .ok (.iconst 1, 1) := by decide +kernel
theorem dX6_set_46 : decode cX6_set 46 = .ok (.iload_n 1, 1) := by decide +kernel
theorem dX6_set_47 : decode cX6_set 47 = .ok (.ishl, 1) := by decide +kernel
theorem dX6_set_48 : decode cX6_set 48 = .ok (.ior, 1) := by decide +kernel
theorem dX6_set_49 : decode cX6_set 49 = .ok (.goto 13, 3) := by decide +kernel
theorem dX6_set_52 : decode cX6_set 52 = .ok (.aload_n 0, 1) := by decide +kernel
theorem dX6_set_53 : decode cX6_set 53 = .ok (.getfield 43, 3) := by decide +kernel
theorem dX6_set_56 : decode cX6_set 56 = .ok (.iconst 1, 1) := by decide +kernel
theorem dX6_set_57 : decode cX6_set 57 = .ok (.iload_n 1, 1) := by decide +kernel
theorem dX6_set_58 : decode cX6_set 58 = .ok (.ishl, 1) := by decide +kernel
theorem dX6_set_59 : decode cX6_set 59 = .ok (.iconst (-1), 1) := by decide +kernel
theorem dX6_set_60 : decode cX6_set 60 = .ok (.ixor, 1) := by decide +kernel
theorem dX6_set_61 : decode cX6_set 61 = .ok (.iand, 1) := by decide +kernel
theorem dX6_set_62 : decode cX6_set 62 = .ok (.putfield 43, 3) := by decide +kernel
theorem dX6_set_65 : decode cX6_set 65 = .ok (.aload_n 0, 1) := by decide +kernel
theorem dX6_set_66 : decode cX6_set 66 = .ok (.getfield 9, 3) := by decide +kernel
theorem dX6_set_69 : decode cX6_set 69 = .ok (.iload_n 1, 1) := by decide +kernel
theorem dX6_set_70 : decode cX6_set 70 = .ok (.iload_n 2, 1) := by decide +kernel
theorem dX6_set_71 : decode cX6_set 71 = .ok (.iastore, 1) := by decide +kernel
theorem dX6_set_72 : decode cX6_set 72 = .ok (.aload_n 0, 1) := by decide +kernel
theorem dX6_set_73 : decode cX6_set 73 = .ok (.getfield 15, 3) := by decide +kernel
theorem dX6_set_76 : decode cX6_set 76 = .ok (.iload_n 1, 1) := by decide +kernel
theorem dX6_set_77 : decode cX6_set 77 = .ok (.iload_n 3, 1) := by decide +kernel
theorem dX6_set_78 : decode cX6_set 78 = .ok (.iastore, 1) := by decide +kernel
theorem dX6_set_79 : decode cX6_set 79 = .ok (.aload_n 0, 1) := by decide +kernel
theorem dX6_set_80 : decode cX6_set 80 = .ok (.getfield 21, 3) := by decide +kernel
theorem dX6_set_83 : decode cX6_set 83 = .ok (.iload_n 1, 1) := by decide +kernel
theorem dX6_set_84 : decode cX6_set 84 = .ok (.iload 4, 2) := by decide +kernel
theorem dX6_set_86 : decode cX6_set 86 = .ok (.iastore, 1) := by decide +kernel
theorem dX6_set_87 : decode cX6_set 87 = .ok (.aload_n 0, 1) := by decide +kernel
theorem dX6_set_88 : decode cX6_set 88 = .ok (.getfield 18, 3) := by decide +kernel
theorem dX6_set_91 : decode cX6_set 91 = .ok (.iload_n 1, 1) := by decide +kernel
theorem dX6_set_92 : decode cX6_set 92 = .ok (.iconst 0, 1) := by decide +kernel
theorem dX6_set_93 : decode cX6_set 93 = .ok (.iastore, 1) := by decide +kernel
theorem dX6_set_94 : decode cX6_set 94 = .ok (.aload_n 0, 1) := by decide +kernel
theorem dX6_set_95 : decode cX6_set 95 = .ok (.getfield 24, 3) := by decide +kernel
theorem dX6_set_98 : decode cX6_set 98 = .ok (.iload_n 1, 1) := by decide +kernel
theorem dX6_set_99 : decode cX6_set 99 = .ok (.iconst 0, 1) := by decide +kernel
theorem dX6_set_100 : decode cX6_set 100 = .ok (.iastore, 1) := by decide +kernel
theorem dX6_set_101 : decode cX6_set 101 = .ok (.aload_n 0, 1) := by decide +kernel
theorem dX6_set_102 : decode cX6_set 102 = .ok (.getfield 27, 3) := by decide +kernel
theorem dX6_set_105 : decode cX6_set 105 = .ok (.iload_n 1, 1) := by decide +kernel
theorem dX6_set_106 : decode cX6_set 106 = .ok (.iconst 5, 1) := by decide +kernel
theorem dX6_set_107 : decode cX6_set 107 = .ok (.iastore, 1) := by decide +kernel
theorem dX6_set_108 : decode cX6_set 108 = .ok (.return_, 1) := by decide +kernel
set_option maxRecDepth 20000 in
theorem ggX6_outer_X6_has : GoodIn wsX6_outer wsX6_has := goodIn_r _ [6, 7, 8, 9, 10, 11, 12, 13, 14, 15, 16, 17, 18] (by decide +kernel) (by decide +kernel)
set_option maxRecDepth 20000 in
theorem gX6_outer_X6_has : GoodIn wsX6_outer (wsV RX6 52 RX6 yX6_has wsX6_has) := goodIn_app (goodIn_of _ (by decide +kernel)) ggX6_outer_X6_has
theorem dX6_outer_0 : decode cX6_outer 0 = .ok (.aload_n 0, 1) := by decide +kernel
theorem dX6_outer_1 : decode cX6_outer 1 = .ok (.iload_n 1, 1) := by decide +kernel
theorem dX6_outer_2 : decode cX6_outer 2 = .ok (.invokevirtual 52, 3) := by decide +kernel
theorem dX6_outer_5 : decode cX6_outer 5 = .ok (.ifCond .eq 13, 3) := by decide +kernel
theorem dX6_outer_8 : decode cX6_outer 8 = .ok (.aload_n 0, 1) := by decide +kernel
theorem dX6_outer_9 : decode cX6_outer 9 = .ok (.getfield 30, 3) := by decide +kernel
theorem dX6_outer_12 : decode cX6_outer 12 = .ok (.iload_n 1, 1) := by decide +kernel
theorem dX6_outer_13 : decode cX6_outer 13 = .ok (.iaload, 1) := by decide +kernel
theorem dX6_outer_14 : decode cX6_outer 14 = .ok (.iconst (-1), 1) := by decide +kernel
theorem dX6_outer_15 : decode cX6_outer 15 = .ok (.if_icmp .ne 8, 3) := by decide +kernel
theorem dX6_outer_18 : decode cX6_outer 18 = .ok (.bipush (-6), 2) := by decide +kernel
theorem dX6_outer_20 : decode cX6_outer 20 = .ok (.goto 9, 3) := by decide +kernel
theorem dX6_outer_23 : decode cX6_outer 23 = .ok (.aload_n 0, 1) := by decide +kernel
theorem dX6_outer_24 : decode cX6_outer 24 = .ok (.getfield 30, 3) := by decide +kernel
theorem dX6_outer_27 : decode cX6_outer 27 = .ok (.iload_n 1, 1) := by decide +kernel
theorem dX6_outer_28 : decode cX6_outer 28 = .ok (.iaload, 1) := by decide +kernel
theorem dX6_outer_29 : decode cX6_outer 29 = .ok (.ireturn, 1) := by decide +kernel
set_option maxRecDepth 20000 in
theorem ggX6_isWithin_X6_has : GoodIn wsX6_isWithin wsX6_has := goodIn_r _ [6, 7, 8, 9, 10, 11, 12, 13, 14, 15, 16, 17, 18] (by decide +kernel) (by decide +kernel)
set_option maxRecDepth 20000 in
theorem gX6_isWithin_X6_has : GoodIn wsX6_isWithin (wsV RX6 52 RX6 yX6_has wsX6_has) := goodIn_app (goodIn_of _ (by decide +kernel)) ggX6_isWithin_X6_has
theorem dX6_isWithin_0 : decode cX6_isWithin 0 = .ok (.iload_n 1, 1) := by decide +kernel
theorem dX6_isWithin_1 : decode cX6_isWithin 1 = .ok (.istore_n 3, 1) := by decide +kernel
theorem dX6_isWithin_2 : decode cX6_isWithin 2 = .ok (.iconst 0, 1) := by decide +kernel
theorem dX6_isWithin_3 : decode cX6_isWithin 3 = .ok (.istore 4, 2) := by decide +kernel
theorem dX6_isWithin_5 : decode cX6_isWithin 5 = .ok (.iload 4, 2) := by decide +kernel
theorem dX6_isWithin_7 : decode cX6_isWithin 7 = .ok (.bipush 8, 2) := by decide +kernel
theorem dX6_isWithin_9 : decode cX6_isWithin 9 = .ok (.if_icmp .ge 31, 3) := by decide +kernel
theorem dX6_isWithin_12 : decode cX6_isWithin 12 = .ok (.aload_n 0, 1) := by decide +kernel
theorem dX6_isWithin_13 : decode cX6_isWithin 13 = .ok (.iload_n 3, 1) := by decide +kernel
theorem dX6_isWithin_14 : decode cX6_isWithin 14 = .ok (.invokevirtual 52, 3) := by decide +kernel
theorem dX6_isWithin_17 : decode cX6_isWithin 17 = .ok (.ifCond .eq 23, 3) := by decide +kernel
theorem dX6_isWithin_20 : decode cX6_isWithin 20 = .ok (.iload_n 3, 1) := by decide +kernel
theorem dX6_isWithin_21 : decode cX6_isWithin 21 = .ok (.iload_n 2, 1) := by decide +kernel
theorem dX6_isWithin_22 : decode cX6_isWithin 22 = .ok (.if_icmp .ne 5, 3) := by decide +kernel
theorem dX6_isWithin_25 : decode cX6_isWithin 25 = .ok (.iconst 1, 1) := by decide +kernel
theorem dX6_isWithin_26 : decode cX6_isWithin 26 = .ok (.ireturn, 1) := by decide +kernel
theorem dX6_isWithin_27 : decode cX6_isWithin 27 = .ok (.aload_n 0, 1) := by decide +kernel
theorem dX6_isWithin_28 : decode cX6_isWithin 28 = .ok (.getfield 30, 3) := by decide +kernel
theorem dX6_isWithin_31 : decode cX6_isWithin 31 = .ok (.iload_n 3, 1) := by decide +kernel
theorem dX6_isWithin_32 : decode cX6_isWithin 32 = .ok (.iaload, 1) := by decide +kernel
theorem dX6_isWithin_33 : decode cX6_isWithin 33 = .ok (.istore_n 3, 1) := by decide +kernel
theorem dX6_isWithin_34 : decode cX6_isWithin 34 = .ok (.iinc 4 1, 3) := by decide +kernel
theorem dX6_isWithin_37 : decode cX6_isWithin 37 = .ok (.goto (-32), 3) := by decide +kernel
theorem dX6_isWithin_40 : decode cX6_isWithin 40 = .ok (.iconst 0, 1) := by decide +kernel
theorem dX6_isWithin_41 : decode cX6_isWithin 41 = .ok (.ireturn, 1) := by decide +kernel
set_option maxRecDepth 20000 in
theorem ggX6_bitsWithin_X6_isWithin : GoodIn wsX6_bitsWithin wsX6_isWithin := goodIn_r _ [5, 6, 7, 8, 9, 4, 10, 11, 12, 13, 14, 15, 16, 17, 18, 19, 20, 21, 22] (by decide +kernel) (by decide +kernel)
set_option maxRecDepth 20000 in
theorem gX6_bitsWithin_X6_isWithin : GoodIn wsX6_bitsWithin (wsV RX6 59 RX6 yX6_isWithin wsX6_isWithin) := goodIn_app (goodIn_of _ (by decide +kernel)) ggX6_bitsWithin_X6_isWithin
theorem dX6_bitsWithin_0 : decode cX6_bitsWithin 0 = .ok (.iconst 0, 1) := by decide +kernel
theorem dX6_bitsWithin_1 : decode cX6_bitsWithin 1 = .ok (.istore_n 2, 1) := by decide +kernel
theorem dX6_bitsWithin_2 : decode cX6_bitsWithin 2 = .ok (.iconst 0, 1) := by decide +kernel
theorem dX6_bitsWithin_3 : decode cX6_bitsWithin 3 = .ok (.istore_n 3, 1) := by decide +kernel
theorem dX6_bitsWithin_4 : decode cX6_bitsWithin 4 = .ok (.iload_n 3, 1) := by decide +kernel
theorem dX6_bitsWithin_5 : decode cX6_bitsWithin 5 = .ok (.bipush 8, 2) := by decide +kernel
theorem dX6_bitsWithin_7 : decode cX6_bitsWithin 7 = .ok (.if_icmp .ge 24, 3) := by decide +kernel
theorem dX6_bitsWithin_10 : decode cX6_bitsWithin 10 = .ok (.aload_n 0, 1) := by decide +kernel
theorem dX6_bitsWithin_11 : decode cX6_bitsWithin 11 = .ok (.iload_n 3, 1) := by decide +kernel
theorem dX6_bitsWithin_12 : decode cX6_bitsWithin 12 = .ok (.iload_n 1, 1) := by decide +kernel
theorem dX6_bitsWithin_13 : decode cX6_bitsWithin 13 = .ok (.invokevirtual 59, 3) := by decide +kernel
theorem dX6_bitsWithin_16 : decode cX6_bitsWithin 16 = .ok (.ifCond .eq 9, 3) := by decide +kernel
theorem dX6_bitsWithin_19 : decode cX6_bitsWithin 19 = .ok (.iload_n 2, 1) := by decide +kernel
theorem dX6_bitsWithin_20 : decode cX6_bitsWithin 20 = .ok (.iconst 1, 1) := by decide +kernel
theorem dX6_bitsWithin_21 : decode cX6_bitsWithin 21 = .ok (.iload_n 3, 1) := by decide +kernel
theorem dX6_bitsWithin_22 : decode cX6_bitsWithin 22 = .ok (.ishl, 1) := by decide +kernel
theorem dX6_bitsWithin_23 : decode cX6_bitsWithin 23 = .ok (.ior, 1) := by decide +kernel
theorem dX6_bitsWithin_24 : decode cX6_bitsWithin 24 = .ok (.istore_n 2, 1) := by decide +kernel
theorem dX6_bitsWithin_25 : decode cX6_bitsWithin 25 = .ok (.iinc 3 1, 3) := by decide +kernel
theorem dX6_bitsWithin_28 : decode cX6_bitsWithin 28 = .ok (.goto (-24), 3) := by decide +kernel
theorem dX6_bitsWithin_31 : decode cX6_bitsWithin 31 = .ok (.iload_n 2, 1) := by decide +kernel
theorem dX6_bitsWithin_32 : decode cX6_bitsWithin 32 = .ok (.ireturn, 1) := by decide +kernel
set_option maxRecDepth 20000 in
theorem ggX6_bitsRound_X6_isWithin : GoodIn wsX6_bitsRound wsX6_isWithin := goodIn_r _ [5, 6, 7, 8, 9, 4, 10, 11, 12, 13, 14, 15, 16, 17, 18, 19, 20, 21, 22] (by decide +kernel) (by decide +kernel)
set_option maxRecDepth 20000 in
theorem gX6_bitsRound_X6_isWithin : GoodIn wsX6_bitsRound (wsV RX6 59 RX6 yX6_isWithin wsX6_isWithin) := goodIn_app (goodIn_of _ (by decide +kernel)) ggX6_bitsRound_X6_isWithin
theorem dX6_bitsRound_0 : decode cX6_bitsRound 0 = .ok (.iconst 0, 1) := by decide +kernel
theorem dX6_bitsRound_1 : decode cX6_bitsRound 1 = .ok (.istore_n 2, 1) := by decide +kernel
theorem dX6_bitsRound_2 : decode cX6_bitsRound 2 = .ok (.iconst 0, 1) := by decide +kernel
theorem dX6_bitsRound_3 : decode cX6_bitsRound 3 = .ok (.istore_n 3, 1) := by decide +kernel
theorem dX6_bitsRound_4 : decode cX6_bitsRound 4 = .ok (.iload_n 3, 1) := by decide +kernel
theorem dX6_bitsRound_5 : decode cX6_bitsRound 5 = .ok (.bipush 8, 2) := by decide +kernel
theorem dX6_bitsRound_7 : decode cX6_bitsRound 7 = .ok (.if_icmp .ge 29, 3) := by decide +kernel
theorem dX6_bitsRound_10 : decode cX6_bitsRound 10 = .ok (.iload_n 3, 1) := by decide +kernel
theorem dX6_bitsRound_11 : decode cX6_bitsRound 11 = .ok (.iload_n 1, 1) := by decide +kernel
theorem dX6_bitsRound_12 : decode cX6_bitsRound 12 = .ok (.if_icmp .eq 18, 3) := by decide +kernel
theorem dX6_bitsRound_15 : decode cX6_bitsRound 15 = .ok (.aload_n 0, 1) := by decide +kernel
theorem dX6_bitsRound_16 : decode cX6_bitsRound 16 = .ok (.iload_n 1, 1) := by decide +kernel
theorem dX6_bitsRound_17 : decode cX6_bitsRound 17 = .ok (.iload_n 3, 1) := by decide +kernel
theorem dX6_bitsRound_18 : decode cX6_bitsRound 18 = .ok (.invokevirtual 59, 3) := by decide +kernel
theorem dX6_bitsRound_21 : decode cX6_bitsRound 21 = .ok (.ifCond .eq 9, 3) := by decide +kernel
theorem dX6_bitsRound_24 : decode cX6_bitsRound 24 = .ok (.iload_n 2, 1) := by decide +kernel
theorem dX6_bitsRound_25 : decode cX6_bitsRound 25 = .ok (.iconst 1, 1) := by decide +kernel
theorem dX6_bitsRound_26 : decode cX6_bitsRound 26 = .ok (.iload_n 3, 1) := by decide +kernel
theorem dX6_bitsRound_27 : decode cX6_bitsRound 27 = .ok (.ishl, 1) := by decide +kernel
theorem dX6_bitsRound_28 : decode cX6_bitsRound 28 = .ok (.ior, 1) := by decide +kernel
theorem dX6_bitsRound_29 : decode cX6_bitsRound 29 = .ok (.istore_n 2, 1) := by decide +kernel
theorem dX6_bitsRound_30 : decode cX6_bitsRound 30 = .ok (.iinc 3 1, 3) := by decide +kernel
theorem dX6_bitsRound_33 : decode cX6_bitsRound 33 = .ok (.goto (-29), 3) := by decide +kernel
theorem dX6_bitsRound_36 : decode cX6_bitsRound 36 = .ok (.iload_n 2, 1) := by decide +kernel
theorem dX6_bitsRound_37 : decode cX6_bitsRound 37 = .ok (.ireturn, 1) := by decide +kernel
set_option maxRecDepth 20000 in
theorem ggX6_snowBits_X6_has : GoodIn wsX6_snowBits wsX6_has := goodIn_r _ [6, 7, 8, 9, 10, 11, 12, 13, 14, 15, 16, 17, 18] (by decide +kernel) (by decide +kernel)
set_option maxRecDepth 20000 in
theorem gX6_snowBits_X6_has : GoodIn wsX6_snowBits (wsV RX6 52 RX6 yX6_has wsX6_has) := goodIn_app (goodIn_of _ (by decide +kernel)) ggX6_snowBits_X6_has
theorem dX6_snowBits_0 : decode cX6_snowBits 0 = .ok (.iconst 0, 1) := by decide +kernel
theorem dX6_snowBits_1 : decode cX6_snowBits 1 = .ok (.istore_n 1, 1) := by decide +kernel
theorem dX6_snowBits_2 : decode cX6_snowBits 2 = .ok (.iconst 0, 1) := by decide +kernel
theorem dX6_snowBits_3 : decode cX6_snowBits 3 = .ok (.istore_n 2, 1) := by decide +kernel
theorem dX6_snowBits_4 : decode cX6_snowBits 4 = .ok (.iload_n 2, 1) := by decide +kernel
theorem dX6_snowBits_5 : decode cX6_snowBits 5 = .ok (.bipush 8, 2) := by decide +kernel
theorem dX6_snowBits_7 : decode cX6_snowBits 7 = .ok (.if_icmp .ge 32, 3) := by decide +kernel
theorem dX6_snowBits_10 : decode cX6_snowBits 10 = .ok (.aload_n 0, 1) := by decide +kernel
theorem dX6_snowBits_11 : decode cX6_snowBits 11 = .ok (.iload_n 2, 1) := by decide +kernel
theorem dX6_snowBits_12 : decode cX6_snowBits 12 = .ok (.invokevirtual 52, 3) := by decide +kernel
theorem dX6_snowBits_15 : decode cX6_snowBits 15 = .ok (.ifCond .eq 18, 3) := by decide +kernel
theorem dX6_snowBits_18 : decode cX6_snowBits 18 = .ok (.aload_n 0, 1) := by decide +kernel
theorem dX6_snowBits_19 : decode cX6_snowBits 19 = .ok (.getfield 18, 3) := by decide +kernel
theorem dX6_snowBits_22 : decode cX6_snowBits 22 = .ok (.iload_n 2, 1) := by decide +kernel
theorem dX6_snowBits_23 : decode cX6_snowBits 23 = .ok (.iaload, 1) := by decide +kernel
theorem dX6_snowBits_24 : decode cX6_snowBits 24 = .ok (.ifCond .le 9, 3) := by decide +kernel
theorem dX6_snowBits_27 : decode cX6_snowBits 27 = .ok (.iload_n 1, 1) := by decide +kernel
theorem dX6_snowBits_28 : decode cX6_snowBits 28 = .ok (.iconst 1, 1) := by decide +kernel
theorem dX6_snowBits_29 : decode cX6_snowBits 29 = .ok (.iload_n 2, 1) := by decide +kernel
theorem dX6_snowBits_30 : decode cX6_snowBits 30 = .ok (.ishl, 1) := by decide +kernel
theorem dX6_snowBits_31 : decode cX6_snowBits 31 = .ok (.ior, 1) := by decide +kernel
theorem dX6_snowBits_32 : decode cX6_snowBits 32 = .ok (.istore_n 1, 1) := by decide +kernel
theorem dX6_snowBits_33 : decode cX6_snowBits 33 = .ok (.iinc 2 1, 3) := by decide +kernel
theorem dX6_snowBits_36 : decode cX6_snowBits 36 = .ok (.goto (-32), 3) := by decide +kernel
theorem dX6_snowBits_39 : decode cX6_snowBits 39 = .ok (.iload_n 1, 1) := by decide +kernel
theorem dX6_snowBits_40 : decode cX6_snowBits 40 = .ok (.ireturn, 1) := by decide +kernel
set_option maxRecDepth 20000 in
theorem ggX6_freeBits_X6_isFree : GoodIn wsX6_freeBits wsX6_isFree := goodIn_r _ [5, 6, 7, 8, 9, 4, 10, 11, 12, 13, 14, 15, 16, 17, 18, 19, 20, 21, 22] (by decide +kernel) (by decide +kernel)
set_option maxRecDepth 20000 in
theorem gX6_freeBits_X6_isFree : GoodIn wsX6_freeBits (wsV RX6 63 RX6 yX6_isFree wsX6_isFree) := goodIn_app (goodIn_of _ (by decide +kernel)) ggX6_freeBits_X6_isFree
theorem dX6_freeBits_0 : decode cX6_freeBits 0 = .ok (.iconst 0, 1) := by decide +kernel
theorem dX6_freeBits_1 : decode cX6_freeBits 1 = .ok (.istore_n 1, 1) := by decide +kernel
theorem dX6_freeBits_2 : decode cX6_freeBits 2 = .ok (.iconst 0, 1) := by decide +kernel
theorem dX6_freeBits_3 : decode cX6_freeBits 3 = .ok (.istore_n 2, 1) := by decide +kernel
theorem dX6_freeBits_4 : decode cX6_freeBits 4 = .ok (.iload_n 2, 1) := by decide +kernel
theorem dX6_freeBits_5 : decode cX6_freeBits 5 = .ok (.bipush 8, 2) := by decide +kernel
theorem dX6_freeBits_7 : decode cX6_freeBits 7 = .ok (.if_icmp .ge 23, 3) := by decide +kernel
theorem dX6_freeBits_10 : decode cX6_freeBits 10 = .ok (.aload_n 0, 1) := by decide +kernel
theorem dX6_freeBits_11 : decode cX6_freeBits 11 = .ok (.iload_n 2, 1) := by decide +kernel
theorem dX6_freeBits_12 : decode cX6_freeBits 12 = .ok (.invokevirtual 63, 3) := by decide +kernel
theorem dX6_freeBits_15 : decode cX6_freeBits 15 = .ok (.ifCond .eq 9, 3) := by decide +kernel
theorem dX6_freeBits_18 : decode cX6_freeBits 18 = .ok (.iload_n 1, 1) := by decide +kernel
theorem dX6_freeBits_19 : decode cX6_freeBits 19 = .ok (.iconst 1, 1) := by decide +kernel
theorem dX6_freeBits_20 : decode cX6_freeBits 20 = .ok (.iload_n 2, 1) := by decide +kernel
theorem dX6_freeBits_21 : decode cX6_freeBits 21 = .ok (.ishl, 1) := by decide +kernel
theorem dX6_freeBits_22 : decode cX6_freeBits 22 = .ok (.ior, 1) := by decide +kernel
theorem dX6_freeBits_23 : decode cX6_freeBits 23 = .ok (.istore_n 1, 1) := by decide +kernel
theorem dX6_freeBits_24 : decode cX6_freeBits 24 = .ok (.iinc 2 1, 3) := by decide +kernel
theorem dX6_freeBits_27 : decode cX6_freeBits 27 = .ok (.goto (-23), 3) := by decide +kernel
theorem dX6_freeBits_30 : decode cX6_freeBits 30 = .ok (.iload_n 1, 1) := by decide +kernel
theorem dX6_freeBits_31 : decode cX6_freeBits 31 = .ok (.ireturn, 1) := by decide +kernel
set_option maxRecDepth 20000 in
theorem ggX6_refusal_X6_has : GoodIn wsX6_refusal wsX6_has := goodIn_r _ [9, 10, 19, 20, 21, 22, 23, 24, 25, 26, 27, 28, 29] (by decide +kernel) (by decide +kernel)
set_option maxRecDepth 20000 in
theorem gX6_refusal_X6_has : GoodIn wsX6_refusal (wsV RX6 52 RX6 yX6_has wsX6_has) := goodIn_app (goodIn_of _ (by decide +kernel)) ggX6_refusal_X6_has
set_option maxRecDepth 20000 in
theorem ggX6_refusal_X6_isWithin : GoodIn wsX6_refusal wsX6_isWithin := goodIn_r _ [14, 2, 5, 6, 7, 8, 9, 10, 19, 20, 21, 22, 23, 24, 25, 26, 27, 28, 29] (by decide +kernel) (by decide +kernel)
set_option maxRecDepth 20000 in
theorem gX6_refusal_X6_isWithin : GoodIn wsX6_refusal (wsV RX6 59 RX6 yX6_isWithin wsX6_isWithin) := goodIn_app (goodIn_of _ (by decide +kernel)) ggX6_refusal_X6_isWithin
set_option maxRecDepth 20000 in
theorem ggX6_refusal_X6_isFree : GoodIn wsX6_refusal wsX6_isFree := goodIn_r _ [18, 3, 5, 6, 7, 8, 9, 10, 19, 20, 21, 22, 23, 24, 25, 26, 27, 28, 29] (by decide +kernel) (by decide +kernel)
set_option maxRecDepth 20000 in
theorem gX6_refusal_X6_isFree : GoodIn wsX6_refusal (wsV RX6 63 RX6 yX6_isFree wsX6_isFree) := goodIn_app (goodIn_of _ (by decide +kernel)) ggX6_refusal_X6_isFree
theorem dX6_refusal_0 : decode cX6_refusal 0 = .ok (.iload_n 1, 1) := by decide +kernel
theorem dX6_refusal_1 : decode cX6_refusal 1 = .ok (.bipush 46, 2) := by decide +kernel
theorem dX6_refusal_3 : decode cX6_refusal 3 = .ok (.if_icmp .ne 21, 3) := by decide +kernel
theorem dX6_refusal_6 : decode cX6_refusal 6 = .ok (.aload_n 0, 1) := by decide +kernel
theorem dX6_refusal_7 : decode cX6_refusal 7 = .ok (.getfield 49, 3) := by decide +kernel
theorem dX6_refusal_10 : decode cX6_refusal 10 = .ok (.sipush 999, 3) := by decide +kernel
theorem dX6_refusal_13 : decode cX6_refusal 13 = .ok (.if_icmp .lt 8, 3) := by decide +kernel
theorem dX6_refusal_16 : decode cX6_refusal 16 = .ok (.bipush 6, 2) := by decide +kernel
theorem dX6_refusal_18 : decode cX6_refusal 18 = .ok (.goto 5, 3) := by decide +kernel
theorem dX6_refusal_21 : decode cX6_refusal 21 = .ok (.bipush (-6), 2) := by decide +kernel
theorem dX6_refusal_23 : decode cX6_refusal 23 = .ok (.ireturn, 1) := by decide +kernel
theorem dX6_refusal_24 : decode cX6_refusal 24 = .ok (.aload_n 0, 1) := by decide +kernel
theorem dX6_refusal_25 : decode cX6_refusal 25 = .ok (.iload_n 2, 1) := by decide +kernel
