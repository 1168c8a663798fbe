theorem dX10_globe_156 : decode cX10_globe 156 = .ok (.aload_n 0, 1) := by decide +kernel
theorem dX10_globe_157 : decode cX10_globe 157 = .ok (.dup, 1) := by decide +kernel
theorem dX10_globe_158 : decode cX10_globe 158 = .ok (.getfield 63, 3) := by decide +kernel
theorem dX10_globe_161 : decode cX10_globe 161 = .ok (.iload 5, 2) := by decide +kernel
theorem dX10_globe_163 : decode cX10_globe 163 = .ok (.ifCond .eq 9, 3) := by decide +kernel
theorem dX10_globe_166 : decode cX10_globe 166 = .ok (.iconst 1, 1) := by decide +kernel
theorem dX10_globe_167 : decode cX10_globe 167 = .ok (.iload_n 1, 1) := by decide +kernel
theorem dX10_globe_168 : decode cX10_globe 168 = .ok (.ishl, 1) := by decide +kernel
theorem dX10_globe_169 : decode cX10_globe 169 = .ok (.goto 4, 3) := by decide +kernel
theorem dX10_globe_172 : decode cX10_globe 172 = .ok (.iconst 0, 1) := by decide +kernel
theorem dX10_globe_173 : decode cX10_globe 173 = .ok (.ior, 1) := by decide +kernel
theorem dX10_globe_174 : decode cX10_globe 174 = .ok (.putfield 63, 3) := by decide +kernel
theorem dX10_globe_177 : decode cX10_globe 177 = .ok (.aload_n 0, 1) := by decide +kernel
theorem dX10_globe_178 : decode cX10_globe 178 = .ok (.getfield 7, 3) := by decide +kernel
theorem dX10_globe_181 : decode cX10_globe 181 = .ok (.bipush 40, 2) := by decide +kernel
theorem dX10_globe_183 : decode cX10_globe 183 = .ok (.iaload, 1) := by decide +kernel
theorem dX10_globe_184 : decode cX10_globe 184 = .ok (.invokestatic 67, 3) := by decide +kernel
theorem dX10_globe_187 : decode cX10_globe 187 = .ok (.ireturn, 1) := by decide +kernel
set_option maxRecDepth 20000 in
theorem ggX10_fly_X10_isThere : GoodIn wsX10_fly wsX10_isThere := goodIn_r _ [7, 2, 8, 9, 6, 10, 11, 12, 13, 14, 15, 16, 17, 18, 19, 20, 21, 22, 23, 24, 25, 26, 27, 28, 29, 30, 31, 32, 33] (by decide +kernel) (by decide +kernel)
set_option maxRecDepth 20000 in
theorem gX10_fly_X10_isThere : GoodIn wsX10_fly (wsV RX10 59 RX10 yX10_isThere wsX10_isThere) := goodIn_app (goodIn_of _ (by decide +kernel)) ggX10_fly_X10_isThere
set_option maxRecDepth 20000 in
theorem ggX10_fly_X10_in : GoodIn wsX10_fly wsX10_in := goodIn_r _ [10] (by decide +kernel) (by decide +kernel)
set_option maxRecDepth 20000 in
theorem gX10_fly_X10_in : GoodIn wsX10_fly (va_wsS RX10 51 yX10_in wsX10_in) := goodIn_app (goodIn_of _ (by decide +kernel)) ggX10_fly_X10_in
theorem dX10_fly_0 : decode cX10_fly 0 = .ok (.aload_n 0, 1) := by decide +kernel
theorem dX10_fly_1 : decode cX10_fly 1 = .ok (.iload_n 1, 1) := by decide +kernel
theorem dX10_fly_2 : decode cX10_fly 2 = .ok (.invokevirtual 59, 3) := by decide +kernel
theorem dX10_fly_5 : decode cX10_fly 5 = .ok (.ifCond .ne 5, 3) := by decide +kernel
theorem dX10_fly_8 : decode cX10_fly 8 = .ok (.iconst (-1), 1) := by decide +kernel
theorem dX10_fly_9 : decode cX10_fly 9 = .ok (.ireturn, 1) := by decide +kernel
theorem dX10_fly_10 : decode cX10_fly 10 = .ok (.iload_n 2, 1) := by decide +kernel
theorem dX10_fly_11 : decode cX10_fly 11 = .ok (.iconst 0, 1) := by decide +kernel
theorem dX10_fly_12 : decode cX10_fly 12 = .ok (.aload_n 0, 1) := by decide +kernel
theorem dX10_fly_13 : decode cX10_fly 13 = .ok (.getfield 16, 3) := by decide +kernel
theorem dX10_fly_16 : decode cX10_fly 16 = .ok (.iload_n 1, 1) := by decide +kernel
theorem dX10_fly_17 : decode cX10_fly 17 = .ok (.iaload, 1) := by decide +kernel
theorem dX10_fly_18 : decode cX10_fly 18 = .ok (.invokestatic 51, 3) := by decide +kernel
theorem dX10_fly_21 : decode cX10_fly 21 = .ok (.ifCond .ne 6, 3) := by decide +kernel
theorem dX10_fly_24 : decode cX10_fly 24 = .ok (.bipush (-2), 2) := by decide +kernel
theorem dX10_fly_26 : decode cX10_fly 26 = .ok (.ireturn, 1) := by decide +kernel
theorem dX10_fly_27 : decode cX10_fly 27 = .ok (.aload_n 0, 1) := by decide +kernel
theorem dX10_fly_28 : decode cX10_fly 28 = .ok (.getfield 7, 3) := by decide +kernel
theorem dX10_fly_31 : decode cX10_fly 31 = .ok (.bipush 8, 2) := by decide +kernel
theorem dX10_fly_33 : decode cX10_fly 33 = .ok (.iload_n 1, 1) := by decide +kernel
theorem dX10_fly_34 : decode cX10_fly 34 = .ok (.iadd, 1) := by decide +kernel
theorem dX10_fly_35 : decode cX10_fly 35 = .ok (.iaload, 1) := by decide +kernel
theorem dX10_fly_36 : decode cX10_fly 36 = .ok (.istore_n 3, 1) := by decide +kernel
theorem dX10_fly_37 : decode cX10_fly 37 = .ok (.aload_n 0, 1) := by decide +kernel
theorem dX10_fly_38 : decode cX10_fly 38 = .ok (.getfield 7, 3) := by decide +kernel
theorem dX10_fly_41 : decode cX10_fly 41 = .ok (.bipush 8, 2) := by decide +kernel
theorem dX10_fly_43 : decode cX10_fly 43 = .ok (.iload_n 1, 1) := by decide +kernel
theorem dX10_fly_44 : decode cX10_fly 44 = .ok (.iadd, 1) := by decide +kernel
theorem dX10_fly_45 : decode cX10_fly 45 = .ok (.iload_n 2, 1) := by decide +kernel
theorem dX10_fly_46 : decode cX10_fly 46 = .ok (.iastore, 1) := by decide +kernel
theorem dX10_fly_47 : decode cX10_fly 47 = .ok (.iload_n 3, 1) := by decide +kernel
theorem dX10_fly_48 : decode cX10_fly 48 = .ok (.ireturn, 1) := by decide +kernel
set_option maxRecDepth 20000 in
theorem ggX10_mood_X10_isThere : GoodIn wsX10_mood wsX10_isThere := goodIn_r _ [6, 1, 7, 8, 5, 9, 10, 11, 12, 13, 14, 15, 16, 17, 18, 19, 20, 21, 22, 23, 24, 25, 26, 27, 28, 29, 30, 31, 32] (by decide +kernel) (by decide +kernel)
set_option maxRecDepth 20000 in
theorem gX10_mood_X10_isThere : GoodIn wsX10_mood (wsV RX10 59 RX10 yX10_isThere wsX10_isThere) := goodIn_app (goodIn_of _ (by decide +kernel)) ggX10_mood_X10_isThere
set_option maxRecDepth 20000 in
theorem ggX10_mood_X10_in : GoodIn wsX10_mood wsX10_in := goodIn_r _ [9] (by decide +kernel) (by decide +kernel)
set_option maxRecDepth 20000 in
theorem gX10_mood_X10_in : GoodIn wsX10_mood (va_wsS RX10 51 yX10_in wsX10_in) := goodIn_app (goodIn_of _ (by decide +kernel)) ggX10_mood_X10_in
theorem dX10_mood_0 : decode cX10_mood 0 = .ok (.aload_n 0, 1) := by decide +kernel
theorem dX10_mood_1 : decode cX10_mood 1 = .ok (.iload_n 1, 1) := by decide +kernel
theorem dX10_mood_2 : decode cX10_mood 2 = .ok (.invokevirtual 59, 3) := by decide +kernel
theorem dX10_mood_5 : decode cX10_mood 5 = .ok (.ifCond .ne 5, 3) := by decide +kernel
theorem dX10_mood_8 : decode cX10_mood 8 = .ok (.iconst (-1), 1) := by decide +kernel
theorem dX10_mood_9 : decode cX10_mood 9 = .ok (.ireturn, 1) := by decide +kernel
theorem dX10_mood_10 : decode cX10_mood 10 = .ok (.iload_n 2, 1) := by decide +kernel
theorem dX10_mood_11 : decode cX10_mood 11 = .ok (.iconst 0, 1) := by decide +kernel
theorem dX10_mood_12 : decode cX10_mood 12 = .ok (.bipush 9, 2) := by decide +kernel
theorem dX10_mood_14 : decode cX10_mood 14 = .ok (.invokestatic 51, 3) := by decide +kernel
theorem dX10_mood_17 : decode cX10_mood 17 = .ok (.ifCond .eq 13, 3) := by decide +kernel
theorem dX10_mood_20 : decode cX10_mood 20 = .ok (.iload_n 3, 1) := by decide +kernel
theorem dX10_mood_21 : decode cX10_mood 21 = .ok (.iconst 0, 1) := by decide +kernel
theorem dX10_mood_22 : decode cX10_mood 22 = .ok (.bipush 9, 2) := by decide +kernel
theorem dX10_mood_24 : decode cX10_mood 24 = .ok (.invokestatic 51, 3) := by decide +kernel
theorem dX10_mood_27 : decode cX10_mood 27 = .ok (.ifCond .ne 6, 3) := by decide +kernel
theorem dX10_mood_30 : decode cX10_mood 30 = .ok (.bipush (-2), 2) := by decide +kernel
theorem dX10_mood_32 : decode cX10_mood 32 = .ok (.ireturn, 1) := by decide +kernel
theorem dX10_mood_33 : decode cX10_mood 33 = .ok (.bipush 10, 2) := by decide +kernel
theorem dX10_mood_35 : decode cX10_mood 35 = .ok (.aload_n 0, 1) := by decide +kernel
theorem dX10_mood_36 : decode cX10_mood 36 = .ok (.getfield 7, 3) := by decide +kernel
theorem dX10_mood_39 : decode cX10_mood 39 = .ok (.bipush 16, 2) := by decide +kernel
theorem dX10_mood_41 : decode cX10_mood 41 = .ok (.iload_n 1, 1) := by decide +kernel
theorem dX10_mood_42 : decode cX10_mood 42 = .ok (.iadd, 1) := by decide +kernel
theorem dX10_mood_43 : decode cX10_mood 43 = .ok (.iaload, 1) := by decide +kernel
theorem dX10_mood_44 : decode cX10_mood 44 = .ok (.imul, 1) := by decide +kernel
theorem dX10_mood_45 : decode cX10_mood 45 = .ok (.aload_n 0, 1) := by decide +kernel
theorem dX10_mood_46 : decode cX10_mood 46 = .ok (.getfield 7, 3) := by decide +kernel
theorem dX10_mood_49 : decode cX10_mood 49 = .ok (.bipush 24, 2) := by decide +kernel
theorem dX10_mood_51 : decode cX10_mood 51 = .ok (.iload_n 1, 1) := by decide +kernel
theorem dX10_mood_52 : decode cX10_mood 52 = .ok (.iadd, 1) := by decide +kernel
theorem dX10_mood_53 : decode cX10_mood 53 = .ok (.iaload, 1) := by decide +kernel
theorem dX10_mood_54 : decode cX10_mood 54 = .ok (.iadd, 1) := by decide +kernel
theorem dX10_mood_55 : decode cX10_mood 55 = .ok (.istore 4, 2) := by decide +kernel
theorem dX10_mood_57 : decode cX10_mood 57 = .ok (.aload_n 0, 1) := by decide +kernel
theorem dX10_mood_58 : decode cX10_mood 58 = .ok (.getfield 7, 3) := by decide +kernel
theorem dX10_mood_61 : decode cX10_mood 61 = .ok (.bipush 16, 2) := by decide +kernel
theorem dX10_mood_63 : decode cX10_mood 63 = .ok (.iload_n 1, 1) := by decide +kernel
theorem dX10_mood_64 : decode cX10_mood 64 = .ok (.iadd, 1) := by decide +kernel
theorem dX10_mood_65 : decode cX10_mood 65 = .ok (.iload_n 2, 1) := by decide +kernel
theorem dX10_mood_66 : decode cX10_mood 66 = .ok (.iastore, 1) := by decide +kernel
theorem dX10_mood_67 : decode cX10_mood 67 = .ok (.aload_n 0, 1) := by decide +kernel
theorem dX10_mood_68 : decode cX10_mood 68 = .ok (.getfield 7, 3) := by decide +kernel
theorem dX10_mood_71 : decode cX10_mood 71 = .ok (.bipush 24, 2) := by decide +kernel
theorem dX10_mood_73 : decode cX10_mood 73 = .ok (.iload_n 1, 1) := by decide +kernel
theorem dX10_mood_74 : decode cX10_mood 74 = .ok (.iadd, 1) := by decide +kernel
theorem dX10_mood_75 : decode cX10_mood 75 = .ok (.iload_n 3, 1) := by decide +kernel
theorem dX10_mood_76 : decode cX10_mood 76 = .ok (.iastore, 1) := by decide +kernel
theorem dX10_mood_77 : decode cX10_mood 77 = .ok (.iload 4, 2) := by decide +kernel
theorem dX10_mood_79 : decode cX10_mood 79 = .ok (.ireturn, 1) := by decide +kernel
set_option maxRecDepth 20000 in
theorem ggX10_put_X10_isThere : GoodIn wsX10_put wsX10_isThere := goodIn_r _ [6, 1, 7, 8, 5, 9, 10, 11, 12, 24, 25, 26, 27, 28, 29, 30, 31, 32, 33, 34, 35, 36, 37, 38, 39, 40, 41, 42, 43] (by decide +kernel) (by decide +kernel)
set_option maxRecDepth 20000 in
theorem gX10_put_X10_isThere : GoodIn wsX10_put (wsV RX10 59 RX10 yX10_isThere wsX10_isThere) := goodIn_app (goodIn_of _ (by decide +kernel)) ggX10_put_X10_isThere
set_option maxRecDepth 20000 in
theorem ggX10_put_X10_asNow : GoodIn wsX10_put wsX10_asNow := goodIn_r _ [16, 17, 1, 18, 19, 24, 25, 26, 27, 28, 29, 30, 31, 32, 33, 34, 35, 36, 37, 38, 39, 40, 41, 42, 43] (by decide +kernel) (by decide +kernel)
set_option maxRecDepth 20000 in
theorem gX10_put_X10_asNow : GoodIn wsX10_put (wsV RX10 71 RX10 yX10_asNow wsX10_asNow) := goodIn_app (goodIn_of _ (by decide +kernel)) ggX10_put_X10_asNow
set_option maxRecDepth 20000 in
theorem ggX10_put_X10_isWithin : GoodIn wsX10_put wsX10_isWithin := goodIn_r _ [23, 17, 24, 25, 26, 27, 28, 29, 30, 31, 32, 33, 34, 35, 36, 37, 38, 39, 40, 41, 42, 43] (by decide +kernel) (by decide +kernel)
set_option maxRecDepth 20000 in
theorem gX10_put_X10_isWithin : GoodIn wsX10_put (wsV RX10 74 RX10 yX10_isWithin wsX10_isWithin) := goodIn_app (goodIn_of _ (by decide +kernel)) ggX10_put_X10_isWithin
theorem dX10_put_0 : decode cX10_put 0 = .ok (.aload_n 0, 1) := by decide +kernel
theorem dX10_put_1 : decode cX10_put 1 = .ok (.iload_n 1, 1) := by decide +kernel
theorem dX10_put_2 : decode cX10_put 2 = .ok (.invokevirtual 59, 3) := by decide +kernel
theorem dX10_put_5 : decode cX10_put 5 = .ok (.ifCond .eq 16, 3) := by decide +kernel
theorem dX10_put_8 : decode cX10_put 8 = .ok (.iload_n 2, 1) := by decide +kernel
theorem dX10_put_9 : decode cX10_put 9 = .ok (.iconst (-1), 1) := by decide +kernel
theorem dX10_put_10 : decode cX10_put 10 = .ok (.if_icmp .eq 13, 3) := by decide +kernel
theorem dX10_put_13 : decode cX10_put 13 = .ok (.aload_n 0, 1) := by decide +kernel
theorem dX10_put_14 : decode cX10_put 14 = .ok (.iload_n 2, 1) := by decide +kernel
theorem dX10_put_15 : decode cX10_put 15 = .ok (.invokevirtual 59, 3) := by decide +kernel
theorem dX10_put_18 : decode cX10_put 18 = .ok (.ifCond .ne 5, 3) := by decide +kernel
theorem dX10_put_21 : decode cX10_put 21 = .ok (.iconst (-1), 1) := by decide +kernel
theorem dX10_put_22 : decode cX10_put 22 = .ok (.ireturn, 1) := by decide +kernel
theorem dX10_put_23 : decode cX10_put 23 = .ok (.aload_n 0, 1) := by decide +kernel
theorem dX10_put_24 : decode cX10_put 24 = .ok (.invokevirtual 71, 3) := by decide +kernel
theorem dX10_put_27 : decode cX10_put 27 = .ok (.iload_n 2, 1) := by decide +kernel
theorem dX10_put_28 : decode cX10_put 28 = .ok (.ifCond .lt 15, 3) := by decide +kernel
theorem dX10_put_31 : decode cX10_put 31 = .ok (.aload_n 0, 1) := by decide +kernel
theorem dX10_put_32 : decode cX10_put 32 = .ok (.iload_n 2, 1) := by decide +kernel
theorem dX10_put_33 : decode cX10_put 33 = .ok (.iload_n 1, 1) := by decide +kernel
theorem dX10_put_34 : decode cX10_put 34 = .ok (.invokevirtual 74, 3) := by decide +kernel
theorem dX10_put_37 : decode cX10_put 37 = .ok (.ifCond .eq 6, 3) := by decide +kernel
theorem dX10_put_40 : decode cX10_put 40 = .ok (.bipush (-3), 2) := by decide +kernel
theorem dX10_put_42 : decode cX10_put 42 = .ok (.ireturn, 1) := by decide +kernel
theorem dX10_put_43 : decode cX10_put 43 = .ok (.aload_n 0, 1) := by decide +kernel
theorem dX10_put_44 : decode cX10_put 44 = .ok (.getfield 7, 3) := by decide +kernel
theorem dX10_put_47 : decode cX10_put 47 = .ok (.bipush 32, 2) := by decide +kernel
theorem dX10_put_49 : decode cX10_put 49 = .ok (.iload_n 1, 1) := by decide +kernel
theorem dX10_put_50 : decode cX10_put 50 = .ok (.iadd, 1) := by decide +kernel
theorem dX10_put_51 : decode cX10_put 51 = .ok (.iaload, 1) := by decide +kernel
theorem dX10_put_52 : decode cX10_put 52 = .ok (.istore_n 3, 1) := by decide +kernel
theorem dX10_put_53 : decode cX10_put 53 = .ok (.aload_n 0, 1) := by decide +kernel
theorem dX10_put_54 : decode cX10_put 54 = .ok (.getfield 7, 3) := by decide +kernel
theorem dX10_put_57 : decode cX10_put 57 = .ok (.bipush 32, 2) := by decide +kernel
theorem dX10_put_59 : decode cX10_put 59 = .ok (.iload_n 1, 1) := by decide +kernel
theorem dX10_put_60 : decode cX10_put 60 = .ok (.iadd, 1) := by decide +kernel
theorem dX10_put_61 : decode cX10_put 61 = .ok (.iload_n 2, 1) := by decide +kernel
theorem dX10_put_62 : decode cX10_put 62 = .ok (.ifCond .ge 8, 3) := by decide +kernel
theorem dX10_put_65 : decode cX10_put 65 = .ok (.bipush (-6), 2) := by decide +kernel
theorem dX10_put_67 : decode cX10_put 67 = .ok (.goto 4, 3) := by decide +kernel
theorem dX10_put_70 : decode cX10_put 70 = .ok (.iload_n 2, 1) := by decide +kernel
theorem dX10_put_71 : decode cX10_put 71 = .ok (.iastore, 1) := by decide +kernel
theorem dX10_put_72 : decode cX10_put 72 = .ok (.iload_n 3, 1) := by decide +kernel
theorem dX10_put_73 : decode cX10_put 73 = .ok (.ireturn, 1) := by decide +kernel
set_option maxRecDepth 20000 in
theorem ggX10_say_X10_in : GoodIn wsX10_say wsX10_in := goodIn_r _ [6] (by decide +kernel) (by decide +kernel)
set_option maxRecDepth 20000 in
theorem gX10_say_X10_in : GoodIn wsX10_say (va_wsS RX10 51 yX10_in wsX10_in) := goodIn_app (goodIn_of _ (by decide +kernel)) ggX10_say_X10_in
theorem dX10_say_0 : decode cX10_say 0 = .ok (.iload_n 1, 1) := by decide +kernel
theorem dX10_say_1 : decode cX10_say 1 = .ok (.bipush 33, 2) := by decide +kernel
theorem dX10_say_3 : decode cX10_say 3 = .ok (.bipush 126, 2) := by decide +kernel
theorem dX10_say_5 : decode cX10_say 5 = .ok (.invokestatic 51, 3) := by decide +kernel
theorem dX10_say_8 : decode cX10_say 8 = .ok (.ifCond .ne 6, 3) := by decide +kernel
theorem dX10_say_11 : decode cX10_say 11 = .ok (.bipush (-2), 2) := by decide +kernel
theorem dX10_say_13 : decode cX10_say 13 = .ok (.ireturn, 1) := by decide +kernel
theorem dX10_say_14 : decode cX10_say 14 = .ok (.aload_n 0, 1) := by decide +kernel
theorem dX10_say_15 : decode cX10_say 15 = .ok (.getfield 77, 3) := by decide +kernel
theorem dX10_say_18 : decode cX10_say 18 = .ok (.bipush 60, 2) := by decide +kernel
theorem dX10_say_20 : decode cX10_say 20 = .ok (.if_icmp .ne 6, 3) := by decide +kernel
theorem dX10_say_23 : decode cX10_say 23 = .ok (.bipush (-4), 2) := by decide +kernel
theorem dX10_say_25 : decode cX10_say 25 = .ok (.ireturn, 1) := by decide +kernel
theorem dX10_say_26 : decode cX10_say 26 = .ok (.aload_n 0, 1) := by decide +kernel
theorem dX10_say_27 : decode cX10_say 27 = .ok (.getfield 28, 3) := by decide +kernel
theorem dX10_say_30 : decode cX10_say 30 = .ok (.aload_n 0, 1) := by decide +kernel
theorem dX10_say_31 : decode cX10_say 31 = .ok (.getfield 77, 3) := by decide +kernel
theorem dX10_say_34 : decode cX10_say 34 = .ok (.iload_n 1, 1) := by decide +kernel
theorem dX10_say_35 : decode cX10_say 35 = .ok (.iastore, 1) := by decide +kernel
theorem dX10_say_36 : decode cX10_say 36 = .ok (.aload_n 0, 1) := by decide +kernel
theorem dX10_say_37 : decode cX10_say 37 = .ok (.dup, 1) := by decide +kernel
theorem dX10_say_38 : decode cX10_say 38 = .ok (.getfield 77, 3) := by decide +kernel
theorem dX10_say_41 : decode cX10_say 41 = .ok (.iconst 1, 1) := by decide +kernel
theorem dX10_say_42 : decode cX10_say 42 = .ok (.iadd, 1) := by decide +kernel
theorem dX10_say_43 : decode cX10_say 43 = .ok (.putfield 77, 3) := by decide +kernel
theorem dX10_say_46 : decode cX10_say 46 = .ok (.aload_n 0, 1) := by decide +kernel
theorem dX10_say_47 : decode cX10_say 47 = .ok (.getfield 77, 3) := by decide +kernel
theorem dX10_say_50 : decode cX10_say 50 = .ok (.ireturn, 1) := by decide +kernel
theorem dX10_wipe_0 : decode cX10_wipe 0 = .ok (.aload_n 0, 1) := by decide +kernel
theorem dX10_wipe_1 : decode cX10_wipe 1 = .ok (.getfield 77, 3) := by decide +kernel
theorem dX10_wipe_4 : decode cX10_wipe 4 = .ok (.istore_n 1, 1) := by decide +kernel
theorem dX10_wipe_5 : decode cX10_wipe 5 = .ok (.aload_n 0, 1) := by decide +kernel
theorem dX10_wipe_6 : decode cX10_wipe 6 = .ok (.iconst 0, 1) := by decide +kernel
theorem dX10_wipe_7 : decode cX10_wipe 7 = .ok (.putfield 77, 3) := by decide +kernel
theorem dX10_wipe_10 : decode cX10_wipe 10 = .ok (.iload_n 1, 1) := by decide +kernel
theorem dX10_wipe_11 : decode cX10_wipe 11 = .ok (.ireturn, 1) := by decide +kernel
set_option maxRecDepth 20000 in
theorem ggX10_isVerb_X10_in : GoodIn wsX10_isVerb wsX10_in := goodIn_r _ [4] (by decide +kernel) (by decide +kernel)
set_option maxRecDepth 20000 in
theorem gX10_isVerb_X10_in : GoodIn wsX10_isVerb (va_wsS RX10 51 yX10_in wsX10_in) := goodIn_app (goodIn_of _ (by decide +kernel)) ggX10_isVerb_X10_in
theorem dX10_isVerb_0 : decode cX10_isVerb 0 = .ok (.iload_n 0, 1) := by decide +kernel
theorem dX10_isVerb_1 : decode cX10_isVerb 1 = .ok (.bipush 49, 2) := by decide +kernel
theorem dX10_isVerb_3 : decode cX10_isVerb 3 = .ok (.bipush 57, 2) := by decide +kernel
theorem dX10_isVerb_5 : decode cX10_isVerb 5 = .ok (.invokestatic 51, 3) := by decide +kernel
theorem dX10_isVerb_8 : decode cX10_isVerb 8 = .ok (.ifCond .ne 39, 3) := by decide +kernel
theorem dX10_isVerb_11 : decode cX10_isVerb 11 = .ok (.iload_n 0, 1) := by decide +kernel
theorem dX10_isVerb_12 : decode cX10_isVerb 12 = .ok (.bipush 43, 2) := by decide +kernel
theorem dX10_isVerb_14 : decode cX10_isVerb 14 = .ok (.if_icmp .eq 33, 3) := by decide +kernel
theorem dX10_isVerb_17 : decode cX10_isVerb 17 = .ok (.iload_n 0, 1) := by decide +kernel
theorem dX10_isVerb_18 : decode cX10_isVerb 18 = .ok (.bipush 61, 2) := by decide +kernel
theorem dX10_isVerb_20 : decode cX10_isVerb 20 = .ok (.if_icmp .eq 27, 3) := by decide +kernel
theorem dX10_isVerb_23 : decode cX10_isVerb 23 = .ok (.iload_n 0, 1) := by decide +kernel
theorem dX10_isVerb_24 : decode cX10_isVerb 24 = .ok (.bipush 47, 2) := by decide +kernel
theorem dX10_isVerb_26 : decode cX10_isVerb 26 = .ok (.if_icmp .eq 21, 3) := by decide +kernel
theorem dX10_isVerb_29 : decode cX10_isVerb 29 = .ok (.iload_n 0, 1) := by decide +kernel
theorem dX10_isVerb_30 : decode cX10_isVerb 30 = .ok (.bipush 62, 2) := by decide +kernel
theorem dX10_isVerb_32 : decode cX10_isVerb 32 = .ok (.if_icmp .eq 15, 3) := by decide +kernel
theorem dX10_isVerb_35 : decode cX10_isVerb 35 = .ok (.iload_n 0, 1) := by decide +kernel
theorem dX10_isVerb_36 : decode cX10_isVerb 36 = .ok (.bipush 94, 2) := by decide +kernel
theorem dX10_isVerb_38 : decode cX10_isVerb 38 = .ok (.if_icmp .eq 9, 3) := by decide +kernel
theorem dX10_isVerb_41 : decode cX10_isVerb 41 = .ok (.iload_n 0, 1) := by decide +kernel
theorem dX10_isVerb_42 : decode cX10_isVerb 42 = .ok (.bipush 35, 2) := by decide +kernel
theorem dX10_isVerb_44 : decode cX10_isVerb 44 = .ok (.if_icmp .ne 7, 3) := by decide +kernel
theorem dX10_isVerb_47 : decode cX10_isVerb 47 = .ok (.iconst 1, 1) := by decide +kernel
theorem dX10_isVerb_48 : decode cX10_isVerb 48 = .ok (.goto 4, 3) := by decide +kernel
theorem dX10_isVerb_51 : decode cX10_isVerb 51 = .ok (.iconst 0, 1) := by decide +kernel
theorem dX10_isVerb_52 : decode cX10_isVerb 52 = .ok (.ireturn, 1) := by decide +kernel
set_option maxRecDepth 20000 in
theorem ggX10_faultOf_X10_in : GoodIn wsX10_faultOf wsX10_in := goodIn_r _ [6] (by decide +kernel) (by decide +kernel)
set_option maxRecDepth 20000 in
theorem gX10_faultOf_X10_in : GoodIn wsX10_faultOf (va_wsS RX10 51 yX10_in wsX10_in) := goodIn_app (goodIn_of _ (by decide +kernel)) ggX10_faultOf_X10_in
set_option maxRecDepth 20000 in
theorem ggX10_faultOf_X10_isVerb : GoodIn wsX10_faultOf wsX10_isVerb := goodIn_r _ [9, 3, 4, 5, 6] (by decide +kernel) (by decide +kernel)
set_option maxRecDepth 20000 in
theorem gX10_faultOf_X10_isVerb : GoodIn wsX10_faultOf (va_wsS RX10 80 yX10_isVerb wsX10_isVerb) := goodIn_app (goodIn_of _ (by decide +kernel)) ggX10_faultOf_X10_isVerb
theorem dX10_faultOf_0 : decode cX10_faultOf 0 = .ok (.iconst 0, 1) := by decide +kernel
theorem dX10_faultOf_1 : decode cX10_faultOf 1 = .ok (.istore_n 1, 1) := by decide +kernel
theorem dX10_faultOf_2 : decode cX10_faultOf 2 = .ok (.iconst 0, 1) := by decide +kernel
theorem dX10_faultOf_3 : decode cX10_faultOf 3 = .ok (.istore_n 2, 1) := by decide +kernel
theorem dX10_faultOf_4 : decode cX10_faultOf 4 = .ok (.iload_n 2, 1) := by decide +kernel
theorem dX10_faultOf_5 : decode cX10_faultOf 5 = .ok (.aload_n 0, 1) := by decide +kernel
theorem dX10_faultOf_6 : decode cX10_faultOf 6 = .ok (.getfield 77, 3) := by decide +kernel
theorem dX10_faultOf_9 : decode cX10_faultOf 9 = .ok (.if_icmp .ge 102, 3) := by decide +kernel
theorem dX10_faultOf_12 : decode cX10_faultOf 12 = .ok (.aload_n 0, 1) := by decide +kernel
theorem dX10_faultOf_13 : decode cX10_faultOf 13 = .ok (.getfield 28, 3) := by decide +kernel
theorem dX10_faultOf_16 : decode cX10_faultOf 16 = .ok (.iload_n 2, 1) := by decide +kernel
theorem dX10_faultOf_17 : decode cX10_faultOf 17 = .ok (.iaload, 1) := by decide +kernel
theorem dX10_faultOf_18 : decode cX10_faultOf 18 = .ok (.istore_n 3, 1) := by decide +kernel
theorem dX10_faultOf_19 : decode cX10_faultOf 19 = .ok (.iload_n 3, 1) := by decide +kernel
theorem dX10_faultOf_20 : decode cX10_faultOf 20 = .ok (.bipush 65, 2) := by decide +kernel
theorem dX10_faultOf_22 : decode cX10_faultOf 22 = .ok (.bipush 72, 2) := by decide +kernel
theorem dX10_faultOf_24 : decode cX10_faultOf 24 = .ok (.invokestatic 51, 3) := by decide +kernel
theorem dX10_faultOf_27 : decode cX10_faultOf 27 = .ok (.istore 4, 2) := by decide +kernel
theorem dX10_faultOf_29 : decode cX10_faultOf 29 = .ok (.iload_n 1, 1) := by decide +kernel
theorem dX10_faultOf_30 : decode cX10_faultOf 30 = .ok (.ifCond .ne 22, 3) := by decide +kernel
theorem dX10_faultOf_33 : decode cX10_faultOf 33 = .ok (.iload 4, 2) := by decide +kernel
theorem dX10_faultOf_35 : decode cX10_faultOf 35 = .ok (.ifCond .ne 9, 3) := by decide +kernel
theorem dX10_faultOf_38 : decode cX10_faultOf 38 = .ok (.iload_n 3, 1) := by decide +kernel
theorem dX10_faultOf_39 : decode cX10_faultOf 39 = .ok (.bipush 46, 2) := by decide +kernel
theorem dX10_faultOf_41 : decode cX10_faultOf 41 = .ok (.if_icmp .ne 7, 3) := by decide +kernel
theorem dX10_faultOf_44 : decode cX10_faultOf 44 = .ok (.iconst 1, 1) := by decide +kernel
theorem dX10_faultOf_45 : decode cX10_faultOf 45 = .ok (.goto 21, 3) := by decide +kernel
theorem dX10_faultOf_48 : decode cX10_faultOf 48 = .ok (.iconst 0, 1) := by decide +kernel
theorem dX10_faultOf_49 : decode cX10_faultOf 49 = .ok (.goto 17, 3) := by decide +kernel
theorem dX10_faultOf_52 : decode cX10_faultOf 52 = .ok (.iload_n 1, 1) := by decide +kernel
theorem dX10_faultOf_53 : decode cX10_faultOf 53 = .ok (.iconst 1, 1) := by decide +kernel
theorem dX10_faultOf_54 : decode cX10_faultOf 54 = .ok (.if_icmp .ne 10, 3) := by decide +kernel
theorem dX10_faultOf_57 : decode cX10_faultOf 57 = .ok (.iload_n 3, 1) := by decide +kernel
theorem dX10_faultOf_58 : decode cX10_faultOf 58 = .ok (.invokestatic 80, 3) := by decide +kernel
theorem dX10_faultOf_61 : decode cX10_faultOf 61 = .ok (.goto 5, 3) := by decide +kernel
theorem dX10_faultOf_64 : decode cX10_faultOf 64 = .ok (.iload 4, 2) := by decide +kernel
theorem dX10_faultOf_66 : decode cX10_faultOf 66 = .ok (.istore 5, 2) := by decide +kernel
theorem dX10_faultOf_68 : decode cX10_faultOf 68 = .ok (.iload 5, 2) := by decide +kernel
theorem dX10_faultOf_70 : decode cX10_faultOf 70 = .ok (.ifCond .ne 5, 3) := by decide +kernel
theorem dX10_faultOf_73 : decode cX10_faultOf 73 = .ok (.iload_n 2, 1) := by decide +kernel
theorem dX10_faultOf_74 : decode cX10_faultOf 74 = .ok (.ireturn, 1) := by decide +kernel
theorem dX10_faultOf_75 : decode cX10_faultOf 75 = .ok (.iload_n 1, 1) := by decide +kernel
theorem dX10_faultOf_76 : decode cX10_faultOf 76 = .ok (.ifCond .ne 12, 3) := by decide +kernel
theorem dX10_faultOf_79 : decode cX10_faultOf 79 = .ok (.iload 4, 2) := by decide +kernel
theorem dX10_faultOf_81 : decode cX10_faultOf 81 = .ok (.ifCond .eq 7, 3) := by decide +kernel
theorem dX10_faultOf_84 : decode cX10_faultOf 84 = .ok (.iconst 1, 1) := by decide +kernel
theorem dX10_faultOf_85 : decode cX10_faultOf 85 = .ok (.goto 19, 3) := by decide +kernel
theorem dX10_faultOf_88 : decode cX10_faultOf 88 = .ok (.iload_n 1, 1) := by decide +kernel
theorem dX10_faultOf_89 : decode cX10_faultOf 89 = .ok (.iconst 1, 1) := by decide +kernel
theorem dX10_faultOf_90 : decode cX10_faultOf 90 = .ok (.if_icmp .ne 13, 3) := by decide +kernel
theorem dX10_faultOf_93 : decode cX10_faultOf 93 = .ok (.iload_n 3, 1) := by decide +kernel
theorem dX10_faultOf_94 : decode cX10_faultOf 94 = .ok (.bipush 62, 2) := by decide +kernel
theorem dX10_faultOf_96 : decode cX10_faultOf 96 = .ok (.if_icmp .ne 7, 3) := by decide +kernel
theorem dX10_faultOf_99 : decode cX10_faultOf 99 = .ok (.iconst 2, 1) := by decide +kernel
theorem dX10_faultOf_100 : decode cX10_faultOf 100 = .ok (.goto 4, 3) := by decide +kernel
theorem dX10_faultOf_103 : decode cX10_faultOf 103 = .ok (.iconst 0, 1) := by decide +kernel
theorem dX10_faultOf_104 : decode cX10_faultOf 104 = .ok (.istore_n 1, 1) := by decide +kernel
theorem dX10_faultOf_105 : decode cX10_faultOf 105 = .ok (.iinc 2 1, 3) := by decide +kernel
theorem dX10_faultOf_108 : decode cX10_faultOf 108 = .ok (.goto (-104), 3) := by decide +kernel
theorem dX10_faultOf_111 : decode cX10_faultOf 111 = .ok (.iload_n 1, 1) := by decide +kernel
theorem dX10_faultOf_112 : decode cX10_faultOf 112 = .ok (.ifCond .ne 8, 3) := by decide +kernel
theorem dX10_faultOf_115 : decode cX10_faultOf 115 = .ok (.bipush (-6), 2) := by decide +kernel
theorem dX10_faultOf_117 : decode cX10_faultOf 117 = .ok (.goto 7, 3) := by decide +kernel
theorem dX10_faultOf_120 : decode cX10_faultOf 120 = .ok (.aload_n 0, 1) := by decide +kernel
theorem dX10_faultOf_121 : decode cX10_faultOf 121 = .ok (.getfield 77, 3) := by decide +kernel
theorem dX10_faultOf_124 : decode cX10_faultOf 124 = .ok (.ireturn, 1) := by decide +kernel
set_option maxRecDepth 20000 in
theorem ggX10_fault_X10_faultOf : GoodIn wsX10_fault wsX10_faultOf := goodIn_r _ [5, 6, 7, 8, 9, 4, 10, 11, 12, 13, 14, 15, 16, 17, 18, 19, 20, 21, 22, 23, 24, 25, 26, 27, 28, 29, 30, 31, 32, 33] (by decide +kernel) (by decide +kernel)
set_option maxRecDepth 20000 in
theorem gX10_fault_X10_faultOf : GoodIn wsX10_fault (wsV RX10 83 RX10 yX10_faultOf wsX10_faultOf) := goodIn_app (goodIn_of _ (by decide +kernel)) ggX10_fault_X10_faultOf
theorem dX10_fault_0 : decode cX10_fault 0 = .ok (.aload_n 0, 1) := by decide +kernel
theorem dX10_fault_1 : decode cX10_fault 1 = .ok (.invokevirtual 83, 3) := by decide +kernel
theorem dX10_fault_4 : decode cX10_fault 4 = .ok (.ireturn, 1) := by decide +kernel
theorem dX10_asNow_0 : decode cX10_asNow 0 = .ok (.iconst 0, 1) := by decide +kernel
theorem dX10_asNow_1 : decode cX10_asNow 1 = .ok (.istore_n 1, 1) := by decide +kernel
theorem dX10_asNow_2 : decode cX10_asNow 2 = .ok (.iload_n 1, 1) := by decide +kernel
theorem dX10_asNow_3 : decode cX10_asNow 3 = .ok (.bipush 43, 2) := by decide +kernel
theorem dX10_asNow_5 : decode cX10_asNow 5 = .ok (.if_icmp .ge 21, 3) := by decide +kernel
theorem dX10_asNow_8 : decode cX10_asNow 8 = .ok (.aload_n 0, 1) := by decide +kernel
theorem dX10_asNow_9 : decode cX10_asNow 9 = .ok (.getfield 13, 3) := by decide +kernel
theorem dX10_asNow_12 : decode cX10_asNow 12 = .ok (.iload_n 1, 1) := by decide +kernel
theorem dX10_asNow_13 : decode cX10_asNow 13 = .ok (.aload_n 0, 1) := by decide +kernel
theorem dX10_asNow_14 : decode cX10_asNow 14 = .ok (.getfield 7, 3) := by decide +kernel
theorem dX10_asNow_17 : decode cX10_asNow 17 = .ok (.iload_n 1, 1) := by decide +kernel
theorem dX10_asNow_18 : decode cX10_asNow 18 = .ok (.iaload, 1) := by decide +kernel
theorem dX10_asNow_19 : decode cX10_asNow 19 = .ok (.iastore, 1) := by decide +kernel
theorem dX10_asNow_20 : decode cX10_asNow 20 = .ok (.iinc 1 1, 3) := by decide +kernel
theorem dX10_asNow_23 : decode cX10_asNow 23 = .ok (.goto (-21), 3) := by decide +kernel
theorem dX10_asNow_26 : decode cX10_asNow 26 = .ok (.aload_n 0, 1) := by decide +kernel
theorem dX10_asNow_27 : decode cX10_asNow 27 = .ok (.bipush (-6), 2) := by decide +kernel
theorem dX10_asNow_29 : decode cX10_asNow 29 = .ok (.putfield 87, 3) := by decide +kernel
theorem dX10_asNow_32 : decode cX10_asNow 32 = .ok (.aload_n 0, 1) := by decide +kernel
theorem dX10_asNow_33 : decode cX10_asNow 33 = .ok (.bipush (-6), 2) := by decide +kernel
theorem dX10_asNow_35 : decode cX10_asNow 35 = .ok (.putfield 90, 3) := by decide +kernel
theorem dX10_asNow_38 : decode cX10_asNow 38 = .ok (.return_, 1) := by decide +kernel
set_option maxRecDepth 20000 in
theorem ggX10_stands_X10_has : GoodIn wsX10_stands wsX10_has := goodIn_r _ [5] (by decide +kernel) (by decide +kernel)
set_option maxRecDepth 20000 in
theorem gX10_stands_X10_has : GoodIn wsX10_stands (va_wsS RX10 55 yX10_has wsX10_has) := goodIn_app (goodIn_of _ (by decide +kernel)) ggX10_stands_X10_has
theorem dX10_stands_0 : decode cX10_stands 0 = .ok (.aload_n 0, 1) := by decide +kernel
theorem dX10_stands_1 : decode cX10_stands 1 = .ok (.getfield 13, 3) := by decide +kernel
theorem dX10_stands_4 : decode cX10_stands 4 = .ok (.bipush 40, 2) := by decide +kernel
theorem dX10_stands_6 : decode cX10_stands 6 = .ok (.iaload, 1) := by decide +kernel
theorem dX10_stands_7 : decode cX10_stands 7 = .ok (.iload_n 1, 1) := by decide +kernel
theorem dX10_stands_8 : decode cX10_stands 8 = .ok (.invokestatic 55, 3) := by decide +kernel
theorem dX10_stands_11 : decode cX10_stands 11 = .ok (.ireturn, 1) := by decide +kernel
theorem dX10_isFree_0 : decode cX10_isFree 0 = .ok (.aload_n 0, 1) := by decide +kernel
theorem dX10_isFree_1 : decode cX10_isFree 1 = .ok (.getfield 13, 3) := by decide +kernel
theorem dX10_isFree_4 : decode cX10_isFree 4 = .ok (.iload_n 1, 1) := by decide +kernel
theorem dX10_isFree_5 : decode cX10_isFree 5 = .ok (.iaload, 1) := by decide +kernel
theorem dX10_isFree_6 : decode cX10_isFree 6 = .ok (.ifCond .ne 7, 3) := by decide +kernel
theorem dX10_isFree_9 : decode cX10_isFree 9 = .ok (.iconst 1, 1) := by decide +kernel
theorem dX10_isFree_10 : decode cX10_isFree 10 = .ok (.goto 4, 3) := by decide +kernel
theorem dX10_isFree_13 : decode cX10_isFree 13 = .ok (.iconst 0, 1) := by decide +kernel
theorem dX10_isFree_14 : decode cX10_isFree 14 = .ok (.ireturn, 1) := by decide +kernel
set_option maxRecDepth 20000 in
theorem ggX10_freeOnes_X10_stands : GoodIn wsX10_freeOnes wsX10_stands := goodIn_r _ [5, 6, 7, 8, 4, 9, 14, 15, 16, 17, 18, 19, 20, 21, 22, 23, 24, 25, 26, 27, 28, 29, 30, 31, 32, 33] (by decide +kernel) (by decide +kernel)
set_option maxRecDepth 20000 in
theorem gX10_freeOnes_X10_stands : GoodIn wsX10_freeOnes (wsV RX10 93 RX10 yX10_stands wsX10_stands) := goodIn_app (goodIn_of _ (by decide +kernel)) ggX10_freeOnes_X10_stands
set_option maxRecDepth 20000 in
theorem ggX10_freeOnes_X10_isFree : GoodIn wsX10_freeOnes wsX10_isFree := goodIn_r _ [13, 6, 14, 15, 16, 17, 18, 19, 20, 21, 22, 23, 24, 25, 26, 27, 28, 29, 30, 31, 32, 33] (by decide +kernel) (by decide +kernel)
set_option maxRecDepth 20000 in
theorem gX10_freeOnes_X10_isFree : GoodIn wsX10_freeOnes (wsV RX10 96 RX10 yX10_isFree wsX10_isFree) := goodIn_app (goodIn_of _ (by decide +kernel)) ggX10_freeOnes_X10_isFree
theorem dX10_freeOnes_0 : decode cX10_freeOnes 0 = .ok (.iconst 0, 1) := by decide +kernel
theorem dX10_freeOnes_1 : decode cX10_freeOnes 1 = .ok (.istore_n 1, 1) := by decide +kernel
theorem dX10_freeOnes_2 : decode cX10_freeOnes 2 = .ok (.iconst 0, 1) := by decide +kernel
theorem dX10_freeOnes_3 : decode cX10_freeOnes 3 = .ok (.istore_n 2, 1) := by decide +kernel
theorem dX10_freeOnes_4 : decode cX10_freeOnes 4 = .ok (.iload_n 2, 1) := by decide +kernel
theorem dX10_freeOnes_5 : decode cX10_freeOnes 5 = .ok (.bipush 8, 2) := by decide +kernel
theorem dX10_freeOnes_7 : decode cX10_freeOnes 7 = .ok (.if_icmp .ge 35, 3) := by decide +kernel
theorem dX10_freeOnes_10 : decode cX10_freeOnes 10 = .ok (.iload_n 1, 1) := by decide +kernel
theorem dX10_freeOnes_11 : decode cX10_freeOnes 11 = .ok (.aload_n 0, 1) := by decide +kernel
theorem dX10_freeOnes_12 : decode cX10_freeOnes 12 = .ok (.iload_n 2, 1) := by decide +kernel
theorem dX10_freeOnes_13 : decode cX10_freeOnes 13 = .ok (.invokevirtual 93, 3) := by decide +kernel
theorem dX10_freeOnes_16 : decode cX10_freeOnes 16 = .ok (.ifCond .eq 17, 3) := by decide +kernel
theorem dX10_freeOnes_19 : decode cX10_freeOnes 19 = .ok (.aload_n 0, 1) := by decide +kernel
theorem dX10_freeOnes_20 : decode cX10_freeOnes 20 = .ok (.iload_n 2, 1) := by decide +kernel
theorem dX10_freeOnes_21 : decode cX10_freeOnes 21 = .ok (.invokevirtual 96, 3) := by decide +kernel
theorem dX10_freeOnes_24 : decode cX10_freeOnes 24 = .ok (.ifCond .eq 9, 3) := by decide +kernel
theorem dX10_freeOnes_27 : decode cX10_freeOnes 27 = .ok (.iconst 1, 1) := by decide +kernel
theorem dX10_freeOnes_28 : decode cX10_freeOnes 28 = .ok (.iload_n 2, 1) := by decide +kernel
theorem dX10_freeOnes_29 : decode cX10_freeOnes 29 = .ok (.ishl, 1) := by decide +kernel
theorem dX10_freeOnes_30 : decode cX10_freeOnes 30 = .ok (.goto 4, 3) := by decide +kernel
theorem dX10_freeOnes_33 : decode cX10_freeOnes 33 = .ok (.iconst 0, 1) := by decide +kernel
theorem dX10_freeOnes_34 : decode cX10_freeOnes 34 = .ok (.ior, 1) := by decide +kernel
theorem dX10_freeOnes_35 : decode cX10_freeOnes 35 = .ok (.istore_n 1, 1) := by decide +kernel
theorem dX10_freeOnes_36 : decode cX10_freeOnes 36 = .ok (.iinc 2 1, 3) := by decide +kernel
theorem dX10_freeOnes_39 : decode cX10_freeOnes 39 = .ok (.goto (-35), 3) := by decide +kernel
theorem dX10_freeOnes_42 : decode cX10_freeOnes 42 = .ok (.iload_n 1, 1) := by decide +kernel
theorem dX10_freeOnes_43 : decode cX10_freeOnes 43 = .ok (.ireturn, 1) := by decide +kernel
set_option maxRecDepth 20000 in
theorem ggX10_snow_X10_stands : GoodIn wsX10_snow wsX10_stands := goodIn_r _ [6, 1, 7, 8, 5, 9, 10, 11, 12, 13, 14, 15, 16, 17, 18, 19, 20, 21, 22, 23, 24, 25, 26, 27, 28, 29] (by decide +kernel) (by decide +kernel)
set_option maxRecDepth 20000 in
theorem gX10_snow_X10_stands : GoodIn wsX10_snow (wsV RX10 93 RX10 yX10_stands wsX10_stands) := goodIn_app (goodIn_of _ (by decide +kernel)) ggX10_snow_X10_stands
theorem dX10_snow_0 : decode cX10_snow 0 = .ok (.iconst 0, 1) := by decide +kernel
theorem dX10_snow_1 : decode cX10_snow 1 = .ok (.istore_n 1, 1) := by decide +kernel
theorem dX10_snow_2 : decode cX10_snow 2 = .ok (.iconst 0, 1) := by decide +kernel
theorem dX10_snow_3 : decode cX10_snow 3 = .ok (.istore_n 2, 1) := by decide +kernel
theorem dX10_snow_4 : decode cX10_snow 4 = .ok (.iload_n 2, 1) := by decide +kernel
theorem dX10_snow_5 : decode cX10_snow 5 = .ok (.bipush 8, 2) := by decide +kernel
theorem dX10_snow_7 : decode cX10_snow 7 = .ok (.if_icmp .ge 39, 3) := by decide +kernel
theorem dX10_snow_10 : decode cX10_snow 10 = .ok (.iload_n 1, 1) := by decide +kernel
theorem dX10_snow_11 : decode cX10_snow 11 = .ok (.aload_n 0, 1) := by decide +kernel
theorem dX10_snow_12 : decode cX10_snow 12 = .ok (.iload_n 2, 1) := by decide +kernel
theorem dX10_snow_13 : decode cX10_snow 13 = .ok (.invokevirtual 93, 3) := by decide +kernel
theorem dX10_snow_16 : decode cX10_snow 16 = .ok (.ifCond .eq 21, 3) := by decide +kernel
theorem dX10_snow_19 : decode cX10_snow 19 = .ok (.aload_n 0, 1) := by decide +kernel
theorem dX10_snow_20 : decode cX10_snow 20 = .ok (.getfield 13, 3) := by decide +kernel
theorem dX10_snow_23 : decode cX10_snow 23 = .ok (.bipush 8, 2) := by decide +kernel
theorem dX10_snow_25 : decode cX10_snow 25 = .ok (.iload_n 2, 1) := by decide +kernel
theorem dX10_snow_26 : decode cX10_snow 26 = .ok (.iadd, 1) := by decide +kernel
theorem dX10_snow_27 : decode cX10_snow 27 = .ok (.iaload, 1) := by decide +kernel
theorem dX10_snow_28 : decode cX10_snow 28 = .ok (.ifCond .le 9, 3) := by decide +kernel
theorem dX10_snow_31 : decode cX10_snow 31 = .ok (.iconst 1, 1) := by decide +kernel
theorem dX10_snow_32 : decode cX10_snow 32 = .ok (.iload_n 2, 1) := by decide +kernel
theorem dX10_snow_33 : decode cX10_snow 33 = .ok (.ishl, 1) := by decide +kernel
theorem dX10_snow_34 : decode cX10_snow 34 = .ok (.goto 4, 3) := by decide +kernel
theorem dX10_snow_37 : decode cX10_snow 37 = .ok (.iconst 0, 1) := by decide +kernel
theorem dX10_snow_38 : decode cX10_snow 38 = .ok (.ior, 1) := by decide +kernel
theorem dX10_snow_39 : decode cX10_snow 39 = .ok (.istore_n 1, 1) := by decide +kernel
theorem dX10_snow_40 : decode cX10_snow 40 = .ok (.iinc 2 1, 3) := by decide +kernel
theorem dX10_snow_43 : decode cX10_snow 43 = .ok (.goto (-39), 3) := by decide +kernel
theorem dX10_snow_46 : decode cX10_snow 46 = .ok (.iload_n 1, 1) := by decide +kernel
theorem dX10_snow_47 : decode cX10_snow 47 = .ok (.ireturn, 1) := by decide +kernel
set_option maxRecDepth 20000 in
theorem ggX10_shake_X10_stands : GoodIn wsX10_shake wsX10_stands := goodIn_r _ [7, 1, 8, 9, 6, 10, 19, 20, 21, 22, 23, 24, 25, 26, 27, 28, 29, 30, 31, 32, 33, 34, 35, 36, 37, 38] (by decide +kernel) (by decide +kernel)
set_option maxRecDepth 20000 in
theorem gX10_shake_X10_stands : GoodIn wsX10_shake (wsV RX10 93 RX10 yX10_stands wsX10_stands) := goodIn_app (goodIn_of _ (by decide +kernel)) ggX10_shake_X10_stands
set_option maxRecDepth 20000 in
theorem ggX10_shake_X10_isFree : GoodIn wsX10_shake wsX10_isFree := goodIn_r _ [14, 1, 19, 20, 21, 22, 23, 24, 25, 26, 27, 28, 29, 30, 31, 32, 33, 34, 35, 36, 37, 38] (by decide +kernel) (by decide +kernel)
set_option maxRecDepth 20000 in
theorem gX10_shake_X10_isFree : GoodIn wsX10_shake (wsV RX10 96 RX10 yX10_isFree wsX10_isFree) := goodIn_app (goodIn_of _ (by decide +kernel)) ggX10_shake_X10_isFree
set_option maxRecDepth 20000 in
theorem ggX10_shake_X10_isWithin : GoodIn wsX10_shake wsX10_isWithin := goodIn_r _ [18, 1, 19, 20, 21, 22, 23, 24, 25, 26, 27, 28, 29, 30, 31, 32, 33, 34, 35, 36, 37, 38] (by decide +kernel) (by decide +kernel)
set_option maxRecDepth 20000 in
theorem gX10_shake_X10_isWithin : GoodIn wsX10_shake (wsV RX10 74 RX10 yX10_isWithin wsX10_isWithin) := goodIn_app (goodIn_of _ (by decide +kernel)) ggX10_shake_X10_isWithin
theorem dX10_shake_0 : decode cX10_shake 0 = .ok (.aload_n 0, 1) := by decide +kernel
theorem dX10_shake_1 : decode cX10_shake 1 = .ok (.iload_n 1, 1) := by decide +kernel
theorem dX10_shake_2 : decode cX10_shake 2 = .ok (.invokevirtual 93, 3) := by decide +kernel
theorem dX10_shake_5 : decode cX10_shake 5 = .ok (.ifCond .ne 5, 3) := by decide +kernel
theorem dX10_shake_8 : decode cX10_shake 8 = .ok (.iconst 1, 1) := by decide +kernel
theorem dX10_shake_9 : decode cX10_shake 9 = .ok (.ireturn, 1) := by decide +kernel
theorem dX10_shake_10 : decode cX10_shake 10 = .ok (.aload_n 0, 1) := by decide +kernel
theorem dX10_shake_11 : decode cX10_shake 11 = .ok (.iload_n 1, 1) := by decide +kernel
theorem dX10_shake_12 : decode cX10_shake 12 = .ok (.invokevirtual 96, 3) := by decide +kernel
theorem dX10_shake_15 : decode cX10_shake 15 = .ok (.ifCond .eq 5, 3) := by decide +kernel
theorem dX10_shake_18 : decode cX10_shake 18 = .ok (.iconst 2, 1) := by decide +kernel
theorem dX10_shake_19 : decode cX10_shake 19 = .ok (.ireturn, 1) := by decide +kernel
theorem dX10_shake_20 : decode cX10_shake 20 = .ok (.iconst 0, 1) := by decide +kernel
theorem dX10_shake_21 : decode cX10_shake 21 = .ok (.istore_n 3, 1) := by decide +kernel
theorem dX10_shake_22 : decode cX10_shake 22 = .ok (.iload_n 3, 1) := by decide +kernel
theorem dX10_shake_23 : decode cX10_shake 23 = .ok (.bipush 8, 2) := by decide +kernel
theorem dX10_shake_25 : decode cX10_shake 25 = .ok (.if_icmp .ge 100, 3) := by decide +kernel
theorem dX10_shake_28 : decode cX10_shake 28 = .ok (.aload_n 0, 1) := by decide +kernel
theorem dX10_shake_29 : decode cX10_shake 29 = .ok (.iload_n 3, 1) := by decide +kernel
theorem dX10_shake_30 : decode cX10_shake 30 = .ok (.invokevirtual 93, 3) := by decide +kernel
theorem dX10_shake_33 : decode cX10_shake 33 = .ok (.ifCond .eq 86, 3) := by decide +kernel
theorem dX10_shake_36 : decode cX10_shake 36 = .ok (.aload_n 0, 1) := by decide +kernel
theorem dX10_shake_37 : decode cX10_shake 37 = .ok (.iload_n 3, 1) := by decide +kernel
theorem dX10_shake_38 : decode cX10_shake 38 = .ok (.invokevirtual 96, 3) := by decide +kernel
theorem dX10_shake_41 : decode cX10_shake 41 = .ok (.ifCond .ne 78, 3) := by decide +kernel
theorem dX10_shake_44 : decode cX10_shake 44 = .ok (.aload_n 0, 1) := by decide +kernel
theorem dX10_shake_45 : decode cX10_shake 45 = .ok (.iload_n 3, 1) := by decide +kernel
theorem dX10_shake_46 : decode cX10_shake 46 = .ok (.iload_n 1, 1) := by decide +kernel
theorem dX10_shake_47 : decode cX10_shake 47 = .ok (.invokevirtual 74, 3) := by decide +kernel
theorem dX10_shake_50 : decode cX10_shake 50 = .ok (.ifCond .eq 69, 3) := by decide +kernel
theorem dX10_shake_53 : decode cX10_shake 53 = .ok (.aload_n 0, 1) := by decide +kernel
theorem dX10_shake_54 : decode cX10_shake 54 = .ok (.getfield 13, 3) := by decide +kernel
theorem dX10_shake_57 : decode cX10_shake 57 = .ok (.bipush 8, 2) := by decide +kernel
theorem dX10_shake_59 : decode cX10_shake 59 = .ok (.iload_n 3, 1) := by decide +kernel
theorem dX10_shake_60 : decode cX10_shake 60 = .ok (.iadd, 1) := by decide +kernel
theorem dX10_shake_61 : decode cX10_shake 61 = .ok (.iaload, 1) := by decide +kernel
theorem dX10_shake_62 : decode cX10_shake 62 = .ok (.bipush 10, 2) := by decide +kernel
theorem dX10_shake_64 : decode cX10_shake 64 = .ok (.iload_n 2, 1) := by decide +kernel
theorem dX10_shake_65 : decode cX10_shake 65 = .ok (.imul, 1) := by decide +kernel
theorem dX10_shake_66 : decode cX10_shake 66 = .ok (.iadd, 1) := by decide +kernel
theorem dX10_shake_67 : decode cX10_shake 67 = .ok (.istore 4, 2) := by decide +kernel
theorem dX10_shake_69 : decode cX10_shake 69 = .ok (.aload_n 0, 1) := by decide +kernel
theorem dX10_shake_70 : decode cX10_shake 70 = .ok (.getfield 13, 3) := by decide +kernel
theorem dX10_shake_73 : decode cX10_shake 73 = .ok (.bipush 8, 2) := by decide +kernel
theorem dX10_shake_75 : decode cX10_shake 75 = .ok (.iload_n 3, 1) := by decide +kernel
theorem dX10_shake_76 : decode cX10_shake 76 = .ok (.iadd, 1) := by decide +kernel
theorem dX10_shake_77 : decode cX10_shake 77 = .ok (.iload 4, 2) := by decide +kernel
theorem dX10_shake_79 : decode cX10_shake 79 = .ok (.aload_n 0, 1) := by decide +kernel
theorem dX10_shake_80 : decode cX10_shake 80 = .ok (.getfield 16, 3) := by decide +kernel
theorem dX10_shake_83 : decode cX10_shake 83 = .ok (.iload_n 3, 1) := by decide +kernel
theorem dX10_shake_84 : decode cX10_shake 84 = .ok (.iaload, 1) := by decide +kernel
theorem dX10_shake_85 : decode cX10_shake 85 = .ok (.if_icmp .le 12, 3) := by decide +kernel
theorem dX10_shake_88 : decode cX10_shake 88 = .ok (.aload_n 0, 1) := by decide +kernel
theorem dX10_shake_89 : decode cX10_shake 89 = .ok (.getfield 16, 3) := by decide +kernel
theorem dX10_shake_92 : decode cX10_shake 92 = .ok (.iload_n 3, 1) := by decide +kernel
theorem dX10_shake_93 : decode cX10_shake 93 = .ok (.iaload, 1) := by decide +kernel
theorem dX10_shake_94 : decode cX10_shake 94 = .ok (.goto 5, 3) := by decide +kernel
theorem dX10_shake_97 : decode cX10_shake 97 = .ok (.iload 4, 2) := by decide +kernel
theorem dX10_shake_99 : decode cX10_shake 99 = .ok (.iastore, 1) := by decide +kernel
theorem dX10_shake_100 : decode cX10_shake 100 = .ok (.aload_n 0, 1) := by decide +kernel
theorem dX10_shake_101 : decode cX10_shake 101 = .ok (.getfield 13, 3) := by decide +kernel
theorem dX10_shake_104 : decode cX10_shake 104 = .ok (.bipush 41, 2) := by decide +kernel
theorem dX10_shake_106 : decode cX10_shake 106 = .ok (.dup2, 1) := by decide +kernel
theorem dX10_shake_107 : decode cX10_shake 107 = .ok (.iaload, 1) := by decide +kernel
theorem dX10_shake_108 : decode cX10_shake 108 = .ok (.aload_n 0, 1) := by decide +kernel
theorem dX10_shake_109 : decode cX10_shake 109 = .ok (.getfield 13, 3) := by decide +kernel
theorem dX10_shake_112 : decode cX10_shake 112 = .ok (.bipush 24, 2) := by decide +kernel
theorem dX10_shake_114 : decode cX10_shake 114 = .ok (.iload_n 3, 1) := by decide +kernel
theorem dX10_shake_115 : decode cX10_shake 115 = .ok (.iadd, 1) := by decide +kernel
theorem dX10_shake_116 : decode cX10_shake 116 = .ok (.iaload, 1) := by decide +kernel
theorem dX10_shake_117 : decode cX10_shake 117 = .ok (.iadd, 1) := by decide +kernel
theorem dX10_shake_118 : decode cX10_shake 118 = .ok (.iastore, 1) := by decide +kernel
theorem dX10_shake_119 : decode cX10_shake 119 = .ok (.iinc 3 1, 3) := by decide +kernel
theorem dX10_shake_122 : decode cX10_shake 122 = .ok (.goto (-100), 3) := by decide +kernel
theorem dX10_shake_125 : decode cX10_shake 125 = .ok (.iconst 0, 1) := by decide +kernel
theorem dX10_shake_126 : decode cX10_shake 126 = .ok (.ireturn, 1) := by decide +kernel
set_option maxRecDepth 20000 in
theorem ggX10_pour_X10_stands : GoodIn wsX10_pour wsX10_stands := goodIn_r _ [6, 1, 7, 8, 5, 9, 10, 11, 12, 13, 14, 15, 16, 17, 18, 19, 20, 21, 22, 23, 24, 25, 26, 27, 28, 29] (by decide +kernel) (by decide +kernel)
set_option maxRecDepth 20000 in
theorem gX10_pour_X10_stands : GoodIn wsX10_pour (wsV RX10 93 RX10 yX10_stands wsX10_stands) := goodIn_app (goodIn_of _ (by decide +kernel)) ggX10_pour_X10_stands
theorem dX10_pour_0 : decode cX10_pour 0 = .ok (.aload_n 0, 1) := by decide +kernel
theorem dX10_pour_1 : decode cX10_pour 1 = .ok (.iload_n 1, 1) := by decide +kernel
theorem dX10_pour_2 : decode cX10_pour 2 = .ok (.invokevirtual 93, 3) := by decide +kernel
theorem dX10_pour_5 : decode cX10_pour 5 = .ok (.ifCond .ne 5, 3) := by decide +kernel
theorem dX10_pour_8 : decode cX10_pour 8 = .ok (.iconst 1, 1) := by decide +kernel
theorem dX10_pour_9 : decode cX10_pour 9 = .ok (.ireturn, 1) := by decide +kernel
theorem dX10_pour_10 : decode cX10_pour 10 = .ok (.aload_n 0, 1) := by decide +kernel
theorem dX10_pour_11 : decode cX10_pour 11 = .ok (.getfield 13, 3) := by decide +kernel
theorem dX10_pour_14 : decode cX10_pour 14 = .ok (.iload_n 1, 1) := by decide +kernel
theorem dX10_pour_15 : decode cX10_pour 15 = .ok (.iaload, 1) := by decide +kernel
theorem dX10_pour_16 : decode cX10_pour 16 = .ok (.bipush 99, 2) := by decide +kernel
theorem dX10_pour_18 : decode cX10_pour 18 = .ok (.if_icmp .ne 5, 3) := by decide +kernel
theorem dX10_pour_21 : decode cX10_pour 21 = .ok (.iconst 5, 1) := by decide +kernel
theorem dX10_pour_22 : decode cX10_pour 22 = .ok (.ireturn, 1) := by decide +kernel
theorem dX10_pour_23 : decode cX10_pour 23 = .ok (.aload_n 0, 1) := by decide +kernel
theorem dX10_pour_24 : decode cX10_pour 24 = .ok (.getfield 13, 3) := by decide +kernel
theorem dX10_pour_27 : decode cX10_pour 27 = .ok (.iload_n 1, 1) := by decide +kernel
theorem dX10_pour_28 : decode cX10_pour 28 = .ok (.bipush 99, 2) := by decide +kernel
theorem dX10_pour_30 : decode cX10_pour 30 = .ok (.iastore, 1) := by decide +kernel
theorem dX10_pour_31 : decode cX10_pour 31 = .ok (.aload_n 0, 1) := by decide +kernel
theorem dX10_pour_32 : decode cX10_pour 32 = .ok (.getfield 13, 3) := by decide +kernel
theorem dX10_pour_35 : decode cX10_pour 35 = .ok (.bipush 16, 2) := by decide +kernel
theorem dX10_pour_37 : decode cX10_pour 37 = .ok (.iload_n 1, 1) := by decide +kernel
theorem dX10_pour_38 : decode cX10_pour 38 = .ok (.iadd, 1) := by decide +kernel
theorem dX10_pour_39 : decode cX10_pour 39 = .ok (.dup2, 1) := by decide +kernel
theorem dX10_pour_40 : decode cX10_pour 40 = .ok (.iaload, 1) := by decide +kernel
theorem dX10_pour_41 : decode cX10_pour 41 = .ok (.aload_n 0, 1) := by decide +kernel
theorem dX10_pour_42 : decode cX10_pour 42 = .ok (.getfield 13, 3) := by decide +kernel
theorem dX10_pour_45 : decode cX10_pour 45 = .ok (.bipush 16, 2) := by decide +kernel
theorem dX10_pour_47 : decode cX10_pour 47 = .ok (.iload_n 1, 1) := by decide +kernel
theorem dX10_pour_48 : decode cX10_pour 48 = .ok (.iadd, 1) := by decide +kernel
theorem dX10_pour_49 : decode cX10_pour 49 = .ok (.iaload, 1) := by decide +kernel
theorem dX10_pour_50 : decode cX10_pour 50 = .ok (.bipush 9, 2) := by decide +kernel
theorem dX10_pour_52 : decode cX10_pour 52 = .ok (.if_icmp .ge 7, 3) := by decide +kernel
theorem dX10_pour_55 : decode cX10_pour 55 = .ok (.iload_n 2, 1) := by decide +kernel
theorem dX10_pour_56 : decode cX10_pour 56 = .ok (.goto 4, 3) := by decide +kernel
theorem dX10_pour_59 : decode cX10_pour 59 = .ok (.iconst 0, 1) := by decide +kernel
theorem dX10_pour_60 : decode cX10_pour 60 = .ok (.iadd, 1) := by decide +kernel
theorem dX10_pour_61 : decode cX10_pour 61 = .ok (.iastore, 1) := by decide +kernel
theorem dX10_pour_62 : decode cX10_pour 62 = .ok (.iconst 0, 1) := by decide +kernel
theorem dX10_pour_63 : decode cX10_pour 63 = .ok (.ireturn, 1) := by decide +kernel
set_option maxRecDepth 20000 in
theorem ggX10_wipeOff_X10_stands : GoodIn wsX10_wipeOff wsX10_stands := goodIn_r _ [6, 1, 7, 8, 5, 9, 10, 11, 12, 13, 14, 15, 16, 17, 18, 19, 20, 21, 22, 23, 24, 25, 26, 27, 28, 29] (by decide +kernel) (by decide +kernel)
set_option maxRecDepth 20000 in
theorem gX10_wipeOff_X10_stands : GoodIn wsX10_wipeOff (wsV RX10 93 RX10 yX10_stands wsX10_stands) := goodIn_app (goodIn_of _ (by decide +kernel)) ggX10_wipeOff_X10_stands
theorem dX10_wipeOff_0 : decode cX10_wipeOff 0 = .ok (.aload_n 0, 1) := by decide +kernel
theorem dX10_wipeOff_1 : decode cX10_wipeOff 1 = .ok (.iload_n 1, 1) := by decide +kernel
theorem dX10_wipeOff_2 : decode cX10_wipeOff 2 = .ok (.invokevirtual 93, 3) := by decide +kernel
theorem dX10_wipeOff_5 : decode cX10_wipeOff 5 = .ok (.ifCond .ne 5, 3) := by decide +kernel
theorem dX10_wipeOff_8 : decode cX10_wipeOff 8 = .ok (.iconst 1, 1) := by decide +kernel
theorem dX10_wipeOff_9 : decode cX10_wipeOff 9 = .ok (.ireturn, 1) := by decide +kernel
theorem dX10_wipeOff_10 : decode cX10_wipeOff 10 = .ok (.aload_n 0, 1) := by decide +kernel
theorem dX10_wipeOff_11 : decode cX10_wipeOff 11 = .ok (.getfield 13, 3) := by decide +kernel
theorem dX10_wipeOff_14 : decode cX10_wipeOff 14 = .ok (.bipush 16, 2) := by decide +kernel
theorem dX10_wipeOff_16 : decode cX10_wipeOff 16 = .ok (.iload_n 1, 1) := by decide +kernel
theorem dX10_wipeOff_17 : decode cX10_wipeOff 17 = .ok (.iadd, 1) := by decide +kernel
theorem dX10_wipeOff_18 : decode cX10_wipeOff 18 = .ok (.iaload, 1) := by decide +kernel
theorem dX10_wipeOff_19 : decode cX10_wipeOff 19 = .ok (.ifCond .ne 5, 3) := by decide +kernel
theorem dX10_wipeOff_22 : decode cX10_wipeOff 22 = .ok (.iconst 5, 1) := by decide +kernel
theorem dX10_wipeOff_23 : decode cX10_wipeOff 23 = .ok (.ireturn, 1) := by decide +kernel
theorem dX10_wipeOff_24 : decode cX10_wipeOff 24 = .ok (.aload_n 0, 1) := by decide +kernel
theorem dX10_wipeOff_25 : decode cX10_wipeOff 25 = .ok (.getfield 13, 3) := by decide +kernel
theorem dX10_wipeOff_28 : decode cX10_wipeOff 28 = .ok (.bipush 16, 2) := by decide +kernel
theorem dX10_wipeOff_30 : decode cX10_wipeOff 30 = .ok (.iload_n 1, 1) := by decide +kernel
theorem dX10_wipeOff_31 : decode cX10_wipeOff 31 = .ok (.iadd, 1) := by decide +kernel
theorem dX10_wipeOff_32 : decode cX10_wipeOff 32 = .ok (.iconst 0, 1) := by decide +kernel
theorem dX10_wipeOff_33 : decode cX10_wipeOff 33 = .ok (.iastore, 1) := by decide +kernel
theorem dX10_wipeOff_34 : decode cX10_wipeOff 34 = .ok (.iconst 0, 1) := by decide +kernel
theorem dX10_wipeOff_35 : decode cX10_wipeOff 35 = .ok (.ireturn, 1) := by decide +kernel
set_option maxRecDepth 20000 in
theorem ggX10_move_X10_stands : GoodIn wsX10_move wsX10_stands := goodIn_r _ [6, 1, 7, 8, 5, 9, 14, 15, 16, 17, 18, 19, 20, 21, 22, 23, 24, 25, 26, 27, 28, 29, 30, 31, 32, 33] (by decide +kernel) (by decide +kernel)
set_option maxRecDepth 20000 in
theorem gX10_move_X10_stands : GoodIn wsX10_move (wsV RX10 93 RX10 yX10_stands wsX10_stands) := goodIn_app (goodIn_of _ (by decide +kernel)) ggX10_move_X10_stands
set_option maxRecDepth 20000 in
theorem ggX10_move_X10_isWithin : GoodIn wsX10_move wsX10_isWithin := goodIn_r _ [13, 1, 14, 15, 16, 17, 18, 19, 20, 21, 22, 23, 24, 25, 26, 27, 28, 29, 30, 31, 32, 33] (by decide +kernel) (by decide +kernel)
set_option maxRecDepth 20000 in
theorem gX10_move_X10_isWithin : GoodIn wsX10_move (wsV RX10 74 RX10 yX10_isWithin wsX10_isWithin) := goodIn_app (goodIn_of _ (by decide +kernel)) ggX10_move_X10_isWithin
theorem dX10_move_0 : decode cX10_move 0 = .ok (.aload_n 0, 1) := by decide +kernel
theorem dX10_move_1 : decode cX10_move 1 = .ok (.iload_n 1, 1) := by decide +kernel
theorem dX10_move_2 : decode cX10_move 2 = .ok (.invokevirtual 93, 3) := by decide +kernel
theorem dX10_move_5 : decode cX10_move 5 = .ok (.ifCond .eq 15, 3) := by decide +kernel
theorem dX10_move_8 : decode cX10_move 8 = .ok (.iload_n 2, 1) := by decide +kernel
theorem dX10_move_9 : decode cX10_move 9 = .ok (.ifCond .lt 13, 3) := by decide +kernel
theorem dX10_move_12 : decode cX10_move 12 = .ok (.aload_n 0, 1) := by decide +kernel
theorem dX10_move_13 : decode cX10_move 13 = .ok (.iload_n 2, 1) := by decide +kernel
theorem dX10_move_14 : decode cX10_move 14 = .ok (.invokevirtual 93, 3) := by decide +kernel
theorem dX10_move_17 : decode cX10_move 17 = .ok (.ifCond .ne 5, 3) := by decide +kernel
theorem dX10_move_20 : decode cX10_move 20 = .ok (.iconst 1, 1) := by decide +kernel
theorem dX10_move_21 : decode cX10_move 21 = .ok (.ireturn, 1) := by decide +kernel
theorem dX10_move_22 : decode cX10_move 22 = .ok (.aload_n 0, 1) := by decide +kernel
theorem dX10_move_23 : decode cX10_move 23 = .ok (.getfield 13, 3) := by decide +kernel
theorem dX10_move_26 : decode cX10_move 26 = .ok (.bipush 32, 2) := by decide +kernel
theorem dX10_move_28 : decode cX10_move 28 = .ok (.iload_n 1, 1) := by decide +kernel
theorem dX10_move_29 : decode cX10_move 29 = .ok (.iadd, 1) := by decide +kernel
theorem dX10_move_30 : decode cX10_move 30 = .ok (.iaload, 1) := by decide +kernel
theorem dX10_move_31 : decode cX10_move 31 = .ok (.iload_n 2, 1) := by decide +kernel
theorem dX10_move_32 : decode cX10_move 32 = .ok (.if_icmp .ne 5, 3) := by decide +kernel
theorem dX10_move_35 : decode cX10_move 35 = .ok (.iconst 3, 1) := by decide +kernel
theorem dX10_move_36 : decode cX10_move 36 = .ok (.ireturn, 1) := by decide +kernel
theorem dX10_move_37 : decode cX10_move 37 = .ok (.iload_n 2, 1) := by decide +kernel
theorem dX10_move_38 : decode cX10_move 38 = .ok (.ifCond .lt 14, 3) := by decide +kernel
theorem dX10_move_41 : decode cX10_move 41 = .ok (.aload_n 0, 1) := by decide +kernel
theorem dX10_move_42 : decode cX10_move 42 = .ok (.iload_n 2, 1) := by decide +kernel
theorem dX10_move_43 : decode cX10_move 43 = .ok (.iload_n 1, 1) := by decide +kernel
theorem dX10_move_44 : decode cX10_move 44 = .ok (.invokevirtual 74, 3) := by decide +kernel
theorem dX10_move_47 : decode cX10_move 47 = .ok (.ifCond .eq 5, 3) := by decide +kernel
theorem dX10_move_50 : decode cX10_move 50 = .ok (.iconst 4, 1) := by decide +kernel
theorem dX10_move_51 : decode cX10_move 51 = .ok (.ireturn, 1) := by decide +kernel
theorem dX10_move_52 : decode cX10_move 52 = .ok (.aload_n 0, 1) := by decide +kernel
theorem dX10_move_53 : decode cX10_move 53 = .ok (.getfield 13, 3) := by decide +kernel
theorem dX10_move_56 : decode cX10_move 56 = .ok (.bipush 32, 2) := by decide +kernel
theorem dX10_move_58 : decode cX10_move 58 = .ok (.iload_n 1, 1) := by decide +kernel
theorem dX10_move_59 : decode cX10_move 59 = .ok (.iadd, 1) := by decide +kernel
theorem dX10_move_60 : decode cX10_move 60 = .ok (.iload_n 2, 1) := by decide +kernel
theorem dX10_move_61 : decode cX10_move 61 = .ok (.iastore, 1) := by decide +kernel
theorem dX10_move_62 : decode cX10_move 62 = .ok (.iconst 0, 1) := by decide +kernel
theorem dX10_move_63 : decode cX10_move 63 = .ok (.ireturn, 1) := by decide +kernel
set_option maxRecDepth 20000 in
theorem ggX10_drop_X10_stands : GoodIn wsX10_drop wsX10_stands := goodIn_r _ [6, 1, 7, 8, 5, 9, 10, 11, 12, 13, 14, 15, 16, 17, 18, 19, 20, 21, 22, 23, 24, 25, 26, 27, 28, 29] (by decide +kernel) (by decide +kernel)
set_option maxRecDepth 20000 in
theorem gX10_drop_X10_stands : GoodIn wsX10_drop (wsV RX10 93 RX10 yX10_stands wsX10_stands) := goodIn_app (goodIn_of _ (by decide +kernel)) ggX10_drop_X10_stands
theorem dX10_drop_0 : decode cX10_drop 0 = .ok (.aload_n 0, 1) := by decide +kernel
theorem dX10_drop_1 : decode cX10_drop 1 = .ok (.iload_n 1, 1) := by decide +kernel
theorem dX10_drop_2 : decode cX10_drop 2 = .ok (.invokevirtual 93, 3) := by decide +kernel
theorem dX10_drop_5 : decode cX10_drop 5 = .ok (.ifCond .ne 5, 3) := by decide +kernel
theorem dX10_drop_8 : decode cX10_drop 8 = .ok (.iconst 1, 1) := by decide +kernel
theorem dX10_drop_9 : decode cX10_drop 9 = .ok (.ireturn, 1) := by decide +kernel
theorem dX10_drop_10 : decode cX10_drop 10 = .ok (.iconst 0, 1) := by decide +kernel
theorem dX10_drop_11 : decode cX10_drop 11 = .ok (.istore_n 2, 1) := by decide +kernel
theorem dX10_drop_12 : decode cX10_drop 12 = .ok (.iload_n 2, 1) := by decide +kernel
theorem dX10_drop_13 : decode cX10_drop 13 = .ok (.bipush 8, 2) := by decide +kernel
theorem dX10_drop_15 : decode cX10_drop 15 = .ok (.if_icmp .ge 52, 3) := by decide +kernel
theorem dX10_drop_18 : decode cX10_drop 18 = .ok (.aload_n 0, 1) := by decide +kernel
theorem dX10_drop_19 : decode cX10_drop 19 = .ok (.getfield 13, 3) := by decide +kernel
theorem dX10_drop_22 : decode cX10_drop 22 = .ok (.bipush 32, 2) := by decide +kernel
theorem dX10_drop_24 : decode cX10_drop 24 = .ok (.iload_n 2, 1) := by decide +kernel
theorem dX10_drop_25 : decode cX10_drop 25 = .ok (.iadd, 1) := by decide +kernel
theorem dX10_drop_26 : decode cX10_drop 26 = .ok (.aload_n 0, 1) := by decide +kernel
theorem dX10_drop_27 : decode cX10_drop 27 = .ok (.getfield 13, 3) := by decide +kernel
theorem dX10_drop_30 : decode cX10_drop 30 = .ok (.bipush 32, 2) := by decide +kernel
theorem dX10_drop_32 : decode cX10_drop 32 = .ok (.iload_n 2, 1) := by decide +kernel
theorem dX10_drop_33 : decode cX10_drop 33 = .ok (.iadd, 1) := by decide +kernel
theorem dX10_drop_34 : decode cX10_drop 34 = .ok (.iaload, 1) := by decide +kernel
theorem dX10_drop_35 : decode cX10_drop 35 = .ok (.iload_n 1, 1) := by decide +kernel
theorem dX10_drop_36 : decode cX10_drop 36 = .ok (.if_icmp .ne 15, 3) := by decide +kernel
theorem dX10_drop_39 : decode cX10_drop 39 = .ok (.aload_n 0, 1) := by decide +kernel
theorem dX10_drop_40 : decode cX10_drop 40 = .ok (.getfield 13, 3) := by decide +kernel
theorem dX10_drop_43 : decode cX10_drop 43 = .ok (.bipush 32, 2) := by decide +kernel
theorem dX10_drop_45 : decode cX10_drop 45 = .ok (.iload_n 1, 1) := by decide +kernel
theorem dX10_drop_46 : decode cX10_drop 46 = .ok (.iadd, 1) := by decide +kernel
theorem dX10_drop_47 : decode cX10_drop 47 = .ok (.iaload, 1) := by decide +kernel
theorem dX10_drop_48 : decode cX10_drop 48 = .ok (.goto 12, 3) := by decide +kernel
theorem dX10_drop_51 : decode cX10_drop 51 = .ok (.aload_n 0, 1) := by decide +kernel
theorem dX10_drop_52 : decode cX10_drop 52 = .ok (.getfield 13, 3) := by decide +kernel
theorem dX10_drop_55 : decode cX10_drop 55 = .ok (.bipush 32, 2) := by decide +kernel
theorem dX10_drop_57 : decode cX10_drop 57 = .ok (.iload_n 2, 1) := by decide +kernel
theorem dX10_drop_58 : decode cX10_drop 58 = .ok (.iadd, 1) := by decide +kernel
theorem dX10_drop_59 : decode cX10_drop 59 = .ok (.iaload, 1) := by decide +kernel
theorem dX10_drop_60 : decode cX10_drop 60 = .ok (.iastore, 1) := by decide +kernel
theorem dX10_drop_61 : decode cX10_drop 61 = .ok (.iinc 2 1, 3) := by decide +kernel
theorem dX10_drop_64 : decode cX10_drop 64 = .ok (.goto (-52), 3) := by decide +kernel
theorem dX10_drop_67 : decode cX10_drop 67 = .ok (.aload_n 0, 1) := by decide +kernel
theorem dX10_drop_68 : decode cX10_drop 68 = .ok (.getfield 13, 3) := by decide +kernel
theorem dX10_drop_71 : decode cX10_drop 71 = .ok (.bipush 40, 2) := by decide +kernel
theorem dX10_drop_73 : decode cX10_drop 73 = .ok (.dup2, 1) := by decide +kernel
theorem dX10_drop_74 : decode cX10_drop 74 = .ok (.iaload, 1) := by decide +kernel
theorem dX10_drop_75 : decode cX10_drop 75 = .ok (.iconst 1, 1) := by decide +kernel
theorem dX10_drop_76 : decode cX10_drop 76 = .ok (.iload_n 1, 1) := by decide +kernel
theorem dX10_drop_77 : decode cX10_drop 77 = .ok (.ishl, 1) := by decide +kernel
theorem dX10_drop_78 : decode cX10_drop 78 = .ok (.iconst (-1), 1) := by decide +kernel
theorem dX10_drop_79 : decode cX10_drop 79 = .ok (.ixor, 1) := by decide +kernel
theorem dX10_drop_80 : decode cX10_drop 80 = .ok (.iand, 1) := by decide +kernel
theorem dX10_drop_81 : decode cX10_drop 81 = .ok (.iastore, 1) := by decide +kernel
theorem dX10_drop_82 : decode cX10_drop 82 = .ok (.aload_n 0, 1) := by decide +kernel
theorem dX10_drop_83 : decode cX10_drop 83 = .ok (.getfield 13, 3) := by decide +kernel
theorem dX10_drop_86 : decode cX10_drop 86 = .ok (.bipush 32, 2) := by decide +kernel
theorem dX10_drop_88 : decode cX10_drop 88 = .ok (.iload_n 1, 1) := by decide +kernel
theorem dX10_drop_89 : decode cX10_drop 89 = .ok (.iadd, 1) := by decide +kernel
theorem dX10_drop_90 : decode cX10_drop 90 = .ok (.bipush (-6), 2) := by decide +kernel
theorem dX10_drop_92 : decode cX10_drop 92 = .ok (.iastore, 1) := by decide +kernel
theorem dX10_drop_93 : decode cX10_drop 93 = .ok (.iconst 0, 1) := by decide +kernel
theorem dX10_drop_94 : decode cX10_drop 94 = .ok (.ireturn, 1) := by decide +kernel
set_option maxRecDepth 20000 in
theorem ggX10_endHour_X10_stands : GoodIn wsX10_endHour wsX10_stands := goodIn_r _ [8, 1, 9, 10, 7, 11, 12, 13, 14, 15, 16, 17, 18, 19, 20, 21, 22, 23, 24, 25, 26, 27, 28, 29, 30, 31] (by decide +kernel) (by decide +kernel)
set_option maxRecDepth 20000 in
theorem gX10_endHour_X10_stands : GoodIn wsX10_endHour (wsV RX10 93 RX10 yX10_stands wsX10_stands) := goodIn_app (goodIn_of _ (by decide +kernel)) ggX10_endHour_X10_stands
set_option maxRecDepth 20000 in
theorem ggX10_endHour_X10_has : GoodIn wsX10_endHour wsX10_has := goodIn_r _ [11] (by decide +kernel) (by decide +kernel)
set_option maxRecDepth 20000 in
theorem gX10_endHour_X10_has : GoodIn wsX10_endHour (va_wsS RX10 55 yX10_has wsX10_has) := goodIn_app (goodIn_of _ (by decide +kernel)) ggX10_endHour_X10_has
theorem dX10_endHour_0 : decode cX10_endHour 0 = .ok (.aload_n 0, 1) := by decide +kernel
theorem dX10_endHour_1 : decode cX10_endHour 1 = .ok (.getfield 13, 3) := by decide +kernel
theorem dX10_endHour_4 : decode cX10_endHour 4 = .ok (.bipush 42, 2) := by decide +kernel
theorem dX10_endHour_6 : decode cX10_endHour 6 = .ok (.iaload, 1) := by decide +kernel
theorem dX10_endHour_7 : decode cX10_endHour 7 = .ok (.sipush 999, 3) := by decide +kernel
theorem dX10_endHour_10 : decode cX10_endHour 10 = .ok (.if_icmp .ne 6, 3) := by decide +kernel
theorem dX10_endHour_13 : decode cX10_endHour 13 = .ok (.bipush 6, 2) := by decide +kernel
theorem dX10_endHour_15 : decode cX10_endHour 15 = .ok (.ireturn, 1) := by decide +kernel
theorem dX10_endHour_16 : decode cX10_endHour 16 = .ok (.aload_n 0, 1) := by decide +kernel
theorem dX10_endHour_17 : decode cX10_endHour 17 = .ok (.getfield 13, 3) := by decide +kernel
theorem dX10_endHour_20 : decode cX10_endHour 20 = .ok (.bipush 42, 2) := by decide +kernel
theorem dX10_endHour_22 : decode cX10_endHour 22 = .ok (.dup2, 1) := by decide +kernel
theorem dX10_endHour_23 : decode cX10_endHour 23 = .ok (.iaload, 1) := by decide +kernel
theorem dX10_endHour_24 : decode cX10_endHour 24 = .ok (.iconst 1, 1) := by decide +kernel
theorem dX10_endHour_25 : decode cX10_endHour 25 = .ok (.iadd, 1) := by decide +kernel
theorem dX10_endHour_26 : decode cX10_endHour 26 = .ok (.iastore, 1) := by decide +kernel
theorem dX10_endHour_27 : decode cX10_endHour 27 = .ok (.iconst 0, 1) := by decide +kernel
theorem dX10_endHour_28 : decode cX10_endHour 28 = .ok (.istore_n 1, 1) := by decide +kernel
theorem dX10_endHour_29 : decode cX10_endHour 29 = .ok (.iload_n 1, 1) := by decide +kernel
theorem dX10_endHour_30 : decode cX10_endHour 30 = .ok (.bipush 8, 2) := by decide +kernel
theorem dX10_endHour_32 : decode cX10_endHour 32 = .ok (.if_icmp .ge 192, 3) := by decide +kernel
theorem dX10_endHour_35 : decode cX10_endHour 35 = .ok (.aload_n 0, 1) := by decide +kernel
theorem dX10_endHour_36 : decode cX10_endHour 36 = .ok (.iload_n 1, 1) := by decide +kernel
theorem dX10_endHour_37 : decode cX10_endHour 37 = .ok (.invokevirtual 93, 3) := by decide +kernel
theorem dX10_endHour_40 : decode cX10_endHour 40 = .ok (.ifCond .eq 178, 3) := by decide +kernel
theorem dX10_endHour_43 : decode cX10_endHour 43 = .ok (.aload_n 0, 1) := by decide +kernel
theorem dX10_endHour_44 : decode cX10_endHour 44 = .ok (.getfield 13, 3) := by decide +kernel
theorem dX10_endHour_47 : decode cX10_endHour 47 = .ok (.bipush 8, 2) := by decide +kernel
theorem dX10_endHour_49 : decode cX10_endHour 49 = .ok (.iload_n 1, 1) := by decide +kernel
theorem dX10_endHour_50 : decode cX10_endHour 50 = .ok (.iadd, 1) := by decide +kernel
theorem dX10_endHour_51 : decode cX10_endHour 51 = .ok (.iaload, 1) := by decide +kernel
theorem dX10_endHour_52 : decode cX10_endHour 52 = .ok (.ifCond .le 7, 3) := by decide +kernel
theorem dX10_endHour_55 : decode cX10_endHour 55 = .ok (.iconst 1, 1) := by decide +kernel
theorem dX10_endHour_56 : decode cX10_endHour 56 = .ok (.goto 4, 3) := by decide +kernel
theorem dX10_endHour_59 : decode cX10_endHour 59 = .ok (.iconst 0, 1) := by decide +kernel
