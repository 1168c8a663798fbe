set_option maxRecDepth 20000 in
theorem ggX10_vote_X10_digit : GoodIn wsX10_vote wsX10_digit := goodIn_r _ [9] (by decide +kernel) (by decide +kernel)
set_option maxRecDepth 20000 in
theorem gX10_vote_X10_digit : GoodIn wsX10_vote (va_wsS RX10 142 yX10_digit wsX10_digit) := goodIn_app (goodIn_of _ (by decide +kernel)) ggX10_vote_X10_digit
set_option maxRecDepth 20000 in
theorem ggX10_vote_X10_isThere : GoodIn wsX10_vote wsX10_isThere := goodIn_r _ [13, 14, 3, 4, 5, 6, 15, 16, 17, 18, 19, 20, 21, 22, 23, 24, 25, 26, 27, 28, 29, 30, 31, 32, 33, 34, 35, 36, 37] (by decide +kernel) (by decide +kernel)
set_option maxRecDepth 20000 in
theorem gX10_vote_X10_isThere : GoodIn wsX10_vote (wsV RX10 59 RX10 yX10_isThere wsX10_isThere) := goodIn_app (goodIn_of _ (by decide +kernel)) ggX10_vote_X10_isThere
theorem dX10_vote_0 : decode cX10_vote 0 = .ok (.iload_n 1, 1) := by decide +kernel
theorem dX10_vote_1 : decode cX10_vote 1 = .ok (.iconst 0, 1) := by decide +kernel
theorem dX10_vote_2 : decode cX10_vote 2 = .ok (.ldc 140, 2) := by decide +kernel
theorem dX10_vote_4 : decode cX10_vote 4 = .ok (.invokestatic 51, 3) := by decide +kernel
theorem dX10_vote_7 : decode cX10_vote 7 = .ok (.ifCond .eq 12, 3) := by decide +kernel
theorem dX10_vote_10 : decode cX10_vote 10 = .ok (.iload_n 2, 1) := by decide +kernel
theorem dX10_vote_11 : decode cX10_vote 11 = .ok (.iconst 0, 1) := by decide +kernel
theorem dX10_vote_12 : decode cX10_vote 12 = .ok (.iconst 1, 1) := by decide +kernel
theorem dX10_vote_13 : decode cX10_vote 13 = .ok (.invokestatic 51, 3) := by decide +kernel
theorem dX10_vote_16 : decode cX10_vote 16 = .ok (.ifCond .ne 6, 3) := by decide +kernel
theorem dX10_vote_19 : decode cX10_vote 19 = .ok (.bipush (-2), 2) := by decide +kernel
theorem dX10_vote_21 : decode cX10_vote 21 = .ok (.ireturn, 1) := by decide +kernel
theorem dX10_vote_22 : decode cX10_vote 22 = .ok (.ldc 141, 2) := by decide +kernel
theorem dX10_vote_24 : decode cX10_vote 24 = .ok (.istore_n 3, 1) := by decide +kernel
theorem dX10_vote_25 : decode cX10_vote 25 = .ok (.iconst 0, 1) := by decide +kernel
theorem dX10_vote_26 : decode cX10_vote 26 = .ok (.istore 4, 2) := by decide +kernel
theorem dX10_vote_28 : decode cX10_vote 28 = .ok (.iconst 0, 1) := by decide +kernel
theorem dX10_vote_29 : decode cX10_vote 29 = .ok (.istore 5, 2) := by decide +kernel
theorem dX10_vote_31 : decode cX10_vote 31 = .ok (.iload 5, 2) := by decide +kernel
theorem dX10_vote_33 : decode cX10_vote 33 = .ok (.bipush 10, 2) := by decide +kernel
theorem dX10_vote_35 : decode cX10_vote 35 = .ok (.if_icmp .ge 104, 3) := by decide +kernel
theorem dX10_vote_38 : decode cX10_vote 38 = .ok (.iconst 0, 1) := by decide +kernel
theorem dX10_vote_39 : decode cX10_vote 39 = .ok (.istore 6, 2) := by decide +kernel
theorem dX10_vote_41 : decode cX10_vote 41 = .ok (.iconst 0, 1) := by decide +kernel
theorem dX10_vote_42 : decode cX10_vote 42 = .ok (.istore 7, 2) := by decide +kernel
theorem dX10_vote_44 : decode cX10_vote 44 = .ok (.iload 7, 2) := by decide +kernel
theorem dX10_vote_46 : decode cX10_vote 46 = .ok (.bipush 8, 2) := by decide +kernel
theorem dX10_vote_48 : decode cX10_vote 48 = .ok (.if_icmp .ge 57, 3) := by decide +kernel
theorem dX10_vote_51 : decode cX10_vote 51 = .ok (.iload_n 1, 1) := by decide +kernel
theorem dX10_vote_52 : decode cX10_vote 52 = .ok (.iload 7, 2) := by decide +kernel
theorem dX10_vote_54 : decode cX10_vote 54 = .ok (.bipush 8, 2) := by decide +kernel
theorem dX10_vote_56 : decode cX10_vote 56 = .ok (.invokestatic 142, 3) := by decide +kernel
theorem dX10_vote_59 : decode cX10_vote 59 = .ok (.istore 8, 2) := by decide +kernel
theorem dX10_vote_61 : decode cX10_vote 61 = .ok (.iload 6, 2) := by decide +kernel
theorem dX10_vote_63 : decode cX10_vote 63 = .ok (.aload_n 0, 1) := by decide +kernel
theorem dX10_vote_64 : decode cX10_vote 64 = .ok (.iload 7, 2) := by decide +kernel
theorem dX10_vote_66 : decode cX10_vote 66 = .ok (.invokevirtual 59, 3) := by decide +kernel
theorem dX10_vote_69 : decode cX10_vote 69 = .ok (.ifCond .ne 7, 3) := by decide +kernel
theorem dX10_vote_72 : decode cX10_vote 72 = .ok (.iconst 0, 1) := by decide +kernel
theorem dX10_vote_73 : decode cX10_vote 73 = .ok (.goto 23, 3) := by decide +kernel
theorem dX10_vote_76 : decode cX10_vote 76 = .ok (.iload 8, 2) := by decide +kernel
theorem dX10_vote_78 : decode cX10_vote 78 = .ok (.iload 5, 2) := by decide +kernel
theorem dX10_vote_80 : decode cX10_vote 80 = .ok (.if_icmp .le 11, 3) := by decide +kernel
theorem dX10_vote_83 : decode cX10_vote 83 = .ok (.iload 8, 2) := by decide +kernel
theorem dX10_vote_85 : decode cX10_vote 85 = .ok (.iload 5, 2) := by decide +kernel
theorem dX10_vote_87 : decode cX10_vote 87 = .ok (.isub, 1) := by decide +kernel
theorem dX10_vote_88 : decode cX10_vote 88 = .ok (.goto 8, 3) := by decide +kernel
theorem dX10_vote_91 : decode cX10_vote 91 = .ok (.iload 5, 2) := by decide +kernel
theorem dX10_vote_93 : decode cX10_vote 93 = .ok (.iload 8, 2) := by decide +kernel
theorem dX10_vote_95 : decode cX10_vote 95 = .ok (.isub, 1) := by decide +kernel
theorem dX10_vote_96 : decode cX10_vote 96 = .ok (.iadd, 1) := by decide +kernel
theorem dX10_vote_97 : decode cX10_vote 97 = .ok (.istore 6, 2) := by decide +kernel
theorem dX10_vote_99 : decode cX10_vote 99 = .ok (.iinc 7 1, 3) := by decide +kernel
theorem dX10_vote_102 : decode cX10_vote 102 = .ok (.goto (-58), 3) := by decide +kernel
theorem dX10_vote_105 : decode cX10_vote 105 = .ok (.iload 6, 2) := by decide +kernel
theorem dX10_vote_107 : decode cX10_vote 107 = .ok (.iload_n 3, 1) := by decide +kernel
theorem dX10_vote_108 : decode cX10_vote 108 = .ok (.if_icmp .ge 8, 3) := by decide +kernel
theorem dX10_vote_111 : decode cX10_vote 111 = .ok (.iload 5, 2) := by decide +kernel
theorem dX10_vote_113 : decode cX10_vote 113 = .ok (.goto 5, 3) := by decide +kernel
theorem dX10_vote_116 : decode cX10_vote 116 = .ok (.iload 4, 2) := by decide +kernel
theorem dX10_vote_118 : decode cX10_vote 118 = .ok (.istore 4, 2) := by decide +kernel
theorem dX10_vote_120 : decode cX10_vote 120 = .ok (.iload 6, 2) := by decide +kernel
theorem dX10_vote_122 : decode cX10_vote 122 = .ok (.iload_n 3, 1) := by decide +kernel
theorem dX10_vote_123 : decode cX10_vote 123 = .ok (.if_icmp .ge 8, 3) := by decide +kernel
theorem dX10_vote_126 : decode cX10_vote 126 = .ok (.iload 6, 2) := by decide +kernel
theorem dX10_vote_128 : decode cX10_vote 128 = .ok (.goto 4, 3) := by decide +kernel
theorem dX10_vote_131 : decode cX10_vote 131 = .ok (.iload_n 3, 1) := by decide +kernel
theorem dX10_vote_132 : decode cX10_vote 132 = .ok (.istore_n 3, 1) := by decide +kernel
theorem dX10_vote_133 : decode cX10_vote 133 = .ok (.iinc 5 1, 3) := by decide +kernel
theorem dX10_vote_136 : decode cX10_vote 136 = .ok (.goto (-105), 3) := by decide +kernel
theorem dX10_vote_139 : decode cX10_vote 139 = .ok (.iload_n 2, 1) := by decide +kernel
theorem dX10_vote_140 : decode cX10_vote 140 = .ok (.ifCond .ne 8, 3) := by decide +kernel
theorem dX10_vote_143 : decode cX10_vote 143 = .ok (.iload 4, 2) := by decide +kernel
theorem dX10_vote_145 : decode cX10_vote 145 = .ok (.goto 4, 3) := by decide +kernel
theorem dX10_vote_148 : decode cX10_vote 148 = .ok (.iload_n 3, 1) := by decide +kernel
theorem dX10_vote_149 : decode cX10_vote 149 = .ok (.ireturn, 1) := by decide +kernel
set_option maxRecDepth 20000 in
theorem ggX10_rank_X10_in : GoodIn wsX10_rank wsX10_in := goodIn_r _ [6] (by decide +kernel) (by decide +kernel)
set_option maxRecDepth 20000 in
theorem gX10_rank_X10_in : GoodIn wsX10_rank (va_wsS RX10 51 yX10_in wsX10_in) := goodIn_app (goodIn_of _ (by decide +kernel)) ggX10_rank_X10_in
set_option maxRecDepth 20000 in
theorem ggX10_rank_X10_digit : GoodIn wsX10_rank wsX10_digit := goodIn_r _ [9] (by decide +kernel) (by decide +kernel)
set_option maxRecDepth 20000 in
theorem gX10_rank_X10_digit : GoodIn wsX10_rank (va_wsS RX10 142 yX10_digit wsX10_digit) := goodIn_app (goodIn_of _ (by decide +kernel)) ggX10_rank_X10_digit
theorem dX10_rank_0 : decode cX10_rank 0 = .ok (.iload_n 1, 1) := by decide +kernel
theorem dX10_rank_1 : decode cX10_rank 1 = .ok (.iconst 0, 1) := by decide +kernel
theorem dX10_rank_2 : decode cX10_rank 2 = .ok (.iconst 5, 1) := by decide +kernel
theorem dX10_rank_3 : decode cX10_rank 3 = .ok (.invokestatic 51, 3) := by decide +kernel
theorem dX10_rank_6 : decode cX10_rank 6 = .ok (.ifCond .ne 5, 3) := by decide +kernel
theorem dX10_rank_9 : decode cX10_rank 9 = .ok (.iconst (-1), 1) := by decide +kernel
theorem dX10_rank_10 : decode cX10_rank 10 = .ok (.ireturn, 1) := by decide +kernel
theorem dX10_rank_11 : decode cX10_rank 11 = .ok (.iconst 0, 1) := by decide +kernel
theorem dX10_rank_12 : decode cX10_rank 12 = .ok (.istore_n 3, 1) := by decide +kernel
theorem dX10_rank_13 : decode cX10_rank 13 = .ok (.iconst 0, 1) := by decide +kernel
theorem dX10_rank_14 : decode cX10_rank 14 = .ok (.istore 4, 2) := by decide +kernel
theorem dX10_rank_16 : decode cX10_rank 16 = .ok (.iload 4, 2) := by decide +kernel
theorem dX10_rank_18 : decode cX10_rank 18 = .ok (.bipush 6, 2) := by decide +kernel
theorem dX10_rank_20 : decode cX10_rank 20 = .ok (.if_icmp .ge 26, 3) := by decide +kernel
theorem dX10_rank_23 : decode cX10_rank 23 = .ok (.iload_n 2, 1) := by decide +kernel
theorem dX10_rank_24 : decode cX10_rank 24 = .ok (.ifCond .lt 22, 3) := by decide +kernel
theorem dX10_rank_27 : decode cX10_rank 27 = .ok (.iload_n 3, 1) := by decide +kernel
theorem dX10_rank_28 : decode cX10_rank 28 = .ok (.iconst 1, 1) := by decide +kernel
theorem dX10_rank_29 : decode cX10_rank 29 = .ok (.iload_n 2, 1) := by decide +kernel
theorem dX10_rank_30 : decode cX10_rank 30 = .ok (.iload 4, 2) := by decide +kernel
theorem dX10_rank_32 : decode cX10_rank 32 = .ok (.bipush 6, 2) := by decide +kernel
theorem dX10_rank_34 : decode cX10_rank 34 = .ok (.invokestatic 142, 3) := by decide +kernel
theorem dX10_rank_37 : decode cX10_rank 37 = .ok (.ishl, 1) := by decide +kernel
theorem dX10_rank_38 : decode cX10_rank 38 = .ok (.ior, 1) := by decide +kernel
theorem dX10_rank_39 : decode cX10_rank 39 = .ok (.istore_n 3, 1) := by decide +kernel
theorem dX10_rank_40 : decode cX10_rank 40 = .ok (.iinc 4 1, 3) := by decide +kernel
theorem dX10_rank_43 : decode cX10_rank 43 = .ok (.goto (-27), 3) := by decide +kernel
theorem dX10_rank_46 : decode cX10_rank 46 = .ok (.iload_n 3, 1) := by decide +kernel
theorem dX10_rank_47 : decode cX10_rank 47 = .ok (.bipush 63, 2) := by decide +kernel
theorem dX10_rank_49 : decode cX10_rank 49 = .ok (.if_icmp .ne 9, 3) := by decide +kernel
theorem dX10_rank_52 : decode cX10_rank 52 = .ok (.iload_n 2, 1) := by decide +kernel
theorem dX10_rank_53 : decode cX10_rank 53 = .ok (.ldc 145, 2) := by decide +kernel
theorem dX10_rank_55 : decode cX10_rank 55 = .ok (.if_icmp .le 6, 3) := by decide +kernel
theorem dX10_rank_58 : decode cX10_rank 58 = .ok (.bipush (-2), 2) := by decide +kernel
theorem dX10_rank_60 : decode cX10_rank 60 = .ok (.ireturn, 1) := by decide +kernel
theorem dX10_rank_61 : decode cX10_rank 61 = .ok (.aload_n 0, 1) := by decide +kernel
theorem dX10_rank_62 : decode cX10_rank 62 = .ok (.getfield 22, 3) := by decide +kernel
theorem dX10_rank_65 : decode cX10_rank 65 = .ok (.iload_n 1, 1) := by decide +kernel
theorem dX10_rank_66 : decode cX10_rank 66 = .ok (.iaload, 1) := by decide +kernel
theorem dX10_rank_67 : decode cX10_rank 67 = .ok (.istore 4, 2) := by decide +kernel
theorem dX10_rank_69 : decode cX10_rank 69 = .ok (.aload_n 0, 1) := by decide +kernel
theorem dX10_rank_70 : decode cX10_rank 70 = .ok (.getfield 22, 3) := by decide +kernel
theorem dX10_rank_73 : decode cX10_rank 73 = .ok (.iload_n 1, 1) := by decide +kernel
theorem dX10_rank_74 : decode cX10_rank 74 = .ok (.iload_n 2, 1) := by decide +kernel
theorem dX10_rank_75 : decode cX10_rank 75 = .ok (.iastore, 1) := by decide +kernel
theorem dX10_rank_76 : decode cX10_rank 76 = .ok (.iload 4, 2) := by decide +kernel
theorem dX10_rank_78 : decode cX10_rank 78 = .ok (.ireturn, 1) := by decide +kernel
set_option maxRecDepth 20000 in
theorem ggX10_pointsTo_X10_digit : GoodIn wsX10_pointsTo wsX10_digit := goodIn_r _ [5] (by decide +kernel) (by decide +kernel)
set_option maxRecDepth 20000 in
theorem gX10_pointsTo_X10_digit : GoodIn wsX10_pointsTo (va_wsS RX10 142 yX10_digit wsX10_digit) := goodIn_app (goodIn_of _ (by decide +kernel)) ggX10_pointsTo_X10_digit
set_option maxRecDepth 20000 in
theorem ggX10_pointsTo_X10_has : GoodIn wsX10_pointsTo wsX10_has := goodIn_r _ [8] (by decide +kernel) (by decide +kernel)
set_option maxRecDepth 20000 in
theorem gX10_pointsTo_X10_has : GoodIn wsX10_pointsTo (va_wsS RX10 55 yX10_has wsX10_has) := goodIn_app (goodIn_of _ (by decide +kernel)) ggX10_pointsTo_X10_has
theorem dX10_pointsTo_0 : decode cX10_pointsTo 0 = .ok (.iconst 0, 1) := by decide +kernel
theorem dX10_pointsTo_1 : decode cX10_pointsTo 1 = .ok (.istore_n 3, 1) := by decide +kernel
theorem dX10_pointsTo_2 : decode cX10_pointsTo 2 = .ok (.iload_n 2, 1) := by decide +kernel
theorem dX10_pointsTo_3 : decode cX10_pointsTo 3 = .ok (.aload_n 0, 1) := by decide +kernel
theorem dX10_pointsTo_4 : decode cX10_pointsTo 4 = .ok (.getfield 22, 3) := by decide +kernel
theorem dX10_pointsTo_7 : decode cX10_pointsTo 7 = .ok (.iload_n 1, 1) := by decide +kernel
theorem dX10_pointsTo_8 : decode cX10_pointsTo 8 = .ok (.iaload, 1) := by decide +kernel
theorem dX10_pointsTo_9 : decode cX10_pointsTo 9 = .ok (.iload_n 3, 1) := by decide +kernel
theorem dX10_pointsTo_10 : decode cX10_pointsTo 10 = .ok (.bipush 6, 2) := by decide +kernel
theorem dX10_pointsTo_12 : decode cX10_pointsTo 12 = .ok (.invokestatic 142, 3) := by decide +kernel
theorem dX10_pointsTo_15 : decode cX10_pointsTo 15 = .ok (.invokestatic 55, 3) := by decide +kernel
theorem dX10_pointsTo_18 : decode cX10_pointsTo 18 = .ok (.ifCond .ne 9, 3) := by decide +kernel
theorem dX10_pointsTo_21 : decode cX10_pointsTo 21 = .ok (.iinc 3 1, 3) := by decide +kernel
theorem dX10_pointsTo_24 : decode cX10_pointsTo 24 = .ok (.goto (-22), 3) := by decide +kernel
theorem dX10_pointsTo_27 : decode cX10_pointsTo 27 = .ok (.aload_n 0, 1) := by decide +kernel
theorem dX10_pointsTo_28 : decode cX10_pointsTo 28 = .ok (.getfield 22, 3) := by decide +kernel
theorem dX10_pointsTo_31 : decode cX10_pointsTo 31 = .ok (.iload_n 1, 1) := by decide +kernel
theorem dX10_pointsTo_32 : decode cX10_pointsTo 32 = .ok (.iaload, 1) := by decide +kernel
theorem dX10_pointsTo_33 : decode cX10_pointsTo 33 = .ok (.iload_n 3, 1) := by decide +kernel
theorem dX10_pointsTo_34 : decode cX10_pointsTo 34 = .ok (.bipush 6, 2) := by decide +kernel
theorem dX10_pointsTo_36 : decode cX10_pointsTo 36 = .ok (.invokestatic 142, 3) := by decide +kernel
theorem dX10_pointsTo_39 : decode cX10_pointsTo 39 = .ok (.ireturn, 1) := by decide +kernel
set_option maxRecDepth 20000 in
theorem ggX10_makeRings_X10_has : GoodIn wsX10_makeRings wsX10_has := goodIn_r _ [5] (by decide +kernel) (by decide +kernel)
set_option maxRecDepth 20000 in
theorem gX10_makeRings_X10_has : GoodIn wsX10_makeRings (va_wsS RX10 55 yX10_has wsX10_has) := goodIn_app (goodIn_of _ (by decide +kernel)) ggX10_makeRings_X10_has
set_option maxRecDepth 20000 in
theorem ggX10_makeRings_X10_pointsTo : GoodIn wsX10_makeRings wsX10_pointsTo := goodIn_r _ [9, 10, 11, 12, 4, 13, 2, 3, 5, 14, 15, 16, 17, 18, 19, 20, 21, 22, 23, 24, 25, 26, 27, 28, 29, 30, 31, 32, 33] (by decide +kernel) (by decide +kernel)
set_option maxRecDepth 20000 in
theorem gX10_makeRings_X10_pointsTo : GoodIn wsX10_makeRings (wsV RX10 146 RX10 yX10_pointsTo wsX10_pointsTo) := goodIn_app (goodIn_of _ (by decide +kernel)) ggX10_makeRings_X10_pointsTo
theorem dX10_makeRings_0 : decode cX10_makeRings 0 = .ok (.bipush 63, 2) := by decide +kernel
theorem dX10_makeRings_2 : decode cX10_makeRings 2 = .ok (.istore_n 1, 1) := by decide +kernel
theorem dX10_makeRings_3 : decode cX10_makeRings 3 = .ok (.iload_n 1, 1) := by decide +kernel
theorem dX10_makeRings_4 : decode cX10_makeRings 4 = .ok (.ifCond .eq 87, 3) := by decide +kernel
theorem dX10_makeRings_7 : decode cX10_makeRings 7 = .ok (.iconst 0, 1) := by decide +kernel
theorem dX10_makeRings_8 : decode cX10_makeRings 8 = .ok (.istore_n 2, 1) := by decide +kernel
theorem dX10_makeRings_9 : decode cX10_makeRings 9 = .ok (.iload_n 1, 1) := by decide +kernel
theorem dX10_makeRings_10 : decode cX10_makeRings 10 = .ok (.iload_n 2, 1) := by decide +kernel
theorem dX10_makeRings_11 : decode cX10_makeRings 11 = .ok (.invokestatic 55, 3) := by decide +kernel
theorem dX10_makeRings_14 : decode cX10_makeRings 14 = .ok (.ifCond .ne 9, 3) := by decide +kernel
theorem dX10_makeRings_17 : decode cX10_makeRings 17 = .ok (.iinc 2 1, 3) := by decide +kernel
theorem dX10_makeRings_20 : decode cX10_makeRings 20 = .ok (.goto (-11), 3) := by decide +kernel
theorem dX10_makeRings_23 : decode cX10_makeRings 23 = .ok (.iconst 0, 1) := by decide +kernel
theorem dX10_makeRings_24 : decode cX10_makeRings 24 = .ok (.istore_n 3, 1) := by decide +kernel
theorem dX10_makeRings_25 : decode cX10_makeRings 25 = .ok (.iload_n 3, 1) := by decide +kernel
theorem dX10_makeRings_26 : decode cX10_makeRings 26 = .ok (.bipush 6, 2) := by decide +kernel
theorem dX10_makeRings_28 : decode cX10_makeRings 28 = .ok (.if_icmp .ge 16, 3) := by decide +kernel
theorem dX10_makeRings_31 : decode cX10_makeRings 31 = .ok (.aload_n 0, 1) := by decide +kernel
theorem dX10_makeRings_32 : decode cX10_makeRings 32 = .ok (.iload_n 2, 1) := by decide +kernel
theorem dX10_makeRings_33 : decode cX10_makeRings 33 = .ok (.iload_n 1, 1) := by decide +kernel
theorem dX10_makeRings_34 : decode cX10_makeRings 34 = .ok (.invokevirtual 146, 3) := by decide +kernel
theorem dX10_makeRings_37 : decode cX10_makeRings 37 = .ok (.istore_n 2, 1) := by decide +kernel
theorem dX10_makeRings_38 : decode cX10_makeRings 38 = .ok (.iinc 3 1, 3) := by decide +kernel
theorem dX10_makeRings_41 : decode cX10_makeRings 41 = .ok (.goto (-16), 3) := by decide +kernel
theorem dX10_makeRings_44 : decode cX10_makeRings 44 = .ok (.iconst 0, 1) := by decide +kernel
theorem dX10_makeRings_45 : decode cX10_makeRings 45 = .ok (.istore_n 3, 1) := by decide +kernel
theorem dX10_makeRings_46 : decode cX10_makeRings 46 = .ok (.iload_n 3, 1) := by decide +kernel
theorem dX10_makeRings_47 : decode cX10_makeRings 47 = .ok (.iload_n 2, 1) := by decide +kernel
theorem dX10_makeRings_48 : decode cX10_makeRings 48 = .ok (.invokestatic 55, 3) := by decide +kernel
theorem dX10_makeRings_51 : decode cX10_makeRings 51 = .ok (.ifCond .ne 31, 3) := by decide +kernel
theorem dX10_makeRings_54 : decode cX10_makeRings 54 = .ok (.iload_n 3, 1) := by decide +kernel
theorem dX10_makeRings_55 : decode cX10_makeRings 55 = .ok (.iconst 1, 1) := by decide +kernel
theorem dX10_makeRings_56 : decode cX10_makeRings 56 = .ok (.iload_n 2, 1) := by decide +kernel
theorem dX10_makeRings_57 : decode cX10_makeRings 57 = .ok (.ishl, 1) := by decide +kernel
theorem dX10_makeRings_58 : decode cX10_makeRings 58 = .ok (.ior, 1) := by decide +kernel
theorem dX10_makeRings_59 : decode cX10_makeRings 59 = .ok (.istore_n 3, 1) := by decide +kernel
theorem dX10_makeRings_60 : decode cX10_makeRings 60 = .ok (.aload_n 0, 1) := by decide +kernel
theorem dX10_makeRings_61 : decode cX10_makeRings 61 = .ok (.getfield 31, 3) := by decide +kernel
theorem dX10_makeRings_64 : decode cX10_makeRings 64 = .ok (.iload_n 2, 1) := by decide +kernel
theorem dX10_makeRings_65 : decode cX10_makeRings 65 = .ok (.aload_n 0, 1) := by decide +kernel
theorem dX10_makeRings_66 : decode cX10_makeRings 66 = .ok (.iload_n 2, 1) := by decide +kernel
theorem dX10_makeRings_67 : decode cX10_makeRings 67 = .ok (.iload_n 1, 1) := by decide +kernel
theorem dX10_makeRings_68 : decode cX10_makeRings 68 = .ok (.invokevirtual 146, 3) := by decide +kernel
theorem dX10_makeRings_71 : decode cX10_makeRings 71 = .ok (.iastore, 1) := by decide +kernel
theorem dX10_makeRings_72 : decode cX10_makeRings 72 = .ok (.aload_n 0, 1) := by decide +kernel
theorem dX10_makeRings_73 : decode cX10_makeRings 73 = .ok (.getfield 31, 3) := by decide +kernel
theorem dX10_makeRings_76 : decode cX10_makeRings 76 = .ok (.iload_n 2, 1) := by decide +kernel
theorem dX10_makeRings_77 : decode cX10_makeRings 77 = .ok (.iaload, 1) := by decide +kernel
theorem dX10_makeRings_78 : decode cX10_makeRings 78 = .ok (.istore_n 2, 1) := by decide +kernel
theorem dX10_makeRings_79 : decode cX10_makeRings 79 = .ok (.goto (-33), 3) := by decide +kernel
theorem dX10_makeRings_82 : decode cX10_makeRings 82 = .ok (.iload_n 1, 1) := by decide +kernel
theorem dX10_makeRings_83 : decode cX10_makeRings 83 = .ok (.iload_n 3, 1) := by decide +kernel
theorem dX10_makeRings_84 : decode cX10_makeRings 84 = .ok (.iconst (-1), 1) := by decide +kernel
theorem dX10_makeRings_85 : decode cX10_makeRings 85 = .ok (.ixor, 1) := by decide +kernel
theorem dX10_makeRings_86 : decode cX10_makeRings 86 = .ok (.iand, 1) := by decide +kernel
theorem dX10_makeRings_87 : decode cX10_makeRings 87 = .ok (.istore_n 1, 1) := by decide +kernel
theorem dX10_makeRings_88 : decode cX10_makeRings 88 = .ok (.goto (-85), 3) := by decide +kernel
theorem dX10_makeRings_91 : decode cX10_makeRings 91 = .ok (.return_, 1) := by decide +kernel
set_option maxRecDepth 20000 in
theorem ggX10_change_X10_in : GoodIn wsX10_change wsX10_in := goodIn_r _ [5] (by decide +kernel) (by decide +kernel)
set_option maxRecDepth 20000 in
theorem gX10_change_X10_in : GoodIn wsX10_change (va_wsS RX10 51 yX10_in wsX10_in) := goodIn_app (goodIn_of _ (by decide +kernel)) ggX10_change_X10_in
set_option maxRecDepth 20000 in
theorem ggX10_change_X10_makeRings : GoodIn wsX10_change wsX10_makeRings := goodIn_r _ [9, 1, 10, 11, 4, 12, 13, 14, 15, 16, 17, 18, 19, 20, 21, 22, 23, 24, 25, 26, 27, 28, 29, 30, 31, 32, 33, 34, 35, 36, 37, 38, 39, 40] (by decide +kernel) (by decide +kernel)
set_option maxRecDepth 20000 in
theorem gX10_change_X10_makeRings : GoodIn wsX10_change (wsV RX10 149 RX10 yX10_makeRings wsX10_makeRings) := goodIn_app (goodIn_of _ (by decide +kernel)) ggX10_change_X10_makeRings
theorem dX10_change_0 : decode cX10_change 0 = .ok (.iload_n 1, 1) := by decide +kernel
theorem dX10_change_1 : decode cX10_change 1 = .ok (.iconst (-1), 1) := by decide +kernel
theorem dX10_change_2 : decode cX10_change 2 = .ok (.iconst 5, 1) := by decide +kernel
theorem dX10_change_3 : decode cX10_change 3 = .ok (.invokestatic 51, 3) := by decide +kernel
theorem dX10_change_6 : decode cX10_change 6 = .ok (.ifCond .ne 5, 3) := by decide +kernel
theorem dX10_change_9 : decode cX10_change 9 = .ok (.iconst (-1), 1) := by decide +kernel
theorem dX10_change_10 : decode cX10_change 10 = .ok (.ireturn, 1) := by decide +kernel
theorem dX10_change_11 : decode cX10_change 11 = .ok (.aload_n 0, 1) := by decide +kernel
theorem dX10_change_12 : decode cX10_change 12 = .ok (.invokevirtual 149, 3) := by decide +kernel
theorem dX10_change_15 : decode cX10_change 15 = .ok (.iconst 0, 1) := by decide +kernel
theorem dX10_change_16 : decode cX10_change 16 = .ok (.istore_n 2, 1) := by decide +kernel
theorem dX10_change_17 : decode cX10_change 17 = .ok (.iconst 0, 1) := by decide +kernel
theorem dX10_change_18 : decode cX10_change 18 = .ok (.istore_n 3, 1) := by decide +kernel
theorem dX10_change_19 : decode cX10_change 19 = .ok (.iload_n 3, 1) := by decide +kernel
theorem dX10_change_20 : decode cX10_change 20 = .ok (.bipush 6, 2) := by decide +kernel
theorem dX10_change_22 : decode cX10_change 22 = .ok (.if_icmp .ge 27, 3) := by decide +kernel
theorem dX10_change_25 : decode cX10_change 25 = .ok (.iload_n 2, 1) := by decide +kernel
theorem dX10_change_26 : decode cX10_change 26 = .ok (.aload_n 0, 1) := by decide +kernel
theorem dX10_change_27 : decode cX10_change 27 = .ok (.getfield 31, 3) := by decide +kernel
theorem dX10_change_30 : decode cX10_change 30 = .ok (.iload_n 3, 1) := by decide +kernel
theorem dX10_change_31 : decode cX10_change 31 = .ok (.iaload, 1) := by decide +kernel
theorem dX10_change_32 : decode cX10_change 32 = .ok (.iload_n 3, 1) := by decide +kernel
theorem dX10_change_33 : decode cX10_change 33 = .ok (.if_icmp .eq 7, 3) := by decide +kernel
theorem dX10_change_36 : decode cX10_change 36 = .ok (.iconst 1, 1) := by decide +kernel
theorem dX10_change_37 : decode cX10_change 37 = .ok (.goto 4, 3) := by decide +kernel
theorem dX10_change_40 : decode cX10_change 40 = .ok (.iconst 0, 1) := by decide +kernel
theorem dX10_change_41 : decode cX10_change 41 = .ok (.iadd, 1) := by decide +kernel
theorem dX10_change_42 : decode cX10_change 42 = .ok (.istore_n 2, 1) := by decide +kernel
theorem dX10_change_43 : decode cX10_change 43 = .ok (.iinc 3 1, 3) := by decide +kernel
theorem dX10_change_46 : decode cX10_change 46 = .ok (.goto (-27), 3) := by decide +kernel
theorem dX10_change_49 : decode cX10_change 49 = .ok (.iload_n 1, 1) := by decide +kernel
theorem dX10_change_50 : decode cX10_change 50 = .ok (.ifCond .ge 7, 3) := by decide +kernel
theorem dX10_change_53 : decode cX10_change 53 = .ok (.iload_n 2, 1) := by decide +kernel
theorem dX10_change_54 : decode cX10_change 54 = .ok (.goto 9, 3) := by decide +kernel
theorem dX10_change_57 : decode cX10_change 57 = .ok (.aload_n 0, 1) := by decide +kernel
theorem dX10_change_58 : decode cX10_change 58 = .ok (.getfield 31, 3) := by decide +kernel
theorem dX10_change_61 : decode cX10_change 61 = .ok (.iload_n 1, 1) := by decide +kernel
theorem dX10_change_62 : decode cX10_change 62 = .ok (.iaload, 1) := by decide +kernel
theorem dX10_change_63 : decode cX10_change 63 = .ok (.ireturn, 1) := by decide +kernel
set_option maxRecDepth 20000 in
theorem ggX10_seen_X10_in : GoodIn wsX10_seen wsX10_in := goodIn_r _ [6] (by decide +kernel) (by decide +kernel)
set_option maxRecDepth 20000 in
theorem gX10_seen_X10_in : GoodIn wsX10_seen (va_wsS RX10 51 yX10_in wsX10_in) := goodIn_app (goodIn_of _ (by decide +kernel)) ggX10_seen_X10_in
theorem dX10_seen_0 : decode cX10_seen 0 = .ok (.iload_n 1, 1) := by decide +kernel
theorem dX10_seen_1 : decode cX10_seen 1 = .ok (.iconst 0, 1) := by decide +kernel
theorem dX10_seen_2 : decode cX10_seen 2 = .ok (.bipush 60, 2) := by decide +kernel
theorem dX10_seen_4 : decode cX10_seen 4 = .ok (.invokestatic 51, 3) := by decide +kernel
theorem dX10_seen_7 : decode cX10_seen 7 = .ok (.ifCond .eq 13, 3) := by decide +kernel
theorem dX10_seen_10 : decode cX10_seen 10 = .ok (.iload_n 2, 1) := by decide +kernel
theorem dX10_seen_11 : decode cX10_seen 11 = .ok (.iconst 0, 1) := by decide +kernel
theorem dX10_seen_12 : decode cX10_seen 12 = .ok (.bipush 99, 2) := by decide +kernel
theorem dX10_seen_14 : decode cX10_seen 14 = .ok (.invokestatic 51, 3) := by decide +kernel
theorem dX10_seen_17 : decode cX10_seen 17 = .ok (.ifCond .ne 6, 3) := by decide +kernel
theorem dX10_seen_20 : decode cX10_seen 20 = .ok (.bipush (-2), 2) := by decide +kernel
theorem dX10_seen_22 : decode cX10_seen 22 = .ok (.ireturn, 1) := by decide +kernel
theorem dX10_seen_23 : decode cX10_seen 23 = .ok (.aload_n 0, 1) := by decide +kernel
theorem dX10_seen_24 : decode cX10_seen 24 = .ok (.getfield 152, 3) := by decide +kernel
theorem dX10_seen_27 : decode cX10_seen 27 = .ok (.bipush 8, 2) := by decide +kernel
theorem dX10_seen_29 : decode cX10_seen 29 = .ok (.if_icmp .ne 6, 3) := by decide +kernel
theorem dX10_seen_32 : decode cX10_seen 32 = .ok (.bipush (-4), 2) := by decide +kernel
theorem dX10_seen_34 : decode cX10_seen 34 = .ok (.ireturn, 1) := by decide +kernel
theorem dX10_seen_35 : decode cX10_seen 35 = .ok (.aload_n 0, 1) := by decide +kernel
theorem dX10_seen_36 : decode cX10_seen 36 = .ok (.getfield 25, 3) := by decide +kernel
theorem dX10_seen_39 : decode cX10_seen 39 = .ok (.iconst 2, 1) := by decide +kernel
theorem dX10_seen_40 : decode cX10_seen 40 = .ok (.aload_n 0, 1) := by decide +kernel
theorem dX10_seen_41 : decode cX10_seen 41 = .ok (.getfield 152, 3) := by decide +kernel
theorem dX10_seen_44 : decode cX10_seen 44 = .ok (.imul, 1) := by decide +kernel
theorem dX10_seen_45 : decode cX10_seen 45 = .ok (.iload_n 1, 1) := by decide +kernel
theorem dX10_seen_46 : decode cX10_seen 46 = .ok (.iastore, 1) := by decide +kernel
theorem dX10_seen_47 : decode cX10_seen 47 = .ok (.aload_n 0, 1) := by decide +kernel
theorem dX10_seen_48 : decode cX10_seen 48 = .ok (.getfield 25, 3) := by decide +kernel
theorem dX10_seen_51 : decode cX10_seen 51 = .ok (.iconst 2, 1) := by decide +kernel
theorem dX10_seen_52 : decode cX10_seen 52 = .ok (.aload_n 0, 1) := by decide +kernel
theorem dX10_seen_53 : decode cX10_seen 53 = .ok (.getfield 152, 3) := by decide +kernel
theorem dX10_seen_56 : decode cX10_seen 56 = .ok (.imul, 1) := by decide +kernel
theorem dX10_seen_57 : decode cX10_seen 57 = .ok (.iconst 1, 1) := by decide +kernel
theorem dX10_seen_58 : decode cX10_seen 58 = .ok (.iadd, 1) := by decide +kernel
theorem dX10_seen_59 : decode cX10_seen 59 = .ok (.iload_n 2, 1) := by decide +kernel
theorem dX10_seen_60 : decode cX10_seen 60 = .ok (.iastore, 1) := by decide +kernel
theorem dX10_seen_61 : decode cX10_seen 61 = .ok (.aload_n 0, 1) := by decide +kernel
theorem dX10_seen_62 : decode cX10_seen 62 = .ok (.dup, 1) := by decide +kernel
theorem dX10_seen_63 : decode cX10_seen 63 = .ok (.getfield 152, 3) := by decide +kernel
theorem dX10_seen_66 : decode cX10_seen 66 = .ok (.iconst 1, 1) := by decide +kernel
theorem dX10_seen_67 : decode cX10_seen 67 = .ok (.iadd, 1) := by decide +kernel
theorem dX10_seen_68 : decode cX10_seen 68 = .ok (.putfield 152, 3) := by decide +kernel
theorem dX10_seen_71 : decode cX10_seen 71 = .ok (.aload_n 0, 1) := by decide +kernel
theorem dX10_seen_72 : decode cX10_seen 72 = .ok (.getfield 152, 3) := by decide +kernel
theorem dX10_seen_75 : decode cX10_seen 75 = .ok (.ireturn, 1) := by decide +kernel
theorem dX10_forget_0 : decode cX10_forget 0 = .ok (.aload_n 0, 1) := by decide +kernel
theorem dX10_forget_1 : decode cX10_forget 1 = .ok (.getfield 152, 3) := by decide +kernel
theorem dX10_forget_4 : decode cX10_forget 4 = .ok (.istore_n 1, 1) := by decide +kernel
theorem dX10_forget_5 : decode cX10_forget 5 = .ok (.aload_n 0, 1) := by decide +kernel
theorem dX10_forget_6 : decode cX10_forget 6 = .ok (.iconst 0, 1) := by decide +kernel
theorem dX10_forget_7 : decode cX10_forget 7 = .ok (.putfield 152, 3) := by decide +kernel
theorem dX10_forget_10 : decode cX10_forget 10 = .ok (.iload_n 1, 1) := by decide +kernel
theorem dX10_forget_11 : decode cX10_forget 11 = .ok (.ireturn, 1) := by decide +kernel
theorem dX10_flyingAt_0 : decode cX10_flyingAt 0 = .ok (.iload_n 1, 1) := by decide +kernel
theorem dX10_flyingAt_1 : decode cX10_flyingAt 1 = .ok (.iload_n 0, 1) := by decide +kernel
theorem dX10_flyingAt_2 : decode cX10_flyingAt 2 = .ok (.bipush 100, 2) := by decide +kernel
theorem dX10_flyingAt_4 : decode cX10_flyingAt 4 = .ok (.irem, 1) := by decide +kernel
theorem dX10_flyingAt_5 : decode cX10_flyingAt 5 = .ok (.isub, 1) := by decide +kernel
theorem dX10_flyingAt_6 : decode cX10_flyingAt 6 = .ok (.istore_n 2, 1) := by decide +kernel
theorem dX10_flyingAt_7 : decode cX10_flyingAt 7 = .ok (.bipush 10, 2) := by decide +kernel
theorem dX10_flyingAt_9 : decode cX10_flyingAt 9 = .ok (.iload_n 0, 1) := by decide +kernel
theorem dX10_flyingAt_10 : decode cX10_flyingAt 10 = .ok (.bipush 100, 2) := by decide +kernel
theorem dX10_flyingAt_12 : decode cX10_flyingAt 12 = .ok (.idiv, 1) := by decide +kernel
theorem dX10_flyingAt_13 : decode cX10_flyingAt 13 = .ok (.imul, 1) := by decide +kernel
theorem dX10_flyingAt_14 : decode cX10_flyingAt 14 = .ok (.bipush 7, 2) := by decide +kernel
theorem dX10_flyingAt_16 : decode cX10_flyingAt 16 = .ok (.iload_n 2, 1) := by decide +kernel
theorem dX10_flyingAt_17 : decode cX10_flyingAt 17 = .ok (.imul, 1) := by decide +kernel
theorem dX10_flyingAt_18 : decode cX10_flyingAt 18 = .ok (.isub, 1) := by decide +kernel
theorem dX10_flyingAt_19 : decode cX10_flyingAt 19 = .ok (.istore_n 3, 1) := by decide +kernel
theorem dX10_flyingAt_20 : decode cX10_flyingAt 20 = .ok (.iload_n 2, 1) := by decide +kernel
theorem dX10_flyingAt_21 : decode cX10_flyingAt 21 = .ok (.ifCond .lt 7, 3) := by decide +kernel
theorem dX10_flyingAt_24 : decode cX10_flyingAt 24 = .ok (.iload_n 3, 1) := by decide +kernel
theorem dX10_flyingAt_25 : decode cX10_flyingAt 25 = .ok (.ifCond .ge 7, 3) := by decide +kernel
theorem dX10_flyingAt_28 : decode cX10_flyingAt 28 = .ok (.iconst 0, 1) := by decide +kernel
theorem dX10_flyingAt_29 : decode cX10_flyingAt 29 = .ok (.goto 4, 3) := by decide +kernel
theorem dX10_flyingAt_32 : decode cX10_flyingAt 32 = .ok (.iload_n 3, 1) := by decide +kernel
theorem dX10_flyingAt_33 : decode cX10_flyingAt 33 = .ok (.ireturn, 1) := by decide +kernel
set_option maxRecDepth 20000 in
theorem ggX10_isFit_X10_in : GoodIn wsX10_isFit wsX10_in := goodIn_r _ [6] (by decide +kernel) (by decide +kernel)
set_option maxRecDepth 20000 in
theorem gX10_isFit_X10_in : GoodIn wsX10_isFit (va_wsS RX10 51 yX10_in wsX10_in) := goodIn_app (goodIn_of _ (by decide +kernel)) ggX10_isFit_X10_in
set_option maxRecDepth 20000 in
theorem ggX10_isFit_X10_flyingAt : GoodIn wsX10_isFit wsX10_flyingAt := goodIn_r _ [9] (by decide +kernel) (by decide +kernel)
set_option maxRecDepth 20000 in
theorem gX10_isFit_X10_flyingAt : GoodIn wsX10_isFit (va_wsS RX10 155 yX10_flyingAt wsX10_flyingAt) := goodIn_app (goodIn_of _ (by decide +kernel)) ggX10_isFit_X10_flyingAt
theorem dX10_isFit_0 : decode cX10_isFit 0 = .ok (.iload_n 1, 1) := by decide +kernel
theorem dX10_isFit_1 : decode cX10_isFit 1 = .ok (.bipush 100, 2) := by decide +kernel
theorem dX10_isFit_3 : decode cX10_isFit 3 = .ok (.idiv, 1) := by decide +kernel
theorem dX10_isFit_4 : decode cX10_isFit 4 = .ok (.iconst 1, 1) := by decide +kernel
theorem dX10_isFit_5 : decode cX10_isFit 5 = .ok (.bipush 9, 2) := by decide +kernel
theorem dX10_isFit_7 : decode cX10_isFit 7 = .ok (.invokestatic 51, 3) := by decide +kernel
theorem dX10_isFit_10 : decode cX10_isFit 10 = .ok (.ifCond .eq 16, 3) := by decide +kernel
theorem dX10_isFit_13 : decode cX10_isFit 13 = .ok (.iload_n 1, 1) := by decide +kernel
theorem dX10_isFit_14 : decode cX10_isFit 14 = .ok (.bipush 100, 2) := by decide +kernel
theorem dX10_isFit_16 : decode cX10_isFit 16 = .ok (.irem, 1) := by decide +kernel
theorem dX10_isFit_17 : decode cX10_isFit 17 = .ok (.bipush 21, 2) := by decide +kernel
theorem dX10_isFit_19 : decode cX10_isFit 19 = .ok (.if_icmp .ge 7, 3) := by decide +kernel
theorem dX10_isFit_22 : decode cX10_isFit 22 = .ok (.iconst 1, 1) := by decide +kernel
theorem dX10_isFit_23 : decode cX10_isFit 23 = .ok (.goto 4, 3) := by decide +kernel
theorem dX10_isFit_26 : decode cX10_isFit 26 = .ok (.iconst 0, 1) := by decide +kernel
theorem dX10_isFit_27 : decode cX10_isFit 27 = .ok (.istore_n 2, 1) := by decide +kernel
theorem dX10_isFit_28 : decode cX10_isFit 28 = .ok (.iconst 0, 1) := by decide +kernel
theorem dX10_isFit_29 : decode cX10_isFit 29 = .ok (.istore_n 3, 1) := by decide +kernel
theorem dX10_isFit_30 : decode cX10_isFit 30 = .ok (.iload_n 3, 1) := by decide +kernel
theorem dX10_isFit_31 : decode cX10_isFit 31 = .ok (.aload_n 0, 1) := by decide +kernel
theorem dX10_isFit_32 : decode cX10_isFit 32 = .ok (.getfield 152, 3) := by decide +kernel
theorem dX10_isFit_35 : decode cX10_isFit 35 = .ok (.if_icmp .ge 44, 3) := by decide +kernel
theorem dX10_isFit_38 : decode cX10_isFit 38 = .ok (.iload_n 2, 1) := by decide +kernel
theorem dX10_isFit_39 : decode cX10_isFit 39 = .ok (.ifCond .eq 40, 3) := by decide +kernel
theorem dX10_isFit_42 : decode cX10_isFit 42 = .ok (.iload_n 1, 1) := by decide +kernel
theorem dX10_isFit_43 : decode cX10_isFit 43 = .ok (.aload_n 0, 1) := by decide +kernel
theorem dX10_isFit_44 : decode cX10_isFit 44 = .ok (.getfield 25, 3) := by decide +kernel
theorem dX10_isFit_47 : decode cX10_isFit 47 = .ok (.iconst 2, 1) := by decide +kernel
theorem dX10_isFit_48 : decode cX10_isFit 48 = .ok (.iload_n 3, 1) := by decide +kernel
theorem dX10_isFit_49 : decode cX10_isFit 49 = .ok (.imul, 1) := by decide +kernel
theorem dX10_isFit_50 : decode cX10_isFit 50 = .ok (.iaload, 1) := by decide +kernel
theorem dX10_isFit_51 : decode cX10_isFit 51 = .ok (.invokestatic 155, 3) := by decide +kernel
theorem dX10_isFit_54 : decode cX10_isFit 54 = .ok (.aload_n 0, 1) := by decide +kernel
theorem dX10_isFit_55 : decode cX10_isFit 55 = .ok (.getfield 25, 3) := by decide +kernel
theorem dX10_isFit_58 : decode cX10_isFit 58 = .ok (.iconst 2, 1) := by decide +kernel
theorem dX10_isFit_59 : decode cX10_isFit 59 = .ok (.iload_n 3, 1) := by decide +kernel
theorem dX10_isFit_60 : decode cX10_isFit 60 = .ok (.imul, 1) := by decide +kernel
theorem dX10_isFit_61 : decode cX10_isFit 61 = .ok (.iconst 1, 1) := by decide +kernel
theorem dX10_isFit_62 : decode cX10_isFit 62 = .ok (.iadd, 1) := by decide +kernel
theorem dX10_isFit_63 : decode cX10_isFit 63 = .ok (.iaload, 1) := by decide +kernel
theorem dX10_isFit_64 : decode cX10_isFit 64 = .ok (.if_icmp .ne 7, 3) := by decide +kernel
theorem dX10_isFit_67 : decode cX10_isFit 67 = .ok (.iconst 1, 1) := by decide +kernel
theorem dX10_isFit_68 : decode cX10_isFit 68 = .ok (.goto 4, 3) := by decide +kernel
theorem dX10_isFit_71 : decode cX10_isFit 71 = .ok (.iconst 0, 1) := by decide +kernel
theorem dX10_isFit_72 : decode cX10_isFit 72 = .ok (.istore_n 2, 1) := by decide +kernel
theorem dX10_isFit_73 : decode cX10_isFit 73 = .ok (.iinc 3 1, 3) := by decide +kernel
theorem dX10_isFit_76 : decode cX10_isFit 76 = .ok (.goto (-46), 3) := by decide +kernel
theorem dX10_isFit_79 : decode cX10_isFit 79 = .ok (.iload_n 2, 1) := by decide +kernel
theorem dX10_isFit_80 : decode cX10_isFit 80 = .ok (.ireturn, 1) := by decide +kernel
set_option maxRecDepth 20000 in
theorem ggX10_who_X10_isFit : GoodIn wsX10_who wsX10_isFit := goodIn_r _ [5, 6, 7, 8, 9, 4, 10, 11, 12, 13, 14, 15, 16, 17, 18, 19, 20, 21, 22, 23, 24, 25, 26, 27, 28, 29, 30, 31, 32, 33] (by decide +kernel) (by decide +kernel)
set_option maxRecDepth 20000 in
theorem gX10_who_X10_isFit : GoodIn wsX10_who (wsV RX10 158 RX10 yX10_isFit wsX10_isFit) := goodIn_app (goodIn_of _ (by decide +kernel)) ggX10_who_X10_isFit
theorem dX10_who_0 : decode cX10_who 0 = .ok (.iconst 0, 1) := by decide +kernel
theorem dX10_who_1 : decode cX10_who 1 = .ok (.istore_n 2, 1) := by decide +kernel
theorem dX10_who_2 : decode cX10_who 2 = .ok (.bipush 100, 2) := by decide +kernel
theorem dX10_who_4 : decode cX10_who 4 = .ok (.istore_n 3, 1) := by decide +kernel
theorem dX10_who_5 : decode cX10_who 5 = .ok (.iload_n 3, 1) := by decide +kernel
theorem dX10_who_6 : decode cX10_who 6 = .ok (.sipush 1000, 3) := by decide +kernel
theorem dX10_who_9 : decode cX10_who 9 = .ok (.if_icmp .ge 27, 3) := by decide +kernel
theorem dX10_who_12 : decode cX10_who 12 = .ok (.aload_n 0, 1) := by decide +kernel
theorem dX10_who_13 : decode cX10_who 13 = .ok (.iload_n 3, 1) := by decide +kernel
theorem dX10_who_14 : decode cX10_who 14 = .ok (.invokevirtual 158, 3) := by decide +kernel
theorem dX10_who_17 : decode cX10_who 17 = .ok (.ifCond .eq 13, 3) := by decide +kernel
theorem dX10_who_20 : decode cX10_who 20 = .ok (.iload_n 2, 1) := by decide +kernel
theorem dX10_who_21 : decode cX10_who 21 = .ok (.iload_n 1, 1) := by decide +kernel
theorem dX10_who_22 : decode cX10_who 22 = .ok (.if_icmp .ne 5, 3) := by decide +kernel
theorem dX10_who_25 : decode cX10_who 25 = .ok (.iload_n 3, 1) := by decide +kernel
theorem dX10_who_26 : decode cX10_who 26 = .ok (.ireturn, 1) := by decide +kernel
theorem dX10_who_27 : decode cX10_who 27 = .ok (.iinc 2 1, 3) := by decide +kernel
theorem dX10_who_30 : decode cX10_who 30 = .ok (.iinc 3 1, 3) := by decide +kernel
theorem dX10_who_33 : decode cX10_who 33 = .ok (.goto (-28), 3) := by decide +kernel
theorem dX10_who_36 : decode cX10_who 36 = .ok (.iload_n 1, 1) := by decide +kernel
theorem dX10_who_37 : decode cX10_who 37 = .ok (.iconst (-1), 1) := by decide +kernel
theorem dX10_who_38 : decode cX10_who 38 = .ok (.if_icmp .ne 7, 3) := by decide +kernel
theorem dX10_who_41 : decode cX10_who 41 = .ok (.iload_n 2, 1) := by decide +kernel
theorem dX10_who_42 : decode cX10_who 42 = .ok (.goto 5, 3) := by decide +kernel
theorem dX10_who_45 : decode cX10_who 45 = .ok (.bipush (-6), 2) := by decide +kernel
theorem dX10_who_47 : decode cX10_who 47 = .ok (.ireturn, 1) := by decide +kernel
set_option maxRecDepth 20000 in
theorem ggX10_ask_X10_in : GoodIn wsX10_ask wsX10_in := goodIn_r _ [6] (by decide +kernel) (by decide +kernel)
set_option maxRecDepth 20000 in
theorem gX10_ask_X10_in : GoodIn wsX10_ask (va_wsS RX10 51 yX10_in wsX10_in) := goodIn_app (goodIn_of _ (by decide +kernel)) ggX10_ask_X10_in
set_option maxRecDepth 20000 in
theorem ggX10_ask_X10_isFit : GoodIn wsX10_ask wsX10_isFit := goodIn_r _ [10, 11, 12, 3, 4, 5, 6, 13, 14, 15, 16, 17, 18, 19, 20, 21, 22, 23, 24, 25, 26, 27, 28, 29, 30, 31, 32, 33, 34, 35] (by decide +kernel) (by decide +kernel)
set_option maxRecDepth 20000 in
theorem gX10_ask_X10_isFit : GoodIn wsX10_ask (wsV RX10 158 RX10 yX10_isFit wsX10_isFit) := goodIn_app (goodIn_of _ (by decide +kernel)) ggX10_ask_X10_isFit
set_option maxRecDepth 20000 in
theorem ggX10_ask_X10_flyingAt : GoodIn wsX10_ask wsX10_flyingAt := goodIn_r _ [15] (by decide +kernel) (by decide +kernel)
set_option maxRecDepth 20000 in
theorem gX10_ask_X10_flyingAt : GoodIn wsX10_ask (va_wsS RX10 155 yX10_flyingAt wsX10_flyingAt) := goodIn_app (goodIn_of _ (by decide +kernel)) ggX10_ask_X10_flyingAt
theorem dX10_ask_0 : decode cX10_ask 0 = .ok (.iload_n 1, 1) := by decide +kernel
theorem dX10_ask_1 : decode cX10_ask 1 = .ok (.iconst 0, 1) := by decide +kernel
theorem dX10_ask_2 : decode cX10_ask 2 = .ok (.iconst 1, 1) := by decide +kernel
theorem dX10_ask_3 : decode cX10_ask 3 = .ok (.invokestatic 51, 3) := by decide +kernel
theorem dX10_ask_6 : decode cX10_ask 6 = .ok (.ifCond .ne 6, 3) := by decide +kernel
theorem dX10_ask_9 : decode cX10_ask 9 = .ok (.bipush (-2), 2) := by decide +kernel
theorem dX10_ask_11 : decode cX10_ask 11 = .ok (.ireturn, 1) := by decide +kernel
theorem dX10_ask_12 : decode cX10_ask 12 = .ok (.bipush (-6), 2) := by decide +kernel
theorem dX10_ask_14 : decode cX10_ask 14 = .ok (.istore_n 2, 1) := by decide +kernel
theorem dX10_ask_15 : decode cX10_ask 15 = .ok (.ldc 141, 2) := by decide +kernel
theorem dX10_ask_17 : decode cX10_ask 17 = .ok (.istore_n 3, 1) := by decide +kernel
theorem dX10_ask_18 : decode cX10_ask 18 = .ok (.iconst 0, 1) := by decide +kernel
theorem dX10_ask_19 : decode cX10_ask 19 = .ok (.istore 4, 2) := by decide +kernel
theorem dX10_ask_21 : decode cX10_ask 21 = .ok (.iload 4, 2) := by decide +kernel
theorem dX10_ask_23 : decode cX10_ask 23 = .ok (.bipush 61, 2) := by decide +kernel
theorem dX10_ask_25 : decode cX10_ask 25 = .ok (.if_icmp .ge 151, 3) := by decide +kernel
theorem dX10_ask_28 : decode cX10_ask 28 = .ok (.iconst 0, 1) := by decide +kernel
theorem dX10_ask_29 : decode cX10_ask 29 = .ok (.istore 5, 2) := by decide +kernel
theorem dX10_ask_31 : decode cX10_ask 31 = .ok (.iconst 0, 1) := by decide +kernel
theorem dX10_ask_32 : decode cX10_ask 32 = .ok (.istore 6, 2) := by decide +kernel
theorem dX10_ask_34 : decode cX10_ask 34 = .ok (.iload 6, 2) := by decide +kernel
theorem dX10_ask_36 : decode cX10_ask 36 = .ok (.bipush 100, 2) := by decide +kernel
theorem dX10_ask_38 : decode cX10_ask 38 = .ok (.if_icmp .ge 17, 3) := by decide +kernel
theorem dX10_ask_41 : decode cX10_ask 41 = .ok (.aload_n 0, 1) := by decide +kernel
theorem dX10_ask_42 : decode cX10_ask 42 = .ok (.getfield 34, 3) := by decide +kernel
theorem dX10_ask_45 : decode cX10_ask 45 = .ok (.iload 6, 2) := by decide +kernel
theorem dX10_ask_47 : decode cX10_ask 47 = .ok (.iconst 0, 1) := by decide +kernel
theorem dX10_ask_48 : decode cX10_ask 48 = .ok (.iastore, 1) := by decide +kernel
theorem dX10_ask_49 : decode cX10_ask 49 = .ok (.iinc 6 1, 3) := by decide +kernel
theorem dX10_ask_52 : decode cX10_ask 52 = .ok (.goto (-18), 3) := by decide +kernel
theorem dX10_ask_55 : decode cX10_ask 55 = .ok (.bipush 100, 2) := by decide +kernel
theorem dX10_ask_57 : decode cX10_ask 57 = .ok (.istore 6, 2) := by decide +kernel
theorem dX10_ask_59 : decode cX10_ask 59 = .ok (.iload 6, 2) := by decide +kernel
theorem dX10_ask_61 : decode cX10_ask 61 = .ok (.sipush 1000, 3) := by decide +kernel
theorem dX10_ask_64 : decode cX10_ask 64 = .ok (.if_icmp .ge 64, 3) := by decide +kernel
theorem dX10_ask_67 : decode cX10_ask 67 = .ok (.aload_n 0, 1) := by decide +kernel
theorem dX10_ask_68 : decode cX10_ask 68 = .ok (.iload 6, 2) := by decide +kernel
theorem dX10_ask_70 : decode cX10_ask 70 = .ok (.invokevirtual 158, 3) := by decide +kernel
theorem dX10_ask_73 : decode cX10_ask 73 = .ok (.ifCond .eq 49, 3) := by decide +kernel
theorem dX10_ask_76 : decode cX10_ask 76 = .ok (.iload 6, 2) := by decide +kernel
theorem dX10_ask_78 : decode cX10_ask 78 = .ok (.iload 4, 2) := by decide +kernel
theorem dX10_ask_80 : decode cX10_ask 80 = .ok (.invokestatic 155, 3) := by decide +kernel
theorem dX10_ask_83 : decode cX10_ask 83 = .ok (.istore 7, 2) := by decide +kernel
theorem dX10_ask_85 : decode cX10_ask 85 = .ok (.aload_n 0, 1) := by decide +kernel
theorem dX10_ask_86 : decode cX10_ask 86 = .ok (.getfield 34, 3) := by decide +kernel
theorem dX10_ask_89 : decode cX10_ask 89 = .ok (.iload 7, 2) := by decide +kernel
theorem dX10_ask_91 : decode cX10_ask 91 = .ok (.dup2, 1) := by decide +kernel
theorem dX10_ask_92 : decode cX10_ask 92 = .ok (.iaload, 1) := by decide +kernel
theorem dX10_ask_93 : decode cX10_ask 93 = .ok (.iconst 1, 1) := by decide +kernel
theorem dX10_ask_94 : decode cX10_ask 94 = .ok (.iadd, 1) := by decide +kernel
theorem dX10_ask_95 : decode cX10_ask 95 = .ok (.iastore, 1) := by decide +kernel
theorem dX10_ask_96 : decode cX10_ask 96 = .ok (.aload_n 0, 1) := by decide +kernel
theorem dX10_ask_97 : decode cX10_ask 97 = .ok (.getfield 34, 3) := by decide +kernel
theorem dX10_ask_100 : decode cX10_ask 100 = .ok (.iload 7, 2) := by decide +kernel
theorem dX10_ask_102 : decode cX10_ask 102 = .ok (.iaload, 1) := by decide +kernel
theorem dX10_ask_103 : decode cX10_ask 103 = .ok (.iload 5, 2) := by decide +kernel
theorem dX10_ask_105 : decode cX10_ask 105 = .ok (.if_icmp .le 13, 3) := by decide +kernel
theorem dX10_ask_108 : decode cX10_ask 108 = .ok (.aload_n 0, 1) := by decide +kernel
theorem dX10_ask_109 : decode cX10_ask 109 = .ok (.getfield 34, 3) := by decide +kernel
theorem dX10_ask_112 : decode cX10_ask 112 = .ok (.iload 7, 2) := by decide +kernel
theorem dX10_ask_114 : decode cX10_ask 114 = .ok (.iaload, 1) := by decide +kernel
theorem dX10_ask_115 : decode cX10_ask 115 = .ok (.goto 5, 3) := by decide +kernel
theorem dX10_ask_118 : decode cX10_ask 118 = .ok (.iload 5, 2) := by decide +kernel
theorem dX10_ask_120 : decode cX10_ask 120 = .ok (.istore 5, 2) := by decide +kernel
theorem dX10_ask_122 : decode cX10_ask 122 = .ok (.iinc 6 1, 3) := by decide +kernel
theorem dX10_ask_125 : decode cX10_ask 125 = .ok (.goto (-66), 3) := by decide +kernel
theorem dX10_ask_128 : decode cX10_ask 128 = .ok (.iload 5, 2) := by decide +kernel
theorem dX10_ask_130 : decode cX10_ask 130 = .ok (.ifCond .le 13, 3) := by decide +kernel
theorem dX10_ask_133 : decode cX10_ask 133 = .ok (.iload 5, 2) := by decide +kernel
theorem dX10_ask_135 : decode cX10_ask 135 = .ok (.iload_n 3, 1) := by decide +kernel
theorem dX10_ask_136 : decode cX10_ask 136 = .ok (.if_icmp .ge 7, 3) := by decide +kernel
theorem dX10_ask_139 : decode cX10_ask 139 = .ok (.iconst 1, 1) := by decide +kernel
theorem dX10_ask_140 : decode cX10_ask 140 = .ok (.goto 4, 3) := by decide +kernel
theorem dX10_ask_143 : decode cX10_ask 143 = .ok (.iconst 0, 1) := by decide +kernel
theorem dX10_ask_144 : decode cX10_ask 144 = .ok (.istore 6, 2) := by decide +kernel
theorem dX10_ask_146 : decode cX10_ask 146 = .ok (.iload 6, 2) := by decide +kernel
theorem dX10_ask_148 : decode cX10_ask 148 = .ok (.ifCond .eq 8, 3) := by decide +kernel
theorem dX10_ask_151 : decode cX10_ask 151 = .ok (.iload 4, 2) := by decide +kernel
theorem dX10_ask_153 : decode cX10_ask 153 = .ok (.goto 4, 3) := by decide +kernel
theorem dX10_ask_156 : decode cX10_ask 156 = .ok (.iload_n 2, 1) := by decide +kernel
theorem dX10_ask_157 : decode cX10_ask 157 = .ok (.istore_n 2, 1) := by decide +kernel
theorem dX10_ask_158 : decode cX10_ask 158 = .ok (.iload 6, 2) := by decide +kernel
theorem dX10_ask_160 : decode cX10_ask 160 = .ok (.ifCond .eq 8, 3) := by decide +kernel
theorem dX10_ask_163 : decode cX10_ask 163 = .ok (.iload 5, 2) := by decide +kernel
theorem dX10_ask_165 : decode cX10_ask 165 = .ok (.goto 4, 3) := by decide +kernel
theorem dX10_ask_168 : decode cX10_ask 168 = .ok (.iload_n 3, 1) := by decide +kernel
theorem dX10_ask_169 : decode cX10_ask 169 = .ok (.istore_n 3, 1) := by decide +kernel
theorem dX10_ask_170 : decode cX10_ask 170 = .ok (.iinc 4 1, 3) := by decide +kernel
theorem dX10_ask_173 : decode cX10_ask 173 = .ok (.goto (-152), 3) := by decide +kernel
theorem dX10_ask_176 : decode cX10_ask 176 = .ok (.iload_n 2, 1) := by decide +kernel
theorem dX10_ask_177 : decode cX10_ask 177 = .ok (.ifCond .lt 7, 3) := by decide +kernel
theorem dX10_ask_180 : decode cX10_ask 180 = .ok (.iload_n 1, 1) := by decide +kernel
theorem dX10_ask_181 : decode cX10_ask 181 = .ok (.ifCond .ne 7, 3) := by decide +kernel
theorem dX10_ask_184 : decode cX10_ask 184 = .ok (.iload_n 2, 1) := by decide +kernel
theorem dX10_ask_185 : decode cX10_ask 185 = .ok (.goto 4, 3) := by decide +kernel
theorem dX10_ask_188 : decode cX10_ask 188 = .ok (.iload_n 3, 1) := by decide +kernel
theorem dX10_ask_189 : decode cX10_ask 189 = .ok (.ireturn, 1) := by decide +kernel
set_option maxRecDepth 20000 in
theorem ggX10_worthBut_X10_isThere : GoodIn wsX10_worthBut wsX10_isThere := goodIn_r _ [7, 2, 8, 9, 6, 10, 11, 12, 13, 23, 24, 25, 26, 27, 28, 29, 30, 31, 32, 33, 34, 35, 36, 37, 38, 39, 40, 41, 42] (by decide +kernel) (by decide +kernel)
set_option maxRecDepth 20000 in
theorem gX10_worthBut_X10_isThere : GoodIn wsX10_worthBut (wsV RX10 59 RX10 yX10_isThere wsX10_isThere) := goodIn_app (goodIn_of _ (by decide +kernel)) ggX10_worthBut_X10_isThere
set_option maxRecDepth 20000 in
theorem ggX10_worthBut_X10_look : GoodIn wsX10_worthBut wsX10_look := goodIn_r _ [17, 2, 3, 4, 5, 6, 7, 8, 9, 10, 11, 12, 13, 23, 24, 25, 26, 27, 28, 29, 30, 31, 32, 33, 34, 35, 36, 37, 38, 39, 40, 41, 42] (by decide +kernel) (by decide +kernel)
set_option maxRecDepth 20000 in
theorem gX10_worthBut_X10_look : GoodIn wsX10_worthBut (wsV RX10 161 RX10 yX10_look wsX10_look) := goodIn_app (goodIn_of _ (by decide +kernel)) ggX10_worthBut_X10_look
set_option maxRecDepth 20000 in
theorem ggX10_worthBut_X10_isWithin : GoodIn wsX10_worthBut wsX10_isWithin := goodIn_r _ [21, 22, 23, 24, 25, 26, 27, 28, 29, 30, 31, 32, 33, 34, 35, 36, 37, 38, 39, 40, 41, 42] (by decide +kernel) (by decide +kernel)
set_option maxRecDepth 20000 in
theorem gX10_worthBut_X10_isWithin : GoodIn wsX10_worthBut (wsV RX10 74 RX10 yX10_isWithin wsX10_isWithin) := goodIn_app (goodIn_of _ (by decide +kernel)) ggX10_worthBut_X10_isWithin
theorem dX10_worthBut_0 : decode cX10_worthBut 0 = .ok (.iconst 0, 1) := by decide +kernel
theorem dX10_worthBut_1 : decode cX10_worthBut 1 = .ok (.istore_n 2, 1) := by decide +kernel
theorem dX10_worthBut_2 : decode cX10_worthBut 2 = .ok (.iconst 0, 1) := by decide +kernel
theorem dX10_worthBut_3 : decode cX10_worthBut 3 = .ok (.istore_n 3, 1) := by decide +kernel
theorem dX10_worthBut_4 : decode cX10_worthBut 4 = .ok (.iload_n 3, 1) := by decide +kernel
theorem dX10_worthBut_5 : decode cX10_worthBut 5 = .ok (.bipush 8, 2) := by decide +kernel
theorem dX10_worthBut_7 : decode cX10_worthBut 7 = .ok (.if_icmp .ge 16, 3) := by decide +kernel
theorem dX10_worthBut_10 : decode cX10_worthBut 10 = .ok (.aload_n 0, 1) := by decide +kernel
theorem dX10_worthBut_11 : decode cX10_worthBut 11 = .ok (.getfield 37, 3) := by decide +kernel
theorem dX10_worthBut_14 : decode cX10_worthBut 14 = .ok (.iload_n 3, 1) := by decide +kernel
theorem dX10_worthBut_15 : decode cX10_worthBut 15 = .ok (.iconst 0, 1) := by decide +kernel
theorem dX10_worthBut_16 : decode cX10_worthBut 16 = .ok (.iastore, 1) := by decide +kernel
theorem dX10_worthBut_17 : decode cX10_worthBut 17 = .ok (.iinc 3 1, 3) := by decide +kernel
theorem dX10_worthBut_20 : decode cX10_worthBut 20 = .ok (.goto (-16), 3) := by decide +kernel
theorem dX10_worthBut_23 : decode cX10_worthBut 23 = .ok (.bipush 7, 2) := by decide +kernel
theorem dX10_worthBut_25 : decode cX10_worthBut 25 = .ok (.istore_n 3, 1) := by decide +kernel
theorem dX10_worthBut_26 : decode cX10_worthBut 26 = .ok (.iload_n 3, 1) := by decide +kernel
theorem dX10_worthBut_27 : decode cX10_worthBut 27 = .ok (.ifCond .lt 111, 3) := by decide +kernel
theorem dX10_worthBut_30 : decode cX10_worthBut 30 = .ok (.iconst 0, 1) := by decide +kernel
theorem dX10_worthBut_31 : decode cX10_worthBut 31 = .ok (.istore 4, 2) := by decide +kernel
theorem dX10_worthBut_33 : decode cX10_worthBut 33 = .ok (.iload 4, 2) := by decide +kernel
theorem dX10_worthBut_35 : decode cX10_worthBut 35 = .ok (.bipush 8, 2) := by decide +kernel
theorem dX10_worthBut_37 : decode cX10_worthBut 37 = .ok (.if_icmp .ge 95, 3) := by decide +kernel
theorem dX10_worthBut_40 : decode cX10_worthBut 40 = .ok (.aload_n 0, 1) := by decide +kernel
theorem dX10_worthBut_41 : decode cX10_worthBut 41 = .ok (.iload 4, 2) := by decide +kernel
theorem dX10_worthBut_43 : decode cX10_worthBut 43 = .ok (.invokevirtual 59, 3) := by decide +kernel
theorem dX10_worthBut_46 : decode cX10_worthBut 46 = .ok (.ifCond .eq 80, 3) := by decide +kernel
theorem dX10_worthBut_49 : decode cX10_worthBut 49 = .ok (.aload_n 0, 1) := by decide +kernel
theorem dX10_worthBut_50 : decode cX10_worthBut 50 = .ok (.iload 4, 2) := by decide +kernel
theorem dX10_worthBut_52 : decode cX10_worthBut 52 = .ok (.iconst 1, 1) := by decide +kernel
theorem dX10_worthBut_53 : decode cX10_worthBut 53 = .ok (.invokevirtual 161, 3) := by decide +kernel
theorem dX10_worthBut_56 : decode cX10_worthBut 56 = .ok (.iload_n 3, 1) := by decide +kernel
theorem dX10_worthBut_57 : decode cX10_worthBut 57 = .ok (.if_icmp .ne 69, 3) := by decide +kernel
theorem dX10_worthBut_60 : decode cX10_worthBut 60 = .ok (.iload_n 1, 1) := by decide +kernel
theorem dX10_worthBut_61 : decode cX10_worthBut 61 = .ok (.ifCond .lt 13, 3) := by decide +kernel
theorem dX10_worthBut_64 : decode cX10_worthBut 64 = .ok (.aload_n 0, 1) := by decide +kernel
theorem dX10_worthBut_65 : decode cX10_worthBut 65 = .ok (.iload 4, 2) := by decide +kernel
theorem dX10_worthBut_67 : decode cX10_worthBut 67 = .ok (.iload_n 1, 1) := by decide +kernel
theorem dX10_worthBut_68 : decode cX10_worthBut 68 = .ok (.invokevirtual 74, 3) := by decide +kernel
theorem dX10_worthBut_71 : decode cX10_worthBut 71 = .ok (.ifCond .ne 55, 3) := by decide +kernel
theorem dX10_worthBut_74 : decode cX10_worthBut 74 = .ok (.aload_n 0, 1) := by decide +kernel
theorem dX10_worthBut_75 : decode cX10_worthBut 75 = .ok (.getfield 37, 3) := by decide +kernel
theorem dX10_worthBut_78 : decode cX10_worthBut 78 = .ok (.iload 4, 2) := by decide +kernel
theorem dX10_worthBut_80 : decode cX10_worthBut 80 = .ok (.iaload, 1) := by decide +kernel
theorem dX10_worthBut_81 : decode cX10_worthBut 81 = .ok (.iconst 1, 1) := by decide +kernel
theorem dX10_worthBut_82 : decode cX10_worthBut 82 = .ok (.iadd, 1) := by decide +kernel
theorem dX10_worthBut_83 : decode cX10_worthBut 83 = .ok (.istore 5, 2) := by decide +kernel
theorem dX10_worthBut_85 : decode cX10_worthBut 85 = .ok (.aload_n 0, 1) := by decide +kernel
theorem dX10_worthBut_86 : decode cX10_worthBut 86 = .ok (.getfield 7, 3) := by decide +kernel
theorem dX10_worthBut_89 : decode cX10_worthBut 89 = .ok (.bipush 32, 2) := by decide +kernel
theorem dX10_worthBut_91 : decode cX10_worthBut 91 = .ok (.iload 4, 2) := by decide +kernel
theorem dX10_worthBut_93 : decode cX10_worthBut 93 = .ok (.iadd, 1) := by decide +kernel
theorem dX10_worthBut_94 : decode cX10_worthBut 94 = .ok (.iaload, 1) := by decide +kernel
theorem dX10_worthBut_95 : decode cX10_worthBut 95 = .ok (.ifCond .ge 11, 3) := by decide +kernel
theorem dX10_worthBut_98 : decode cX10_worthBut 98 = .ok (.iload_n 2, 1) := by decide +kernel
theorem dX10_worthBut_99 : decode cX10_worthBut 99 = .ok (.iload 5, 2) := by decide +kernel
theorem dX10_worthBut_101 : decode cX10_worthBut 101 = .ok (.ixor, 1) := by decide +kernel
theorem dX10_worthBut_102 : decode cX10_worthBut 102 = .ok (.istore_n 2, 1) := by decide +kernel
theorem dX10_worthBut_103 : decode cX10_worthBut 103 = .ok (.goto 23, 3) := by decide +kernel
theorem dX10_worthBut_106 : decode cX10_worthBut 106 = .ok (.aload_n 0, 1) := by decide +kernel
theorem dX10_worthBut_107 : decode cX10_worthBut 107 = .ok (.getfield 37, 3) := by decide +kernel
theorem dX10_worthBut_110 : decode cX10_worthBut 110 = .ok (.aload_n 0, 1) := by decide +kernel
theorem dX10_worthBut_111 : decode cX10_worthBut 111 = .ok (.getfield 7, 3) := by decide +kernel
theorem dX10_worthBut_114 : decode cX10_worthBut 114 = .ok (.bipush 32, 2) := by decide +kernel
theorem dX10_worthBut_116 : decode cX10_worthBut 116 = .ok (.iload 4, 2) := by decide +kernel
theorem dX10_worthBut_118 : decode cX10_worthBut 118 = .ok (.iadd, 1) := by decide +kernel
theorem dX10_worthBut_119 : decode cX10_worthBut 119 = .ok (.iaload, 1) := by decide +kernel
theorem dX10_worthBut_120 : decode cX10_worthBut 120 = .ok (.dup2, 1) := by decide +kernel
theorem dX10_worthBut_121 : decode cX10_worthBut 121 = .ok (.iaload, 1) := by decide +kernel
theorem dX10_worthBut_122 : decode cX10_worthBut 122 = .ok (.iload 5, 2) := by decide +kernel
theorem dX10_worthBut_124 : decode cX10_worthBut 124 = .ok (.ixor, 1) := by decide +kernel
theorem dX10_worthBut_125 : decode cX10_worthBut 125 = .ok (.iastore, 1) := by decide +kernel
theorem dX10_worthBut_126 : decode cX10_worthBut 126 = .ok (.iinc 4 1, 3) := by decide +kernel
theorem dX10_worthBut_129 : decode cX10_worthBut 129 = .ok (.goto (-96), 3) := by decide +kernel
theorem dX10_worthBut_132 : decode cX10_worthBut 132 = .ok (.iinc 3 (-1), 3) := by decide +kernel
theorem dX10_worthBut_135 : decode cX10_worthBut 135 = .ok (.goto (-109), 3) := by decide +kernel
theorem dX10_worthBut_138 : decode cX10_worthBut 138 = .ok (.iload_n 2, 1) := by decide +kernel
theorem dX10_worthBut_139 : decode cX10_worthBut 139 = .ok (.ireturn, 1) := by decide +kernel
set_option maxRecDepth 20000 in
theorem ggX10_thumb_X10_in : GoodIn wsX10_thumb wsX10_in := goodIn_r _ [4] (by decide +kernel) (by decide +kernel)
set_option maxRecDepth 20000 in
theorem gX10_thumb_X10_in : GoodIn wsX10_thumb (va_wsS RX10 51 yX10_in wsX10_in) := goodIn_app (goodIn_of _ (by decide +kernel)) ggX10_thumb_X10_in
set_option maxRecDepth 20000 in
theorem ggX10_thumb_X10_asNow : GoodIn wsX10_thumb wsX10_asNow := goodIn_r _ [8, 9, 10, 11, 12, 33, 34, 35, 36, 37, 38, 39, 40, 41, 42, 43, 44, 45, 46, 47, 48, 49, 50, 51, 52] (by decide +kernel) (by decide +kernel)
set_option maxRecDepth 20000 in
theorem gX10_thumb_X10_asNow : GoodIn wsX10_thumb (wsV RX10 71 RX10 yX10_asNow wsX10_asNow) := goodIn_app (goodIn_of _ (by decide +kernel)) ggX10_thumb_X10_asNow
set_option maxRecDepth 20000 in
theorem ggX10_thumb_X10_isThere : GoodIn wsX10_thumb wsX10_isThere := goodIn_r _ [16, 10, 1, 2, 3, 4, 17, 18, 19, 33, 34, 35, 36, 37, 38, 39, 40, 41, 42, 43, 44, 45, 46, 47, 48, 49, 50, 51, 52] (by decide +kernel) (by decide +kernel)
set_option maxRecDepth 20000 in
theorem gX10_thumb_X10_isThere : GoodIn wsX10_thumb (wsV RX10 59 RX10 yX10_isThere wsX10_isThere) := goodIn_app (goodIn_of _ (by decide +kernel)) ggX10_thumb_X10_isThere
set_option maxRecDepth 20000 in
theorem ggX10_thumb_X10_worthBut : GoodIn wsX10_thumb wsX10_worthBut := goodIn_r _ [23, 24, 10, 13, 14, 15, 3, 16, 1, 2, 4, 17, 18, 19, 25, 26, 27, 28, 29, 30, 31, 32, 9, 33, 34, 35, 36, 37, 38, 39, 40, 41, 42, 43, 44, 45, 46, 47, 48, 49, 50, 51, 52] (by decide +kernel) (by decide +kernel)
set_option maxRecDepth 20000 in
theorem gX10_thumb_X10_worthBut : GoodIn wsX10_thumb (wsV RX10 164 RX10 yX10_worthBut wsX10_worthBut) := goodIn_app (goodIn_of _ (by decide +kernel)) ggX10_thumb_X10_worthBut
theorem dX10_thumb_0 : decode cX10_thumb 0 = .ok (.iload_n 1, 1) := by decide +kernel
theorem dX10_thumb_1 : decode cX10_thumb 1 = .ok (.iconst 0, 1) := by decide +kernel
theorem dX10_thumb_2 : decode cX10_thumb 2 = .ok (.iconst 1, 1) := by decide +kernel
theorem dX10_thumb_3 : decode cX10_thumb 3 = .ok (.invokestatic 51, 3) := by decide +kernel
theorem dX10_thumb_6 : decode cX10_thumb 6 = .ok (.ifCond .ne 6, 3) := by decide +kernel
theorem dX10_thumb_9 : decode cX10_thumb 9 = .ok (.bipush (-2), 2) := by decide +kernel
theorem dX10_thumb_11 : decode cX10_thumb 11 = .ok (.ireturn, 1) := by decide +kernel
theorem dX10_thumb_12 : decode cX10_thumb 12 = .ok (.aload_n 0, 1) := by decide +kernel
theorem dX10_thumb_13 : decode cX10_thumb 13 = .ok (.invokevirtual 71, 3) := by decide +kernel
theorem dX10_thumb_16 : decode cX10_thumb 16 = .ok (.bipush (-6), 2) := by decide +kernel
theorem dX10_thumb_18 : decode cX10_thumb 18 = .ok (.istore_n 2, 1) := by decide +kernel
theorem dX10_thumb_19 : decode cX10_thumb 19 = .ok (.bipush 7, 2) := by decide +kernel
theorem dX10_thumb_21 : decode cX10_thumb 21 = .ok (.istore_n 3, 1) := by decide +kernel
theorem dX10_thumb_22 : decode cX10_thumb 22 = .ok (.iload_n 3, 1) := by decide +kernel
theorem dX10_thumb_23 : decode cX10_thumb 23 = .ok (.ifCond .lt 31, 3) := by decide +kernel
theorem dX10_thumb_26 : decode cX10_thumb 26 = .ok (.aload_n 0, 1) := by decide +kernel
theorem dX10_thumb_27 : decode cX10_thumb 27 = .ok (.iload_n 3, 1) := by decide +kernel
theorem dX10_thumb_28 : decode cX10_thumb 28 = .ok (.invokevirtual 59, 3) := by decide +kernel
theorem dX10_thumb_31 : decode cX10_thumb 31 = .ok (.ifCond .eq 15, 3) := by decide +kernel
theorem dX10_thumb_34 : decode cX10_thumb 34 = .ok (.aload_n 0, 1) := by decide +kernel
theorem dX10_thumb_35 : decode cX10_thumb 35 = .ok (.iload_n 3, 1) := by decide +kernel
theorem dX10_thumb_36 : decode cX10_thumb 36 = .ok (.invokevirtual 164, 3) := by decide +kernel
theorem dX10_thumb_39 : decode cX10_thumb 39 = .ok (.ifCond .ne 7, 3) := by decide +kernel
theorem dX10_thumb_42 : decode cX10_thumb 42 = .ok (.iload_n 3, 1) := by decide +kernel
theorem dX10_thumb_43 : decode cX10_thumb 43 = .ok (.goto 4, 3) := by decide +kernel
theorem dX10_thumb_46 : decode cX10_thumb 46 = .ok (.iload_n 2, 1) := by decide +kernel
theorem dX10_thumb_47 : decode cX10_thumb 47 = .ok (.istore_n 2, 1) := by decide +kernel
theorem dX10_thumb_48 : decode cX10_thumb 48 = .ok (.iinc 3 (-1), 3) := by decide +kernel
theorem dX10_thumb_51 : decode cX10_thumb 51 = .ok (.goto (-29), 3) := by decide +kernel
theorem dX10_thumb_54 : decode cX10_thumb 54 = .ok (.iload_n 1, 1) := by decide +kernel
theorem dX10_thumb_55 : decode cX10_thumb 55 = .ok (.iconst 1, 1) := by decide +kernel
theorem dX10_thumb_56 : decode cX10_thumb 56 = .ok (.if_icmp .ne 7, 3) := by decide +kernel
theorem dX10_thumb_59 : decode cX10_thumb 59 = .ok (.iload_n 2, 1) := by decide +kernel
theorem dX10_thumb_60 : decode cX10_thumb 60 = .ok (.goto 12, 3) := by decide +kernel
theorem dX10_thumb_63 : decode cX10_thumb 63 = .ok (.iload_n 2, 1) := by decide +kernel
theorem dX10_thumb_64 : decode cX10_thumb 64 = .ok (.ifCond .ge 7, 3) := by decide +kernel
theorem dX10_thumb_67 : decode cX10_thumb 67 = .ok (.iconst 0, 1) := by decide +kernel
theorem dX10_thumb_68 : decode cX10_thumb 68 = .ok (.goto 4, 3) := by decide +kernel
theorem dX10_thumb_71 : decode cX10_thumb 71 = .ok (.iconst 1, 1) := by decide +kernel
theorem dX10_thumb_72 : decode cX10_thumb 72 = .ok (.ireturn, 1) := by decide +kernel
theorem dX10_power_0 : decode cX10_power 0 = .ok (.lconst 1, 1) := by decide +kernel
theorem dX10_power_1 : decode cX10_power 1 = .ok (.lstore_n 3, 1) := by decide +kernel
theorem dX10_power_2 : decode cX10_power 2 = .ok (.iconst 0, 1) := by decide +kernel
theorem dX10_power_3 : decode cX10_power 3 = .ok (.istore 5, 2) := by decide +kernel
theorem dX10_power_5 : decode cX10_power 5 = .ok (.iload 5, 2) := by decide +kernel
theorem dX10_power_7 : decode cX10_power 7 = .ok (.iload_n 2, 1) := by decide +kernel
theorem dX10_power_8 : decode cX10_power 8 = .ok (.if_icmp .ge 13, 3) := by decide +kernel
theorem dX10_power_11 : decode cX10_power 11 = .ok (.lload_n 3, 1) := by decide +kernel
theorem dX10_power_12 : decode cX10_power 12 = .ok (.lload_n 0, 1) := by decide +kernel
theorem dX10_power_13 : decode cX10_power 13 = .ok (.lmul, 1) := by decide +kernel
theorem dX10_power_14 : decode cX10_power 14 = .ok (.lstore_n 3, 1) := by decide +kernel
theorem dX10_power_15 : decode cX10_power 15 = .ok (.iinc 5 1, 3) := by decide +kernel
theorem dX10_power_18 : decode cX10_power 18 = .ok (.goto (-13), 3) := by decide +kernel
theorem dX10_power_21 : decode cX10_power 21 = .ok (.lload_n 3, 1) := by decide +kernel
theorem dX10_power_22 : decode cX10_power 22 = .ok (.lreturn, 1) := by decide +kernel
set_option maxRecDepth 20000 in
theorem ggX10_count_X10_in : GoodIn wsX10_count wsX10_in := goodIn_r _ [7] (by decide +kernel) (by decide +kernel)
set_option maxRecDepth 20000 in
theorem gX10_count_X10_in : GoodIn wsX10_count (va_wsS RX10 51 yX10_in wsX10_in) := goodIn_app (goodIn_of _ (by decide +kernel)) ggX10_count_X10_in
set_option maxRecDepth 20000 in
theorem ggX10_count_X10_power : GoodIn wsX10_count wsX10_power := goodIn_r _ [10] (by decide +kernel) (by decide +kernel)
set_option maxRecDepth 20000 in
theorem gX10_count_X10_power : GoodIn wsX10_count (va_wsS RX10 169 yX10_power wsX10_power) := goodIn_app (goodIn_of _ (by decide +kernel)) ggX10_count_X10_power
theorem dX10_count_0 : decode cX10_count 0 = .ok (.iload 4, 2) := by decide +kernel
theorem dX10_count_2 : decode cX10_count 2 = .ok (.iconst 0, 1) := by decide +kernel
theorem dX10_count_3 : decode cX10_count 3 = .ok (.iconst 1, 1) := by decide +kernel
theorem dX10_count_4 : decode cX10_count 4 = .ok (.invokestatic 51, 3) := by decide +kernel
theorem dX10_count_7 : decode cX10_count 7 = .ok (.ifCond .eq 53, 3) := by decide +kernel
theorem dX10_count_10 : decode cX10_count 10 = .ok (.iload_n 1, 1) := by decide +kernel
theorem dX10_count_11 : decode cX10_count 11 = .ok (.iconst 0, 1) := by decide +kernel
theorem dX10_count_12 : decode cX10_count 12 = .ok (.iload 4, 2) := by decide +kernel
theorem dX10_count_14 : decode cX10_count 14 = .ok (.ifCond .ne 8, 3) := by decide +kernel
theorem dX10_count_17 : decode cX10_count 17 = .ok (.bipush 17, 2) := by decide +kernel
theorem dX10_count_19 : decode cX10_count 19 = .ok (.goto 5, 3) := by decide +kernel
theorem dX10_count_22 : decode cX10_count 22 = .ok (.bipush 8, 2) := by decide +kernel
theorem dX10_count_24 : decode cX10_count 24 = .ok (.invokestatic 51, 3) := by decide +kernel
theorem dX10_count_27 : decode cX10_count 27 = .ok (.ifCond .eq 33, 3) := by decide +kernel
theorem dX10_count_30 : decode cX10_count 30 = .ok (.iload_n 2, 1) := by decide +kernel
theorem dX10_count_31 : decode cX10_count 31 = .ok (.iconst 0, 1) := by decide +kernel
theorem dX10_count_32 : decode cX10_count 32 = .ok (.bipush 10, 2) := by decide +kernel
theorem dX10_count_34 : decode cX10_count 34 = .ok (.invokestatic 51, 3) := by decide +kernel
theorem dX10_count_37 : decode cX10_count 37 = .ok (.ifCond .eq 23, 3) := by decide +kernel
theorem dX10_count_40 : decode cX10_count 40 = .ok (.iload_n 3, 1) := by decide +kernel
theorem dX10_count_41 : decode cX10_count 41 = .ok (.iconst 0, 1) := by decide +kernel
theorem dX10_count_42 : decode cX10_count 42 = .ok (.bipush 17, 2) := by decide +kernel
theorem dX10_count_44 : decode cX10_count 44 = .ok (.invokestatic 51, 3) := by decide +kernel
theorem dX10_count_47 : decode cX10_count 47 = .ok (.ifCond .eq 13, 3) := by decide +kernel
