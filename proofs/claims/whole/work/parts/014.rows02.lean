theorem dX6_refusal_26 : decode cX6_refusal 26 = .ok (.invokevirtual 52, 3) := by decide +kernel
theorem dX6_refusal_29 : decode cX6_refusal 29 = .ok (.ifCond .eq 17, 3) := by decide +kernel
theorem dX6_refusal_32 : decode cX6_refusal 32 = .ok (.iload_n 1, 1) := by decide +kernel
theorem dX6_refusal_33 : decode cX6_refusal 33 = .ok (.bipush 62, 2) := by decide +kernel
theorem dX6_refusal_35 : decode cX6_refusal 35 = .ok (.if_icmp .ne 13, 3) := by decide +kernel
theorem dX6_refusal_38 : decode cX6_refusal 38 = .ok (.aload_n 0, 1) := by decide +kernel
theorem dX6_refusal_39 : decode cX6_refusal 39 = .ok (.iload_n 3, 1) := by decide +kernel
theorem dX6_refusal_40 : decode cX6_refusal 40 = .ok (.invokevirtual 52, 3) := by decide +kernel
theorem dX6_refusal_43 : decode cX6_refusal 43 = .ok (.ifCond .ne 5, 3) := by decide +kernel
theorem dX6_refusal_46 : decode cX6_refusal 46 = .ok (.iconst 1, 1) := by decide +kernel
theorem dX6_refusal_47 : decode cX6_refusal 47 = .ok (.ireturn, 1) := by decide +kernel
theorem dX6_refusal_48 : decode cX6_refusal 48 = .ok (.iload_n 1, 1) := by decide +kernel
theorem dX6_refusal_49 : decode cX6_refusal 49 = .ok (.lookupswitch 141 #[(35, 138), (43, 104), (47, 122), (61, 104), (62, 59), (94, 87)], 59) := by decide +kernel
theorem dX6_refusal_108 : decode cX6_refusal 108 = .ok (.aload_n 0, 1) := by decide +kernel
theorem dX6_refusal_109 : decode cX6_refusal 109 = .ok (.getfield 30, 3) := by decide +kernel
theorem dX6_refusal_112 : decode cX6_refusal 112 = .ok (.iload_n 2, 1) := by decide +kernel
theorem dX6_refusal_113 : decode cX6_refusal 113 = .ok (.iaload, 1) := by decide +kernel
theorem dX6_refusal_114 : decode cX6_refusal 114 = .ok (.iload_n 3, 1) := by decide +kernel
theorem dX6_refusal_115 : decode cX6_refusal 115 = .ok (.if_icmp .ne 5, 3) := by decide +kernel
theorem dX6_refusal_118 : decode cX6_refusal 118 = .ok (.iconst 3, 1) := by decide +kernel
theorem dX6_refusal_119 : decode cX6_refusal 119 = .ok (.ireturn, 1) := by decide +kernel
theorem dX6_refusal_120 : decode cX6_refusal 120 = .ok (.aload_n 0, 1) := by decide +kernel
theorem dX6_refusal_121 : decode cX6_refusal 121 = .ok (.iload_n 3, 1) := by decide +kernel
theorem dX6_refusal_122 : decode cX6_refusal 122 = .ok (.iload_n 2, 1) := by decide +kernel
theorem dX6_refusal_123 : decode cX6_refusal 123 = .ok (.invokevirtual 59, 3) := by decide +kernel
theorem dX6_refusal_126 : decode cX6_refusal 126 = .ok (.ifCond .eq 7, 3) := by decide +kernel
theorem dX6_refusal_129 : decode cX6_refusal 129 = .ok (.iconst 4, 1) := by decide +kernel
theorem dX6_refusal_130 : decode cX6_refusal 130 = .ok (.goto 5, 3) := by decide +kernel
theorem dX6_refusal_133 : decode cX6_refusal 133 = .ok (.bipush (-6), 2) := by decide +kernel
theorem dX6_refusal_135 : decode cX6_refusal 135 = .ok (.ireturn, 1) := by decide +kernel
theorem dX6_refusal_136 : decode cX6_refusal 136 = .ok (.aload_n 0, 1) := by decide +kernel
theorem dX6_refusal_137 : decode cX6_refusal 137 = .ok (.getfield 30, 3) := by decide +kernel
theorem dX6_refusal_140 : decode cX6_refusal 140 = .ok (.iload_n 2, 1) := by decide +kernel
theorem dX6_refusal_141 : decode cX6_refusal 141 = .ok (.iaload, 1) := by decide +kernel
theorem dX6_refusal_142 : decode cX6_refusal 142 = .ok (.iconst (-1), 1) := by decide +kernel
theorem dX6_refusal_143 : decode cX6_refusal 143 = .ok (.if_icmp .ne 7, 3) := by decide +kernel
theorem dX6_refusal_146 : decode cX6_refusal 146 = .ok (.iconst 3, 1) := by decide +kernel
theorem dX6_refusal_147 : decode cX6_refusal 147 = .ok (.goto 5, 3) := by decide +kernel
theorem dX6_refusal_150 : decode cX6_refusal 150 = .ok (.bipush (-6), 2) := by decide +kernel
theorem dX6_refusal_152 : decode cX6_refusal 152 = .ok (.ireturn, 1) := by decide +kernel
theorem dX6_refusal_153 : decode cX6_refusal 153 = .ok (.aload_n 0, 1) := by decide +kernel
theorem dX6_refusal_154 : decode cX6_refusal 154 = .ok (.getfield 9, 3) := by decide +kernel
theorem dX6_refusal_157 : decode cX6_refusal 157 = .ok (.iload_n 2, 1) := by decide +kernel
theorem dX6_refusal_158 : decode cX6_refusal 158 = .ok (.iaload, 1) := by decide +kernel
theorem dX6_refusal_159 : decode cX6_refusal 159 = .ok (.bipush 99, 2) := by decide +kernel
theorem dX6_refusal_161 : decode cX6_refusal 161 = .ok (.if_icmp .ne 7, 3) := by decide +kernel
theorem dX6_refusal_164 : decode cX6_refusal 164 = .ok (.iconst 5, 1) := by decide +kernel
theorem dX6_refusal_165 : decode cX6_refusal 165 = .ok (.goto 5, 3) := by decide +kernel
theorem dX6_refusal_168 : decode cX6_refusal 168 = .ok (.bipush (-6), 2) := by decide +kernel
theorem dX6_refusal_170 : decode cX6_refusal 170 = .ok (.ireturn, 1) := by decide +kernel
theorem dX6_refusal_171 : decode cX6_refusal 171 = .ok (.aload_n 0, 1) := by decide +kernel
theorem dX6_refusal_172 : decode cX6_refusal 172 = .ok (.getfield 24, 3) := by decide +kernel
theorem dX6_refusal_175 : decode cX6_refusal 175 = .ok (.iload_n 2, 1) := by decide +kernel
theorem dX6_refusal_176 : decode cX6_refusal 176 = .ok (.iaload, 1) := by decide +kernel
theorem dX6_refusal_177 : decode cX6_refusal 177 = .ok (.ifCond .ne 7, 3) := by decide +kernel
theorem dX6_refusal_180 : decode cX6_refusal 180 = .ok (.iconst 5, 1) := by decide +kernel
theorem dX6_refusal_181 : decode cX6_refusal 181 = .ok (.goto 5, 3) := by decide +kernel
theorem dX6_refusal_184 : decode cX6_refusal 184 = .ok (.bipush (-6), 2) := by decide +kernel
theorem dX6_refusal_186 : decode cX6_refusal 186 = .ok (.ireturn, 1) := by decide +kernel
theorem dX6_refusal_187 : decode cX6_refusal 187 = .ok (.bipush (-6), 2) := by decide +kernel
theorem dX6_refusal_189 : decode cX6_refusal 189 = .ok (.ireturn, 1) := by decide +kernel
theorem dX6_refusal_190 : decode cX6_refusal 190 = .ok (.aload_n 0, 1) := by decide +kernel
theorem dX6_refusal_191 : decode cX6_refusal 191 = .ok (.iload_n 2, 1) := by decide +kernel
theorem dX6_refusal_192 : decode cX6_refusal 192 = .ok (.invokevirtual 63, 3) := by decide +kernel
theorem dX6_refusal_195 : decode cX6_refusal 195 = .ok (.ifCond .eq 7, 3) := by decide +kernel
theorem dX6_refusal_198 : decode cX6_refusal 198 = .ok (.iconst 2, 1) := by decide +kernel
theorem dX6_refusal_199 : decode cX6_refusal 199 = .ok (.goto 5, 3) := by decide +kernel
theorem dX6_refusal_202 : decode cX6_refusal 202 = .ok (.bipush (-6), 2) := by decide +kernel
theorem dX6_refusal_204 : decode cX6_refusal 204 = .ok (.ireturn, 1) := by decide +kernel
set_option maxRecDepth 20000 in
theorem ggX6_perform_X6_passHour : GoodIn wsX6_perform wsX6_passHour := goodIn_r _ [12, 13, 14, 4, 5, 6, 7, 15, 16, 17, 18, 2, 19, 20, 21, 22, 23, 11, 24, 25, 44, 45, 46, 47, 48, 49, 50, 51, 52, 53, 54] (by decide +kernel) (by decide +kernel)
set_option maxRecDepth 20000 in
theorem gX6_perform_X6_passHour : GoodIn wsX6_perform (wsV RX6 66 RX6 yX6_passHour wsX6_passHour) := goodIn_app (goodIn_of _ (by decide +kernel)) ggX6_perform_X6_passHour
set_option maxRecDepth 20000 in
theorem ggX6_perform_X6_has : GoodIn wsX6_perform wsX6_has := goodIn_r _ [24, 25, 44, 45, 46, 47, 48, 49, 50, 51, 52, 53, 54] (by decide +kernel) (by decide +kernel)
set_option maxRecDepth 20000 in
theorem gX6_perform_X6_has : GoodIn wsX6_perform (wsV RX6 52 RX6 yX6_has wsX6_has) := goodIn_app (goodIn_of _ (by decide +kernel)) ggX6_perform_X6_has
set_option maxRecDepth 20000 in
theorem ggX6_perform_X6_drop : GoodIn wsX6_perform wsX6_drop := goodIn_r _ [29, 1, 25, 21, 22, 23, 11, 24, 44, 45, 46, 47, 48, 49, 50, 51, 52, 53, 54] (by decide +kernel) (by decide +kernel)
set_option maxRecDepth 20000 in
theorem gX6_perform_X6_drop : GoodIn wsX6_perform (wsV RX6 75 RX6 yX6_drop wsX6_drop) := goodIn_app (goodIn_of _ (by decide +kernel)) ggX6_perform_X6_drop
set_option maxRecDepth 20000 in
theorem ggX6_perform_X6_shake : GoodIn wsX6_perform wsX6_shake := goodIn_r _ [33, 13, 34, 4, 5, 6, 7, 35, 14, 36, 37, 38, 11, 39, 1, 21, 22, 23, 24, 25, 40, 41, 42, 43, 2, 44, 45, 46, 47, 48, 49, 50, 51, 52, 53, 54] (by decide +kernel) (by decide +kernel)
set_option maxRecDepth 20000 in
theorem gX6_perform_X6_shake : GoodIn wsX6_perform (wsV RX6 79 RX6 yX6_shake wsX6_shake) := goodIn_app (goodIn_of _ (by decide +kernel)) ggX6_perform_X6_shake
theorem dX6_perform_0 : decode cX6_perform 0 = .ok (.iload_n 1, 1) := by decide +kernel
theorem dX6_perform_1 : decode cX6_perform 1 = .ok (.bipush 46, 2) := by decide +kernel
theorem dX6_perform_3 : decode cX6_perform 3 = .ok (.if_icmp .ne 8, 3) := by decide +kernel
theorem dX6_perform_6 : decode cX6_perform 6 = .ok (.aload_n 0, 1) := by decide +kernel
theorem dX6_perform_7 : decode cX6_perform 7 = .ok (.invokevirtual 66, 3) := by decide +kernel
theorem dX6_perform_10 : decode cX6_perform 10 = .ok (.return_, 1) := by decide +kernel
theorem dX6_perform_11 : decode cX6_perform 11 = .ok (.aload_n 0, 1) := by decide +kernel
theorem dX6_perform_12 : decode cX6_perform 12 = .ok (.iload_n 2, 1) := by decide +kernel
theorem dX6_perform_13 : decode cX6_perform 13 = .ok (.invokevirtual 52, 3) := by decide +kernel
theorem dX6_perform_16 : decode cX6_perform 16 = .ok (.ifCond .ne 4, 3) := by decide +kernel
theorem dX6_perform_19 : decode cX6_perform 19 = .ok (.return_, 1) := by decide +kernel
theorem dX6_perform_20 : decode cX6_perform 20 = .ok (.iload_n 1, 1) := by decide +kernel
theorem dX6_perform_21 : decode cX6_perform 21 = .ok (.lookupswitch 138 #[(35, 130), (43, 79), (47, 120), (61, 109), (62, 59), (94, 69)], 59) := by decide +kernel
theorem dX6_perform_80 : decode cX6_perform 80 = .ok (.aload_n 0, 1) := by decide +kernel
theorem dX6_perform_81 : decode cX6_perform 81 = .ok (.getfield 30, 3) := by decide +kernel
theorem dX6_perform_84 : decode cX6_perform 84 = .ok (.iload_n 2, 1) := by decide +kernel
theorem dX6_perform_85 : decode cX6_perform 85 = .ok (.iload_n 3, 1) := by decide +kernel
theorem dX6_perform_86 : decode cX6_perform 86 = .ok (.iastore, 1) := by decide +kernel
theorem dX6_perform_87 : decode cX6_perform 87 = .ok (.goto 81, 3) := by decide +kernel
theorem dX6_perform_90 : decode cX6_perform 90 = .ok (.aload_n 0, 1) := by decide +kernel
theorem dX6_perform_91 : decode cX6_perform 91 = .ok (.getfield 30, 3) := by decide +kernel
theorem dX6_perform_94 : decode cX6_perform 94 = .ok (.iload_n 2, 1) := by decide +kernel
theorem dX6_perform_95 : decode cX6_perform 95 = .ok (.iconst (-1), 1) := by decide +kernel
theorem dX6_perform_96 : decode cX6_perform 96 = .ok (.iastore, 1) := by decide +kernel
theorem dX6_perform_97 : decode cX6_perform 97 = .ok (.goto 71, 3) := by decide +kernel
theorem dX6_perform_100 : decode cX6_perform 100 = .ok (.aload_n 0, 1) := by decide +kernel
theorem dX6_perform_101 : decode cX6_perform 101 = .ok (.getfield 9, 3) := by decide +kernel
theorem dX6_perform_104 : decode cX6_perform 104 = .ok (.iload_n 2, 1) := by decide +kernel
theorem dX6_perform_105 : decode cX6_perform 105 = .ok (.bipush 99, 2) := by decide +kernel
theorem dX6_perform_107 : decode cX6_perform 107 = .ok (.iastore, 1) := by decide +kernel
theorem dX6_perform_108 : decode cX6_perform 108 = .ok (.aload_n 0, 1) := by decide +kernel
theorem dX6_perform_109 : decode cX6_perform 109 = .ok (.getfield 24, 3) := by decide +kernel
theorem dX6_perform_112 : decode cX6_perform 112 = .ok (.iload_n 2, 1) := by decide +kernel
theorem dX6_perform_113 : decode cX6_perform 113 = .ok (.bipush 9, 2) := by decide +kernel
theorem dX6_perform_115 : decode cX6_perform 115 = .ok (.aload_n 0, 1) := by decide +kernel
theorem dX6_perform_116 : decode cX6_perform 116 = .ok (.getfield 24, 3) := by decide +kernel
theorem dX6_perform_119 : decode cX6_perform 119 = .ok (.iload_n 2, 1) := by decide +kernel
theorem dX6_perform_120 : decode cX6_perform 120 = .ok (.iaload, 1) := by decide +kernel
theorem dX6_perform_121 : decode cX6_perform 121 = .ok (.iconst 1, 1) := by decide +kernel
theorem dX6_perform_122 : decode cX6_perform 122 = .ok (.iadd, 1) := by decide +kernel
theorem dX6_perform_123 : decode cX6_perform 123 = .ok (.invokestatic 69, 3) := by decide +kernel
theorem dX6_perform_126 : decode cX6_perform 126 = .ok (.iastore, 1) := by decide +kernel
theorem dX6_perform_127 : decode cX6_perform 127 = .ok (.goto 41, 3) := by decide +kernel
theorem dX6_perform_130 : decode cX6_perform 130 = .ok (.aload_n 0, 1) := by decide +kernel
theorem dX6_perform_131 : decode cX6_perform 131 = .ok (.getfield 9, 3) := by decide +kernel
theorem dX6_perform_134 : decode cX6_perform 134 = .ok (.iload_n 2, 1) := by decide +kernel
theorem dX6_perform_135 : decode cX6_perform 135 = .ok (.bipush 99, 2) := by decide +kernel
theorem dX6_perform_137 : decode cX6_perform 137 = .ok (.iastore, 1) := by decide +kernel
theorem dX6_perform_138 : decode cX6_perform 138 = .ok (.goto 30, 3) := by decide +kernel
theorem dX6_perform_141 : decode cX6_perform 141 = .ok (.aload_n 0, 1) := by decide +kernel
theorem dX6_perform_142 : decode cX6_perform 142 = .ok (.getfield 24, 3) := by decide +kernel
theorem dX6_perform_145 : decode cX6_perform 145 = .ok (.iload_n 2, 1) := by decide +kernel
theorem dX6_perform_146 : decode cX6_perform 146 = .ok (.iconst 0, 1) := by decide +kernel
theorem dX6_perform_147 : decode cX6_perform 147 = .ok (.iastore, 1) := by decide +kernel
theorem dX6_perform_148 : decode cX6_perform 148 = .ok (.goto 20, 3) := by decide +kernel
theorem dX6_perform_151 : decode cX6_perform 151 = .ok (.aload_n 0, 1) := by decide +kernel
theorem dX6_perform_152 : decode cX6_perform 152 = .ok (.iload_n 2, 1) := by decide +kernel
theorem dX6_perform_153 : decode cX6_perform 153 = .ok (.invokevirtual 75, 3) := by decide +kernel
theorem dX6_perform_156 : decode cX6_perform 156 = .ok (.goto 12, 3) := by decide +kernel
theorem dX6_perform_159 : decode cX6_perform 159 = .ok (.aload_n 0, 1) := by decide +kernel
theorem dX6_perform_160 : decode cX6_perform 160 = .ok (.iload_n 2, 1) := by decide +kernel
theorem dX6_perform_161 : decode cX6_perform 161 = .ok (.iload_n 1, 1) := by decide +kernel
theorem dX6_perform_162 : decode cX6_perform 162 = .ok (.bipush 48, 2) := by decide +kernel
theorem dX6_perform_164 : decode cX6_perform 164 = .ok (.isub, 1) := by decide +kernel
theorem dX6_perform_165 : decode cX6_perform 165 = .ok (.invokevirtual 79, 3) := by decide +kernel
theorem dX6_perform_168 : decode cX6_perform 168 = .ok (.return_, 1) := by decide +kernel
set_option maxRecDepth 20000 in
theorem ggX6_shake_X6_isWithin : GoodIn wsX6_shake wsX6_isWithin := goodIn_r _ [13, 14, 15, 16, 17, 12, 18, 19, 25, 26, 27, 28, 29, 30, 31, 32, 33, 34, 35] (by decide +kernel) (by decide +kernel)
set_option maxRecDepth 20000 in
theorem gX6_shake_X6_isWithin : GoodIn wsX6_shake (wsV RX6 59 RX6 yX6_isWithin wsX6_isWithin) := goodIn_app (goodIn_of _ (by decide +kernel)) ggX6_shake_X6_isWithin
set_option maxRecDepth 20000 in
theorem ggX6_shake_X6_isFree : GoodIn wsX6_shake wsX6_isFree := goodIn_r _ [23, 24, 15, 16, 17, 12, 18, 19, 25, 26, 27, 28, 29, 30, 31, 32, 33, 34, 35] (by decide +kernel) (by decide +kernel)
set_option maxRecDepth 20000 in
theorem gX6_shake_X6_isFree : GoodIn wsX6_shake (wsV RX6 63 RX6 yX6_isFree wsX6_isFree) := goodIn_app (goodIn_of _ (by decide +kernel)) ggX6_shake_X6_isFree
theorem dX6_shake_0 : decode cX6_shake 0 = .ok (.iconst 0, 1) := by decide +kernel
theorem dX6_shake_1 : decode cX6_shake 1 = .ok (.istore_n 3, 1) := by decide +kernel
theorem dX6_shake_2 : decode cX6_shake 2 = .ok (.iload_n 3, 1) := by decide +kernel
theorem dX6_shake_3 : decode cX6_shake 3 = .ok (.bipush 8, 2) := by decide +kernel
theorem dX6_shake_5 : decode cX6_shake 5 = .ok (.if_icmp .ge 67, 3) := by decide +kernel
theorem dX6_shake_8 : decode cX6_shake 8 = .ok (.aload_n 0, 1) := by decide +kernel
theorem dX6_shake_9 : decode cX6_shake 9 = .ok (.iload_n 3, 1) := by decide +kernel
theorem dX6_shake_10 : decode cX6_shake 10 = .ok (.iload_n 1, 1) := by decide +kernel
theorem dX6_shake_11 : decode cX6_shake 11 = .ok (.invokevirtual 59, 3) := by decide +kernel
theorem dX6_shake_14 : decode cX6_shake 14 = .ok (.ifCond .eq 52, 3) := by decide +kernel
theorem dX6_shake_17 : decode cX6_shake 17 = .ok (.aload_n 0, 1) := by decide +kernel
theorem dX6_shake_18 : decode cX6_shake 18 = .ok (.iload_n 3, 1) := by decide +kernel
theorem dX6_shake_19 : decode cX6_shake 19 = .ok (.invokevirtual 63, 3) := by decide +kernel
theorem dX6_shake_22 : decode cX6_shake 22 = .ok (.ifCond .ne 44, 3) := by decide +kernel
theorem dX6_shake_25 : decode cX6_shake 25 = .ok (.aload_n 0, 1) := by decide +kernel
theorem dX6_shake_26 : decode cX6_shake 26 = .ok (.getfield 18, 3) := by decide +kernel
theorem dX6_shake_29 : decode cX6_shake 29 = .ok (.iload_n 3, 1) := by decide +kernel
theorem dX6_shake_30 : decode cX6_shake 30 = .ok (.aload_n 0, 1) := by decide +kernel
theorem dX6_shake_31 : decode cX6_shake 31 = .ok (.getfield 15, 3) := by decide +kernel
theorem dX6_shake_34 : decode cX6_shake 34 = .ok (.iload_n 3, 1) := by decide +kernel
theorem dX6_shake_35 : decode cX6_shake 35 = .ok (.iaload, 1) := by decide +kernel
theorem dX6_shake_36 : decode cX6_shake 36 = .ok (.aload_n 0, 1) := by decide +kernel
theorem dX6_shake_37 : decode cX6_shake 37 = .ok (.getfield 18, 3) := by decide +kernel
theorem dX6_shake_40 : decode cX6_shake 40 = .ok (.iload_n 3, 1) := by decide +kernel
theorem dX6_shake_41 : decode cX6_shake 41 = .ok (.iaload, 1) := by decide +kernel
theorem dX6_shake_42 : decode cX6_shake 42 = .ok (.bipush 10, 2) := by decide +kernel
theorem dX6_shake_44 : decode cX6_shake 44 = .ok (.iload_n 2, 1) := by decide +kernel
theorem dX6_shake_45 : decode cX6_shake 45 = .ok (.imul, 1) := by decide +kernel
theorem dX6_shake_46 : decode cX6_shake 46 = .ok (.iadd, 1) := by decide +kernel
theorem dX6_shake_47 : decode cX6_shake 47 = .ok (.invokestatic 69, 3) := by decide +kernel
theorem dX6_shake_50 : decode cX6_shake 50 = .ok (.iastore, 1) := by decide +kernel
theorem dX6_shake_51 : decode cX6_shake 51 = .ok (.aload_n 0, 1) := by decide +kernel
theorem dX6_shake_52 : decode cX6_shake 52 = .ok (.dup, 1) := by decide +kernel
theorem dX6_shake_53 : decode cX6_shake 53 = .ok (.getfield 46, 3) := by decide +kernel
theorem dX6_shake_56 : decode cX6_shake 56 = .ok (.aload_n 0, 1) := by decide +kernel
theorem dX6_shake_57 : decode cX6_shake 57 = .ok (.getfield 27, 3) := by decide +kernel
theorem dX6_shake_60 : decode cX6_shake 60 = .ok (.iload_n 3, 1) := by decide +kernel
theorem dX6_shake_61 : decode cX6_shake 61 = .ok (.iaload, 1) := by decide +kernel
theorem dX6_shake_62 : decode cX6_shake 62 = .ok (.iadd, 1) := by decide +kernel
theorem dX6_shake_63 : decode cX6_shake 63 = .ok (.putfield 46, 3) := by decide +kernel
theorem dX6_shake_66 : decode cX6_shake 66 = .ok (.iinc 3 1, 3) := by decide +kernel
theorem dX6_shake_69 : decode cX6_shake 69 = .ok (.goto (-67), 3) := by decide +kernel
theorem dX6_shake_72 : decode cX6_shake 72 = .ok (.return_, 1) := by decide +kernel
set_option maxRecDepth 20000 in
theorem ggX6_drop_X6_has : GoodIn wsX6_drop wsX6_has := goodIn_r _ [7, 2, 8, 9, 10, 11, 12, 13, 14, 15, 16, 17, 18] (by decide +kernel) (by decide +kernel)
set_option maxRecDepth 20000 in
theorem gX6_drop_X6_has : GoodIn wsX6_drop (wsV RX6 52 RX6 yX6_has wsX6_has) := goodIn_app (goodIn_of _ (by decide +kernel)) ggX6_drop_X6_has
theorem dX6_drop_0 : decode cX6_drop 0 = .ok (.aload_n 0, 1) := by decide +kernel
theorem dX6_drop_1 : decode cX6_drop 1 = .ok (.iload_n 1, 1) := by decide +kernel
theorem dX6_drop_2 : decode cX6_drop 2 = .ok (.invokevirtual 52, 3) := by decide +kernel
theorem dX6_drop_5 : decode cX6_drop 5 = .ok (.ifCond .ne 4, 3) := by decide +kernel
theorem dX6_drop_8 : decode cX6_drop 8 = .ok (.return_, 1) := by decide +kernel
theorem dX6_drop_9 : decode cX6_drop 9 = .ok (.iconst 0, 1) := by decide +kernel
theorem dX6_drop_10 : decode cX6_drop 10 = .ok (.istore_n 2, 1) := by decide +kernel
theorem dX6_drop_11 : decode cX6_drop 11 = .ok (.iload_n 2, 1) := by decide +kernel
theorem dX6_drop_12 : decode cX6_drop 12 = .ok (.bipush 8, 2) := by decide +kernel
theorem dX6_drop_14 : decode cX6_drop 14 = .ok (.if_icmp .ge 39, 3) := by decide +kernel
theorem dX6_drop_17 : decode cX6_drop 17 = .ok (.aload_n 0, 1) := by decide +kernel
theorem dX6_drop_18 : decode cX6_drop 18 = .ok (.iload_n 2, 1) := by decide +kernel
theorem dX6_drop_19 : decode cX6_drop 19 = .ok (.invokevirtual 52, 3) := by decide +kernel
theorem dX6_drop_22 : decode cX6_drop 22 = .ok (.ifCond .eq 25, 3) := by decide +kernel
theorem dX6_drop_25 : decode cX6_drop 25 = .ok (.aload_n 0, 1) := by decide +kernel
theorem dX6_drop_26 : decode cX6_drop 26 = .ok (.getfield 30, 3) := by decide +kernel
theorem dX6_drop_29 : decode cX6_drop 29 = .ok (.iload_n 2, 1) := by decide +kernel
theorem dX6_drop_30 : decode cX6_drop 30 = .ok (.iaload, 1) := by decide +kernel
theorem dX6_drop_31 : decode cX6_drop 31 = .ok (.iload_n 1, 1) := by decide +kernel
theorem dX6_drop_32 : decode cX6_drop 32 = .ok (.if_icmp .ne 15, 3) := by decide +kernel
theorem dX6_drop_35 : decode cX6_drop 35 = .ok (.aload_n 0, 1) := by decide +kernel
theorem dX6_drop_36 : decode cX6_drop 36 = .ok (.getfield 30, 3) := by decide +kernel
theorem dX6_drop_39 : decode cX6_drop 39 = .ok (.iload_n 2, 1) := by decide +kernel
theorem dX6_drop_40 : decode cX6_drop 40 = .ok (.aload_n 0, 1) := by decide +kernel
theorem dX6_drop_41 : decode cX6_drop 41 = .ok (.getfield 30, 3) := by decide +kernel
theorem dX6_drop_44 : decode cX6_drop 44 = .ok (.iload_n 1, 1) := by decide +kernel
theorem dX6_drop_45 : decode cX6_drop 45 = .ok (.iaload, 1) := by decide +kernel
theorem dX6_drop_46 : decode cX6_drop 46 = .ok (.iastore, 1) := by decide +kernel
theorem dX6_drop_47 : decode cX6_drop 47 = .ok (.iinc 2 1, 3) := by decide +kernel
theorem dX6_drop_50 : decode cX6_drop 50 = .ok (.goto (-39), 3) := by decide +kernel
theorem dX6_drop_53 : decode cX6_drop 53 = .ok (.aload_n 0, 1) := by decide +kernel
theorem dX6_drop_54 : decode cX6_drop 54 = .ok (.dup, 1) := by decide +kernel
theorem dX6_drop_55 : decode cX6_drop 55 = .ok (.getfield 39, 3) := by decide +kernel
theorem dX6_drop_58 : decode cX6_drop 58 = .ok (.iconst 1, 1) := by decide +kernel
theorem dX6_drop_59 : decode cX6_drop 59 = .ok (.iload_n 1, 1) := by decide +kernel
theorem dX6_drop_60 : decode cX6_drop 60 = .ok (.ishl, 1) := by decide +kernel
theorem dX6_drop_61 : decode cX6_drop 61 = .ok (.iconst (-1), 1) := by decide +kernel
theorem dX6_drop_62 : decode cX6_drop 62 = .ok (.ixor, 1) := by decide +kernel
theorem dX6_drop_63 : decode cX6_drop 63 = .ok (.iand, 1) := by decide +kernel
theorem dX6_drop_64 : decode cX6_drop 64 = .ok (.putfield 39, 3) := by decide +kernel
theorem dX6_drop_67 : decode cX6_drop 67 = .ok (.return_, 1) := by decide +kernel
set_option maxRecDepth 20000 in
theorem ggX6_passHour_X6_has : GoodIn wsX6_passHour wsX6_has := goodIn_r _ [18, 19, 20, 21, 22, 23, 24, 25, 26, 27, 28, 29, 30] (by decide +kernel) (by decide +kernel)
set_option maxRecDepth 20000 in
theorem gX6_passHour_X6_has : GoodIn wsX6_passHour (wsV RX6 52 RX6 yX6_has wsX6_has) := goodIn_app (goodIn_of _ (by decide +kernel)) ggX6_passHour_X6_has
theorem dX6_passHour_0 : decode cX6_passHour 0 = .ok (.iconst 0, 1) := by decide +kernel
theorem dX6_passHour_1 : decode cX6_passHour 1 = .ok (.istore_n 1, 1) := by decide +kernel
theorem dX6_passHour_2 : decode cX6_passHour 2 = .ok (.iload_n 1, 1) := by decide +kernel
theorem dX6_passHour_3 : decode cX6_passHour 3 = .ok (.bipush 8, 2) := by decide +kernel
theorem dX6_passHour_5 : decode cX6_passHour 5 = .ok (.if_icmp .ge 122, 3) := by decide +kernel
theorem dX6_passHour_8 : decode cX6_passHour 8 = .ok (.aload_n 0, 1) := by decide +kernel
theorem dX6_passHour_9 : decode cX6_passHour 9 = .ok (.iload_n 1, 1) := by decide +kernel
theorem dX6_passHour_10 : decode cX6_passHour 10 = .ok (.invokevirtual 52, 3) := by decide +kernel
theorem dX6_passHour_13 : decode cX6_passHour 13 = .ok (.ifCond .ne 6, 3) := by decide +kernel
theorem dX6_passHour_16 : decode cX6_passHour 16 = .ok (.goto 105, 3) := by decide +kernel
theorem dX6_passHour_19 : decode cX6_passHour 19 = .ok (.aload_n 0, 1) := by decide +kernel
theorem dX6_passHour_20 : decode cX6_passHour 20 = .ok (.getfield 18, 3) := by decide +kernel
theorem dX6_passHour_23 : decode cX6_passHour 23 = .ok (.iload_n 1, 1) := by decide +kernel
theorem dX6_passHour_24 : decode cX6_passHour 24 = .ok (.iaload, 1) := by decide +kernel
theorem dX6_passHour_25 : decode cX6_passHour 25 = .ok (.ifCond .le 25, 3) := by decide +kernel
theorem dX6_passHour_28 : decode cX6_passHour 28 = .ok (.aload_n 0, 1) := by decide +kernel
theorem dX6_passHour_29 : decode cX6_passHour 29 = .ok (.getfield 27, 3) := by decide +kernel
theorem dX6_passHour_32 : decode cX6_passHour 32 = .ok (.iload_n 1, 1) := by decide +kernel
theorem dX6_passHour_33 : decode cX6_passHour 33 = .ok (.bipush 9, 2) := by decide +kernel
theorem dX6_passHour_35 : decode cX6_passHour 35 = .ok (.aload_n 0, 1) := by decide +kernel
theorem dX6_passHour_36 : decode cX6_passHour 36 = .ok (.getfield 27, 3) := by decide +kernel
theorem dX6_passHour_39 : decode cX6_passHour 39 = .ok (.iload_n 1, 1) := by decide +kernel
theorem dX6_passHour_40 : decode cX6_passHour 40 = .ok (.iaload, 1) := by decide +kernel
theorem dX6_passHour_41 : decode cX6_passHour 41 = .ok (.iconst 1, 1) := by decide +kernel
theorem dX6_passHour_42 : decode cX6_passHour 42 = .ok (.iadd, 1) := by decide +kernel
theorem dX6_passHour_43 : decode cX6_passHour 43 = .ok (.invokestatic 69, 3) := by decide +kernel
theorem dX6_passHour_46 : decode cX6_passHour 46 = .ok (.iastore, 1) := by decide +kernel
theorem dX6_passHour_47 : decode cX6_passHour 47 = .ok (.goto 32, 3) := by decide +kernel
theorem dX6_passHour_50 : decode cX6_passHour 50 = .ok (.aload_n 0, 1) := by decide +kernel
theorem dX6_passHour_51 : decode cX6_passHour 51 = .ok (.getfield 43, 3) := by decide +kernel
theorem dX6_passHour_54 : decode cX6_passHour 54 = .ok (.iload_n 1, 1) := by decide +kernel
theorem dX6_passHour_55 : decode cX6_passHour 55 = .ok (.ishr, 1) := by decide +kernel
theorem dX6_passHour_56 : decode cX6_passHour 56 = .ok (.iconst 1, 1) := by decide +kernel
theorem dX6_passHour_57 : decode cX6_passHour 57 = .ok (.iand, 1) := by decide +kernel
theorem dX6_passHour_58 : decode cX6_passHour 58 = .ok (.ifCond .ne 21, 3) := by decide +kernel
theorem dX6_passHour_61 : decode cX6_passHour 61 = .ok (.aload_n 0, 1) := by decide +kernel
theorem dX6_passHour_62 : decode cX6_passHour 62 = .ok (.getfield 27, 3) := by decide +kernel
theorem dX6_passHour_65 : decode cX6_passHour 65 = .ok (.iload_n 1, 1) := by decide +kernel
theorem dX6_passHour_66 : decode cX6_passHour 66 = .ok (.iconst 0, 1) := by decide +kernel
theorem dX6_passHour_67 : decode cX6_passHour 67 = .ok (.aload_n 0, 1) := by decide +kernel
theorem dX6_passHour_68 : decode cX6_passHour 68 = .ok (.getfield 27, 3) := by decide +kernel
theorem dX6_passHour_71 : decode cX6_passHour 71 = .ok (.iload_n 1, 1) := by decide +kernel
theorem dX6_passHour_72 : decode cX6_passHour 72 = .ok (.iaload, 1) := by decide +kernel
theorem dX6_passHour_73 : decode cX6_passHour 73 = .ok (.iconst 1, 1) := by decide +kernel
theorem dX6_passHour_74 : decode cX6_passHour 74 = .ok (.isub, 1) := by decide +kernel
theorem dX6_passHour_75 : decode cX6_passHour 75 = .ok (.invokestatic 83, 3) := by decide +kernel
theorem dX6_passHour_78 : decode cX6_passHour 78 = .ok (.iastore, 1) := by decide +kernel
theorem dX6_passHour_79 : decode cX6_passHour 79 = .ok (.aload_n 0, 1) := by decide +kernel
theorem dX6_passHour_80 : decode cX6_passHour 80 = .ok (.getfield 18, 3) := by decide +kernel
theorem dX6_passHour_83 : decode cX6_passHour 83 = .ok (.iload_n 1, 1) := by decide +kernel
theorem dX6_passHour_84 : decode cX6_passHour 84 = .ok (.iconst 0, 1) := by decide +kernel
theorem dX6_passHour_85 : decode cX6_passHour 85 = .ok (.aload_n 0, 1) := by decide +kernel
theorem dX6_passHour_86 : decode cX6_passHour 86 = .ok (.getfield 18, 3) := by decide +kernel
theorem dX6_passHour_89 : decode cX6_passHour 89 = .ok (.iload_n 1, 1) := by decide +kernel
theorem dX6_passHour_90 : decode cX6_passHour 90 = .ok (.iaload, 1) := by decide +kernel
theorem dX6_passHour_91 : decode cX6_passHour 91 = .ok (.bipush 7, 2) := by decide +kernel
theorem dX6_passHour_93 : decode cX6_passHour 93 = .ok (.isub, 1) := by decide +kernel
theorem dX6_passHour_94 : decode cX6_passHour 94 = .ok (.invokestatic 83, 3) := by decide +kernel
theorem dX6_passHour_97 : decode cX6_passHour 97 = .ok (.iastore, 1) := by decide +kernel
theorem dX6_passHour_98 : decode cX6_passHour 98 = .ok (.aload_n 0, 1) := by decide +kernel
theorem dX6_passHour_99 : decode cX6_passHour 99 = .ok (.getfield 9, 3) := by decide +kernel
theorem dX6_passHour_102 : decode cX6_passHour 102 = .ok (.iload_n 1, 1) := by decide +kernel
theorem dX6_passHour_103 : decode cX6_passHour 103 = .ok (.iconst 0, 1) := by decide +kernel
theorem dX6_passHour_104 : decode cX6_passHour 104 = .ok (.aload_n 0, 1) := by decide +kernel
theorem dX6_passHour_105 : decode cX6_passHour 105 = .ok (.getfield 9, 3) := by decide +kernel
theorem dX6_passHour_108 : decode cX6_passHour 108 = .ok (.iload_n 1, 1) := by decide +kernel
theorem dX6_passHour_109 : decode cX6_passHour 109 = .ok (.iaload, 1) := by decide +kernel
theorem dX6_passHour_110 : decode cX6_passHour 110 = .ok (.aload_n 0, 1) := by decide +kernel
theorem dX6_passHour_111 : decode cX6_passHour 111 = .ok (.getfield 21, 3) := by decide +kernel
theorem dX6_passHour_114 : decode cX6_passHour 114 = .ok (.iload_n 1, 1) := by decide +kernel
theorem dX6_passHour_115 : decode cX6_passHour 115 = .ok (.iaload, 1) := by decide +kernel
theorem dX6_passHour_116 : decode cX6_passHour 116 = .ok (.isub, 1) := by decide +kernel
theorem dX6_passHour_117 : decode cX6_passHour 117 = .ok (.invokestatic 83, 3) := by decide +kernel
theorem dX6_passHour_120 : decode cX6_passHour 120 = .ok (.iastore, 1) := by decide +kernel
theorem dX6_passHour_121 : decode cX6_passHour 121 = .ok (.iinc 1 1, 3) := by decide +kernel
theorem dX6_passHour_124 : decode cX6_passHour 124 = .ok (.goto (-122), 3) := by decide +kernel
theorem dX6_passHour_127 : decode cX6_passHour 127 = .ok (.aload_n 0, 1) := by decide +kernel
theorem dX6_passHour_128 : decode cX6_passHour 128 = .ok (.dup, 1) := by decide +kernel
theorem dX6_passHour_129 : decode cX6_passHour 129 = .ok (.getfield 49, 3) := by decide +kernel
theorem dX6_passHour_132 : decode cX6_passHour 132 = .ok (.iconst 1, 1) := by decide +kernel
theorem dX6_passHour_133 : decode cX6_passHour 133 = .ok (.iadd, 1) := by decide +kernel
theorem dX6_passHour_134 : decode cX6_passHour 134 = .ok (.putfield 49, 3) := by decide +kernel
theorem dX6_passHour_137 : decode cX6_passHour 137 = .ok (.return_, 1) := by decide +kernel
set_option maxRecDepth 20000 in
theorem ggX6_visible_X6_has : GoodIn wsX6_visible wsX6_has := goodIn_r _ [11, 12, 18, 19, 20, 21, 22, 23, 24, 25, 26, 27, 28] (by decide +kernel) (by decide +kernel)
set_option maxRecDepth 20000 in
theorem gX6_visible_X6_has : GoodIn wsX6_visible (wsV RX6 52 RX6 yX6_has wsX6_has) := goodIn_app (goodIn_of _ (by decide +kernel)) ggX6_visible_X6_has
set_option maxRecDepth 20000 in
theorem ggX6_visible_X6_isWithin : GoodIn wsX6_visible wsX6_isWithin := goodIn_r _ [16, 17, 7, 8, 9, 10, 11, 12, 18, 19, 20, 21, 22, 23, 24, 25, 26, 27, 28] (by decide +kernel) (by decide +kernel)
set_option maxRecDepth 20000 in
theorem gX6_visible_X6_isWithin : GoodIn wsX6_visible (wsV RX6 59 RX6 yX6_isWithin wsX6_isWithin) := goodIn_app (goodIn_of _ (by decide +kernel)) ggX6_visible_X6_isWithin
theorem dX6_visible_0 : decode cX6_visible 0 = .ok (.aload_n 0, 1) := by decide +kernel
theorem dX6_visible_1 : decode cX6_visible 1 = .ok (.iload_n 1, 1) := by decide +kernel
theorem dX6_visible_2 : decode cX6_visible 2 = .ok (.invokevirtual 52, 3) := by decide +kernel
theorem dX6_visible_5 : decode cX6_visible 5 = .ok (.ifCond .ne 5, 3) := by decide +kernel
theorem dX6_visible_8 : decode cX6_visible 8 = .ok (.iconst 0, 1) := by decide +kernel
theorem dX6_visible_9 : decode cX6_visible 9 = .ok (.ireturn, 1) := by decide +kernel
theorem dX6_visible_10 : decode cX6_visible 10 = .ok (.iconst 0, 1) := by decide +kernel
theorem dX6_visible_11 : decode cX6_visible 11 = .ok (.istore_n 2, 1) := by decide +kernel
theorem dX6_visible_12 : decode cX6_visible 12 = .ok (.iconst 0, 1) := by decide +kernel
theorem dX6_visible_13 : decode cX6_visible 13 = .ok (.istore_n 3, 1) := by decide +kernel
theorem dX6_visible_14 : decode cX6_visible 14 = .ok (.iload_n 3, 1) := by decide +kernel
theorem dX6_visible_15 : decode cX6_visible 15 = .ok (.bipush 8, 2) := by decide +kernel
theorem dX6_visible_17 : decode cX6_visible 17 = .ok (.if_icmp .ge 30, 3) := by decide +kernel
theorem dX6_visible_20 : decode cX6_visible 20 = .ok (.aload_n 0, 1) := by decide +kernel
theorem dX6_visible_21 : decode cX6_visible 21 = .ok (.iload_n 1, 1) := by decide +kernel
theorem dX6_visible_22 : decode cX6_visible 22 = .ok (.iload_n 3, 1) := by decide +kernel
theorem dX6_visible_23 : decode cX6_visible 23 = .ok (.invokevirtual 59, 3) := by decide +kernel
theorem dX6_visible_26 : decode cX6_visible 26 = .ok (.ifCond .eq 15, 3) := by decide +kernel
theorem dX6_visible_29 : decode cX6_visible 29 = .ok (.iload_n 2, 1) := by decide +kernel
theorem dX6_visible_30 : decode cX6_visible 30 = .ok (.bipush 10, 2) := by decide +kernel
theorem dX6_visible_32 : decode cX6_visible 32 = .ok (.aload_n 0, 1) := by decide +kernel
theorem dX6_visible_33 : decode cX6_visible 33 = .ok (.getfield 24, 3) := by decide +kernel
theorem dX6_visible_36 : decode cX6_visible 36 = .ok (.iload_n 3, 1) := by decide +kernel
theorem dX6_visible_37 : decode cX6_visible 37 = .ok (.iaload, 1) := by decide +kernel
theorem dX6_visible_38 : decode cX6_visible 38 = .ok (.imul, 1) := by decide +kernel
theorem dX6_visible_39 : decode cX6_visible 39 = .ok (.iadd, 1) := by decide +kernel
theorem dX6_visible_40 : decode cX6_visible 40 = .ok (.istore_n 2, 1) := by decide +kernel
theorem dX6_visible_41 : decode cX6_visible 41 = .ok (.iinc 3 1, 3) := by decide +kernel
theorem dX6_visible_44 : decode cX6_visible 44 = .ok (.goto (-30), 3) := by decide +kernel
theorem dX6_visible_47 : decode cX6_visible 47 = .ok (.iconst 0, 1) := by decide +kernel
theorem dX6_visible_48 : decode cX6_visible 48 = .ok (.aload_n 0, 1) := by decide +kernel
theorem dX6_visible_49 : decode cX6_visible 49 = .ok (.getfield 18, 3) := by decide +kernel
theorem dX6_visible_52 : decode cX6_visible 52 = .ok (.iload_n 1, 1) := by decide +kernel
theorem dX6_visible_53 : decode cX6_visible 53 = .ok (.iaload, 1) := by decide +kernel
theorem dX6_visible_54 : decode cX6_visible 54 = .ok (.iload_n 2, 1) := by decide +kernel
theorem dX6_visible_55 : decode cX6_visible 55 = .ok (.isub, 1) := by decide +kernel
theorem dX6_visible_56 : decode cX6_visible 56 = .ok (.invokestatic 83, 3) := by decide +kernel
theorem dX6_visible_59 : decode cX6_visible 59 = .ok (.ireturn, 1) := by decide +kernel
set_option maxRecDepth 20000 in
theorem ggX6_depth_X6_bitsRound : GoodIn wsX6_depth wsX6_bitsRound := goodIn_r _ [5, 6, 7, 8, 4, 9, 10, 11, 12, 13, 14, 15, 23, 24, 25, 26, 27, 28, 29, 30, 31, 32, 33] (by decide +kernel) (by decide +kernel)
set_option maxRecDepth 20000 in
theorem gX6_depth_X6_bitsRound : GoodIn wsX6_depth (wsV RX6 86 RX6 yX6_bitsRound wsX6_bitsRound) := goodIn_app (goodIn_of _ (by decide +kernel)) ggX6_depth_X6_bitsRound
set_option maxRecDepth 20000 in
theorem ggX6_depth_J6_bitCount_0f7a4 : GoodIn wsX6_depth wsJ6_bitCount_0f7a4 := goodIn_r _ [19, 20, 21, 22] (by decide +kernel) (by decide +kernel)
set_option maxRecDepth 20000 in
theorem gX6_depth_J6_bitCount_0f7a4 : GoodIn wsX6_depth (va_wsS RX6 90 yJ6_bitCount_0f7a4 wsJ6_bitCount_0f7a4) := goodIn_app (goodIn_of _ (by decide +kernel)) ggX6_depth_J6_bitCount_0f7a4
theorem dX6_depth_0 : decode cX6_depth 0 = .ok (.aload_n 0, 1) := by decide +kernel
theorem dX6_depth_1 : decode cX6_depth 1 = .ok (.iload_n 1, 1) := by decide +kernel
theorem dX6_depth_2 : decode cX6_depth 2 = .ok (.invokevirtual 86, 3) := by decide +kernel
theorem dX6_depth_5 : decode cX6_depth 5 = .ok (.invokestatic 90, 3) := by decide +kernel
theorem dX6_depth_8 : decode cX6_depth 8 = .ok (.ireturn, 1) := by decide +kernel
set_option maxRecDepth 20000 in
theorem ggX6_shakenFor_X6_freeBits : GoodIn wsX6_shakenFor wsX6_freeBits := goodIn_r _ [6, 7, 8, 9, 5, 10, 11, 12, 13, 14, 15, 1, 29, 30, 31, 32, 33, 34, 35, 36, 37, 38, 39] (by decide +kernel) (by decide +kernel)
set_option maxRecDepth 20000 in
theorem gX6_shakenFor_X6_freeBits : GoodIn wsX6_shakenFor (wsV RX6 95 RX6 yX6_freeBits wsX6_freeBits) := goodIn_app (goodIn_of _ (by decide +kernel)) ggX6_shakenFor_X6_freeBits
set_option maxRecDepth 20000 in
theorem ggX6_shakenFor_X6_bitsRound : GoodIn wsX6_shakenFor wsX6_bitsRound := goodIn_r _ [19, 20, 21, 22, 5, 23, 24, 12, 13, 14, 15, 1, 29, 30, 31, 32, 33, 34, 35, 36, 37, 38, 39] (by decide +kernel) (by decide +kernel)
set_option maxRecDepth 20000 in
theorem gX6_shakenFor_X6_bitsRound : GoodIn wsX6_shakenFor (wsV RX6 86 RX6 yX6_bitsRound wsX6_bitsRound) := goodIn_app (goodIn_of _ (by decide +kernel)) ggX6_shakenFor_X6_bitsRound
set_option maxRecDepth 20000 in
theorem ggX6_shakenFor_X6_bitsWithin : GoodIn wsX6_shakenFor wsX6_bitsWithin := goodIn_r _ [28, 20, 21, 22, 5, 23, 24, 12, 13, 14, 15, 1, 29, 30, 31, 32, 33, 34, 35, 36, 37, 38, 39] (by decide +kernel) (by decide +kernel)
set_option maxRecDepth 20000 in
theorem gX6_shakenFor_X6_bitsWithin : GoodIn wsX6_shakenFor (wsV RX6 99 RX6 yX6_bitsWithin wsX6_bitsWithin) := goodIn_app (goodIn_of _ (by decide +kernel)) ggX6_shakenFor_X6_bitsWithin
theorem dX6_shakenFor_0 : decode cX6_shakenFor 0 = .ok (.aload_n 0, 1) := by decide +kernel
theorem dX6_shakenFor_1 : decode cX6_shakenFor 1 = .ok (.getfield 39, 3) := by decide +kernel
theorem dX6_shakenFor_4 : decode cX6_shakenFor 4 = .ok (.aload_n 0, 1) := by decide +kernel
theorem dX6_shakenFor_5 : decode cX6_shakenFor 5 = .ok (.invokevirtual 95, 3) := by decide +kernel
theorem dX6_shakenFor_8 : decode cX6_shakenFor 8 = .ok (.iconst (-1), 1) := by decide +kernel
theorem dX6_shakenFor_9 : decode cX6_shakenFor 9 = .ok (.ixor, 1) := by decide +kernel
theorem dX6_shakenFor_10 : decode cX6_shakenFor 10 = .ok (.iand, 1) := by decide +kernel
theorem dX6_shakenFor_11 : decode cX6_shakenFor 11 = .ok (.istore_n 2, 1) := by decide +kernel
theorem dX6_shakenFor_12 : decode cX6_shakenFor 12 = .ok (.iload_n 1, 1) := by decide +kernel
theorem dX6_shakenFor_13 : decode cX6_shakenFor 13 = .ok (.iload_n 2, 1) := by decide +kernel
theorem dX6_shakenFor_14 : decode cX6_shakenFor 14 = .ok (.iconst (-1), 1) := by decide +kernel
theorem dX6_shakenFor_15 : decode cX6_shakenFor 15 = .ok (.ixor, 1) := by decide +kernel
theorem dX6_shakenFor_16 : decode cX6_shakenFor 16 = .ok (.iand, 1) := by decide +kernel
theorem dX6_shakenFor_17 : decode cX6_shakenFor 17 = .ok (.ifCond .eq 6, 3) := by decide +kernel
theorem dX6_shakenFor_20 : decode cX6_shakenFor 20 = .ok (.bipush (-6), 2) := by decide +kernel
theorem dX6_shakenFor_22 : decode cX6_shakenFor 22 = .ok (.ireturn, 1) := by decide +kernel
theorem dX6_shakenFor_23 : decode cX6_shakenFor 23 = .ok (.iconst 0, 1) := by decide +kernel
theorem dX6_shakenFor_24 : decode cX6_shakenFor 24 = .ok (.istore_n 3, 1) := by decide +kernel
theorem dX6_shakenFor_25 : decode cX6_shakenFor 25 = .ok (.iconst 0, 1) := by decide +kernel
theorem dX6_shakenFor_26 : decode cX6_shakenFor 26 = .ok (.istore 4, 2) := by decide +kernel
theorem dX6_shakenFor_28 : decode cX6_shakenFor 28 = .ok (.iconst 0, 1) := by decide +kernel
theorem dX6_shakenFor_29 : decode cX6_shakenFor 29 = .ok (.istore 5, 2) := by decide +kernel
theorem dX6_shakenFor_31 : decode cX6_shakenFor 31 = .ok (.iload 5, 2) := by decide +kernel
theorem dX6_shakenFor_33 : decode cX6_shakenFor 33 = .ok (.bipush 8, 2) := by decide +kernel
theorem dX6_shakenFor_35 : decode cX6_shakenFor 35 = .ok (.if_icmp .ge 48, 3) := by decide +kernel
theorem dX6_shakenFor_38 : decode cX6_shakenFor 38 = .ok (.iload_n 1, 1) := by decide +kernel
theorem dX6_shakenFor_39 : decode cX6_shakenFor 39 = .ok (.iload 5, 2) := by decide +kernel
theorem dX6_shakenFor_41 : decode cX6_shakenFor 41 = .ok (.ishr, 1) := by decide +kernel
theorem dX6_shakenFor_42 : decode cX6_shakenFor 42 = .ok (.iconst 1, 1) := by decide +kernel
theorem dX6_shakenFor_43 : decode cX6_shakenFor 43 = .ok (.iand, 1) := by decide +kernel
theorem dX6_shakenFor_44 : decode cX6_shakenFor 44 = .ok (.iconst 1, 1) := by decide +kernel
theorem dX6_shakenFor_45 : decode cX6_shakenFor 45 = .ok (.if_icmp .ne 32, 3) := by decide +kernel
theorem dX6_shakenFor_48 : decode cX6_shakenFor 48 = .ok (.aload_n 0, 1) := by decide +kernel
theorem dX6_shakenFor_49 : decode cX6_shakenFor 49 = .ok (.iload 5, 2) := by decide +kernel
theorem dX6_shakenFor_51 : decode cX6_shakenFor 51 = .ok (.invokevirtual 86, 3) := by decide +kernel
theorem dX6_shakenFor_54 : decode cX6_shakenFor 54 = .ok (.iload_n 1, 1) := by decide +kernel
theorem dX6_shakenFor_55 : decode cX6_shakenFor 55 = .ok (.iand, 1) := by decide +kernel
theorem dX6_shakenFor_56 : decode cX6_shakenFor 56 = .ok (.ifCond .ne 21, 3) := by decide +kernel
theorem dX6_shakenFor_59 : decode cX6_shakenFor 59 = .ok (.iload_n 3, 1) := by decide +kernel
theorem dX6_shakenFor_60 : decode cX6_shakenFor 60 = .ok (.iconst 1, 1) := by decide +kernel
theorem dX6_shakenFor_61 : decode cX6_shakenFor 61 = .ok (.iload 5, 2) := by decide +kernel
theorem dX6_shakenFor_63 : decode cX6_shakenFor 63 = .ok (.ishl, 1) := by decide +kernel
theorem dX6_shakenFor_64 : decode cX6_shakenFor 64 = .ok (.ior, 1) := by decide +kernel
theorem dX6_shakenFor_65 : decode cX6_shakenFor 65 = .ok (.istore_n 3, 1) := by decide +kernel
theorem dX6_shakenFor_66 : decode cX6_shakenFor 66 = .ok (.iload 4, 2) := by decide +kernel
theorem dX6_shakenFor_68 : decode cX6_shakenFor 68 = .ok (.aload_n 0, 1) := by decide +kernel
theorem dX6_shakenFor_69 : decode cX6_shakenFor 69 = .ok (.iload 5, 2) := by decide +kernel
theorem dX6_shakenFor_71 : decode cX6_shakenFor 71 = .ok (.invokevirtual 99, 3) := by decide +kernel
theorem dX6_shakenFor_74 : decode cX6_shakenFor 74 = .ok (.ior, 1) := by decide +kernel
theorem dX6_shakenFor_75 : decode cX6_shakenFor 75 = .ok (.istore 4, 2) := by decide +kernel
theorem dX6_shakenFor_77 : decode cX6_shakenFor 77 = .ok (.iinc 5 1, 3) := by decide +kernel
theorem dX6_shakenFor_80 : decode cX6_shakenFor 80 = .ok (.goto (-49), 3) := by decide +kernel
theorem dX6_shakenFor_83 : decode cX6_shakenFor 83 = .ok (.iload 4, 2) := by decide +kernel
theorem dX6_shakenFor_85 : decode cX6_shakenFor 85 = .ok (.iload_n 2, 1) := by decide +kernel
theorem dX6_shakenFor_86 : decode cX6_shakenFor 86 = .ok (.iand, 1) := by decide +kernel
theorem dX6_shakenFor_87 : decode cX6_shakenFor 87 = .ok (.iload_n 1, 1) := by decide +kernel
theorem dX6_shakenFor_88 : decode cX6_shakenFor 88 = .ok (.if_icmp .ne 7, 3) := by decide +kernel
theorem dX6_shakenFor_91 : decode cX6_shakenFor 91 = .ok (.iload_n 3, 1) := by decide +kernel
theorem dX6_shakenFor_92 : decode cX6_shakenFor 92 = .ok (.goto 5, 3) := by decide +kernel
theorem dX6_shakenFor_95 : decode cX6_shakenFor 95 = .ok (.bipush (-6), 2) := by decide +kernel
theorem dX6_shakenFor_97 : decode cX6_shakenFor 97 = .ok (.ireturn, 1) := by decide +kernel
set_option maxRecDepth 20000 in
theorem ggX6_fillings_X6_has : GoodIn wsX6_fillings wsX6_has := goodIn_r _ [5, 6, 17, 18, 19, 20, 21, 22, 23, 24, 25, 26, 27] (by decide +kernel) (by decide +kernel)
set_option maxRecDepth 20000 in
theorem gX6_fillings_X6_has : GoodIn wsX6_fillings (wsV RX6 52 RX6 yX6_has wsX6_has) := goodIn_app (goodIn_of _ (by decide +kernel)) ggX6_fillings_X6_has
set_option maxRecDepth 20000 in
theorem ggX6_fillings_X6_isFree : GoodIn wsX6_fillings wsX6_isFree := goodIn_r _ [10, 11, 1, 2, 3, 4, 5, 6, 17, 18, 19, 20, 21, 22, 23, 24, 25, 26, 27] (by decide +kernel) (by decide +kernel)
set_option maxRecDepth 20000 in
theorem gX6_fillings_X6_isFree : GoodIn wsX6_fillings (wsV RX6 63 RX6 yX6_isFree wsX6_isFree) := goodIn_app (goodIn_of _ (by decide +kernel)) ggX6_fillings_X6_isFree
set_option maxRecDepth 20000 in
theorem ggX6_fillings_X6_fillingsOf : GoodIn wsX6_fillings wsX6_fillingsOf := goodIn_r _ [15, 11, 16, 1, 2, 3, 4, 5, 6, 17, 18, 19, 20, 21, 22, 23, 24, 25, 26, 27] (by decide +kernel) (by decide +kernel)
set_option maxRecDepth 20000 in
theorem gX6_fillings_X6_fillingsOf : GoodIn wsX6_fillings (wsV RX6 102 RX6 yX6_fillingsOf wsX6_fillingsOf) := goodIn_app (goodIn_of _ (by decide +kernel)) ggX6_fillings_X6_fillingsOf
theorem dX6_fillings_0 : decode cX6_fillings 0 = .ok (.iconst 0, 1) := by decide +kernel
theorem dX6_fillings_1 : decode cX6_fillings 1 = .ok (.istore_n 2, 1) := by decide +kernel
theorem dX6_fillings_2 : decode cX6_fillings 2 = .ok (.iconst 0, 1) := by decide +kernel
theorem dX6_fillings_3 : decode cX6_fillings 3 = .ok (.istore_n 3, 1) := by decide +kernel
theorem dX6_fillings_4 : decode cX6_fillings 4 = .ok (.iload_n 3, 1) := by decide +kernel
theorem dX6_fillings_5 : decode cX6_fillings 5 = .ok (.bipush 8, 2) := by decide +kernel
theorem dX6_fillings_7 : decode cX6_fillings 7 = .ok (.if_icmp .ge 34, 3) := by decide +kernel
theorem dX6_fillings_10 : decode cX6_fillings 10 = .ok (.aload_n 0, 1) := by decide +kernel
theorem dX6_fillings_11 : decode cX6_fillings 11 = .ok (.iload_n 3, 1) := by decide +kernel
theorem dX6_fillings_12 : decode cX6_fillings 12 = .ok (.invokevirtual 52, 3) := by decide +kernel
theorem dX6_fillings_15 : decode cX6_fillings 15 = .ok (.ifCond .eq 20, 3) := by decide +kernel
theorem dX6_fillings_18 : decode cX6_fillings 18 = .ok (.aload_n 0, 1) := by decide +kernel
theorem dX6_fillings_19 : decode cX6_fillings 19 = .ok (.iload_n 3, 1) := by decide +kernel
theorem dX6_fillings_20 : decode cX6_fillings 20 = .ok (.invokevirtual 63, 3) := by decide +kernel
theorem dX6_fillings_23 : decode cX6_fillings 23 = .ok (.ifCond .ne 12, 3) := by decide +kernel
theorem dX6_fillings_26 : decode cX6_fillings 26 = .ok (.iload_n 2, 1) := by decide +kernel
theorem dX6_fillings_27 : decode cX6_fillings 27 = .ok (.aload_n 0, 1) := by decide +kernel
theorem dX6_fillings_28 : decode cX6_fillings 28 = .ok (.iload_n 3, 1) := by decide +kernel
theorem dX6_fillings_29 : decode cX6_fillings 29 = .ok (.iload_n 1, 1) := by decide +kernel
theorem dX6_fillings_30 : decode cX6_fillings 30 = .ok (.invokevirtual 102, 3) := by decide +kernel
theorem dX6_fillings_33 : decode cX6_fillings 33 = .ok (.iadd, 1) := by decide +kernel
theorem dX6_fillings_34 : decode cX6_fillings 34 = .ok (.istore_n 2, 1) := by decide +kernel
theorem dX6_fillings_35 : decode cX6_fillings 35 = .ok (.iinc 3 1, 3) := by decide +kernel
theorem dX6_fillings_38 : decode cX6_fillings 38 = .ok (.goto (-34), 3) := by decide +kernel
theorem dX6_fillings_41 : decode cX6_fillings 41 = .ok (.iload_n 2, 1) := by decide +kernel
theorem dX6_fillings_42 : decode cX6_fillings 42 = .ok (.ireturn, 1) := by decide +kernel
set_option maxRecDepth 20000 in
theorem ggX6_fillingsOf_X6_has : GoodIn wsX6_fillingsOf wsX6_has := goodIn_r _ [7, 8, 9, 10, 11, 12, 13, 14, 15, 16, 17, 18, 19] (by decide +kernel) (by decide +kernel)
set_option maxRecDepth 20000 in
theorem gX6_fillingsOf_X6_has : GoodIn wsX6_fillingsOf (wsV RX6 52 RX6 yX6_has wsX6_has) := goodIn_app (goodIn_of _ (by decide +kernel)) ggX6_fillingsOf_X6_has
theorem dX6_fillingsOf_0 : decode cX6_fillingsOf 0 = .ok (.aload_n 0, 1) := by decide +kernel
theorem dX6_fillingsOf_1 : decode cX6_fillingsOf 1 = .ok (.iload_n 1, 1) := by decide +kernel
theorem dX6_fillingsOf_2 : decode cX6_fillingsOf 2 = .ok (.invokevirtual 52, 3) := by decide +kernel
theorem dX6_fillingsOf_5 : decode cX6_fillingsOf 5 = .ok (.ifCond .ne 5, 3) := by decide +kernel
theorem dX6_fillingsOf_8 : decode cX6_fillingsOf 8 = .ok (.iconst 0, 1) := by decide +kernel
theorem dX6_fillingsOf_9 : decode cX6_fillingsOf 9 = .ok (.ireturn, 1) := by decide +kernel
theorem dX6_fillingsOf_10 : decode cX6_fillingsOf 10 = .ok (.iconst 0, 1) := by decide +kernel
theorem dX6_fillingsOf_11 : decode cX6_fillingsOf 11 = .ok (.istore_n 3, 1) := by decide +kernel
theorem dX6_fillingsOf_12 : decode cX6_fillingsOf 12 = .ok (.aload_n 0, 1) := by decide +kernel
theorem dX6_fillingsOf_13 : decode cX6_fillingsOf 13 = .ok (.getfield 9, 3) := by decide +kernel
theorem dX6_fillingsOf_16 : decode cX6_fillingsOf 16 = .ok (.iload_n 1, 1) := by decide +kernel
theorem dX6_fillingsOf_17 : decode cX6_fillingsOf 17 = .ok (.iaload, 1) := by decide +kernel
theorem dX6_fillingsOf_18 : decode cX6_fillingsOf 18 = .ok (.istore 4, 2) := by decide +kernel
theorem dX6_fillingsOf_20 : decode cX6_fillingsOf 20 = .ok (.iconst 0, 1) := by decide +kernel
theorem dX6_fillingsOf_21 : decode cX6_fillingsOf 21 = .ok (.istore 5, 2) := by decide +kernel
theorem dX6_fillingsOf_23 : decode cX6_fillingsOf 23 = .ok (.iload 5, 2) := by decide +kernel
theorem dX6_fillingsOf_25 : decode cX6_fillingsOf 25 = .ok (.iload_n 2, 1) := by decide +kernel
theorem dX6_fillingsOf_26 : decode cX6_fillingsOf 26 = .ok (.if_icmp .ge 38, 3) := by decide +kernel
theorem dX6_fillingsOf_29 : decode cX6_fillingsOf 29 = .ok (.iload 4, 2) := by decide +kernel
theorem dX6_fillingsOf_31 : decode cX6_fillingsOf 31 = .ok (.aload_n 0, 1) := by decide +kernel
theorem dX6_fillingsOf_32 : decode cX6_fillingsOf 32 = .ok (.getfield 21, 3) := by decide +kernel
theorem dX6_fillingsOf_35 : decode cX6_fillingsOf 35 = .ok (.iload_n 1, 1) := by decide +kernel
theorem dX6_fillingsOf_36 : decode cX6_fillingsOf 36 = .ok (.iaload, 1) := by decide +kernel
theorem dX6_fillingsOf_37 : decode cX6_fillingsOf 37 = .ok (.if_icmp .gt 10, 3) := by decide +kernel
theorem dX6_fillingsOf_40 : decode cX6_fillingsOf 40 = .ok (.bipush 99, 2) := by decide +kernel
theorem dX6_fillingsOf_42 : decode cX6_fillingsOf 42 = .ok (.istore 4, 2) := by decide +kernel
theorem dX6_fillingsOf_44 : decode cX6_fillingsOf 44 = .ok (.iinc 3 1, 3) := by decide +kernel
theorem dX6_fillingsOf_47 : decode cX6_fillingsOf 47 = .ok (.iload 4, 2) := by decide +kernel
theorem dX6_fillingsOf_49 : decode cX6_fillingsOf 49 = .ok (.aload_n 0, 1) := by decide +kernel
theorem dX6_fillingsOf_50 : decode cX6_fillingsOf 50 = .ok (.getfield 21, 3) := by decide +kernel
theorem dX6_fillingsOf_53 : decode cX6_fillingsOf 53 = .ok (.iload_n 1, 1) := by decide +kernel
theorem dX6_fillingsOf_54 : decode cX6_fillingsOf 54 = .ok (.iaload, 1) := by decide +kernel
theorem dX6_fillingsOf_55 : decode cX6_fillingsOf 55 = .ok (.isub, 1) := by decide +kernel
theorem dX6_fillingsOf_56 : decode cX6_fillingsOf 56 = .ok (.istore 4, 2) := by decide +kernel
theorem dX6_fillingsOf_58 : decode cX6_fillingsOf 58 = .ok (.iinc 5 1, 3) := by decide +kernel
theorem dX6_fillingsOf_61 : decode cX6_fillingsOf 61 = .ok (.goto (-38), 3) := by decide +kernel
theorem dX6_fillingsOf_64 : decode cX6_fillingsOf 64 = .ok (.iload_n 3, 1) := by decide +kernel
theorem dX6_fillingsOf_65 : decode cX6_fillingsOf 65 = .ok (.ireturn, 1) := by decide +kernel
set_option maxRecDepth 20000 in
theorem ggX6_offFrom_X6_has : GoodIn wsX6_offFrom wsX6_has := goodIn_r _ [9, 10, 11, 12, 13, 14, 15, 16, 17, 18, 19, 20, 21] (by decide +kernel) (by decide +kernel)
set_option maxRecDepth 20000 in
theorem gX6_offFrom_X6_has : GoodIn wsX6_offFrom (wsV RX6 52 RX6 yX6_has wsX6_has) := goodIn_app (goodIn_of _ (by decide +kernel)) ggX6_offFrom_X6_has
theorem dX6_offFrom_0 : decode cX6_offFrom 0 = .ok (.iconst 0, 1) := by decide +kernel
theorem dX6_offFrom_1 : decode cX6_offFrom 1 = .ok (.istore_n 3, 1) := by decide +kernel
theorem dX6_offFrom_2 : decode cX6_offFrom 2 = .ok (.iload_n 1, 1) := by decide +kernel
theorem dX6_offFrom_3 : decode cX6_offFrom 3 = .ok (.istore 4, 2) := by decide +kernel
theorem dX6_offFrom_5 : decode cX6_offFrom 5 = .ok (.bipush 7, 2) := by decide +kernel
theorem dX6_offFrom_7 : decode cX6_offFrom 7 = .ok (.istore 5, 2) := by decide +kernel
theorem dX6_offFrom_9 : decode cX6_offFrom 9 = .ok (.iload 5, 2) := by decide +kernel
theorem dX6_offFrom_11 : decode cX6_offFrom 11 = .ok (.ifCond .lt 38, 3) := by decide +kernel
theorem dX6_offFrom_14 : decode cX6_offFrom 14 = .ok (.aload_n 0, 1) := by decide +kernel
theorem dX6_offFrom_15 : decode cX6_offFrom 15 = .ok (.iload 5, 2) := by decide +kernel
theorem dX6_offFrom_17 : decode cX6_offFrom 17 = .ok (.invokevirtual 52, 3) := by decide +kernel
theorem dX6_offFrom_20 : decode cX6_offFrom 20 = .ok (.ifCond .eq 16, 3) := by decide +kernel
theorem dX6_offFrom_23 : decode cX6_offFrom 23 = .ok (.iload_n 3, 1) := by decide +kernel
theorem dX6_offFrom_24 : decode cX6_offFrom 24 = .ok (.iload 4, 2) := by decide +kernel
theorem dX6_offFrom_26 : decode cX6_offFrom 26 = .ok (.bipush 10, 2) := by decide +kernel
theorem dX6_offFrom_28 : decode cX6_offFrom 28 = .ok (.irem, 1) := by decide +kernel
theorem dX6_offFrom_29 : decode cX6_offFrom 29 = .ok (.iload_n 2, 1) := by decide +kernel
theorem dX6_offFrom_30 : decode cX6_offFrom 30 = .ok (.isub, 1) := by decide +kernel
theorem dX6_offFrom_31 : decode cX6_offFrom 31 = .ok (.invokestatic 105, 3) := by decide +kernel
theorem dX6_offFrom_34 : decode cX6_offFrom 34 = .ok (.iadd, 1) := by decide +kernel
theorem dX6_offFrom_35 : decode cX6_offFrom 35 = .ok (.istore_n 3, 1) := by decide +kernel
theorem dX6_offFrom_36 : decode cX6_offFrom 36 = .ok (.iload 4, 2) := by decide +kernel
theorem dX6_offFrom_38 : decode cX6_offFrom 38 = .ok (.bipush 10, 2) := by decide +kernel
theorem dX6_offFrom_40 : decode cX6_offFrom 40 = .ok (.idiv, 1) := by decide +kernel
theorem dX6_offFrom_41 : decode cX6_offFrom 41 = .ok (.istore 4, 2) := by decide +kernel
theorem dX6_offFrom_43 : decode cX6_offFrom 43 = .ok (.iinc 5 (-1), 3) := by decide +kernel
theorem dX6_offFrom_46 : decode cX6_offFrom 46 = .ok (.goto (-37), 3) := by decide +kernel
theorem dX6_offFrom_49 : decode cX6_offFrom 49 = .ok (.iload_n 3, 1) := by decide +kernel
theorem dX6_offFrom_50 : decode cX6_offFrom 50 = .ok (.ireturn, 1) := by decide +kernel
set_option maxRecDepth 20000 in
theorem ggX6_toldOf_X6_has : GoodIn wsX6_toldOf wsX6_has := goodIn_r _ [12, 13, 19, 20, 21, 22, 23, 24, 25, 26, 27, 28, 29] (by decide +kernel) (by decide +kernel)
set_option maxRecDepth 20000 in
theorem gX6_toldOf_X6_has : GoodIn wsX6_toldOf (wsV RX6 52 RX6 yX6_has wsX6_has) := goodIn_app (goodIn_of _ (by decide +kernel)) ggX6_toldOf_X6_has
set_option maxRecDepth 20000 in
theorem ggX6_toldOf_X6_outer : GoodIn wsX6_toldOf wsX6_outer := goodIn_r _ [17, 18, 8, 9, 10, 11, 12, 13, 19, 20, 21, 22, 23, 24, 25, 26, 27, 28, 29] (by decide +kernel) (by decide +kernel)
set_option maxRecDepth 20000 in
theorem gX6_toldOf_X6_outer : GoodIn wsX6_toldOf (wsV RX6 108 RX6 yX6_outer wsX6_outer) := goodIn_app (goodIn_of _ (by decide +kernel)) ggX6_toldOf_X6_outer
theorem dX6_toldOf_0 : decode cX6_toldOf 0 = .ok (.aload_n 0, 1) := by decide +kernel
theorem dX6_toldOf_1 : decode cX6_toldOf 1 = .ok (.iload_n 1, 1) := by decide +kernel
theorem dX6_toldOf_2 : decode cX6_toldOf 2 = .ok (.invokevirtual 52, 3) := by decide +kernel
theorem dX6_toldOf_5 : decode cX6_toldOf 5 = .ok (.ifCond .ne 6, 3) := by decide +kernel
theorem dX6_toldOf_8 : decode cX6_toldOf 8 = .ok (.bipush (-2), 2) := by decide +kernel
theorem dX6_toldOf_10 : decode cX6_toldOf 10 = .ok (.ireturn, 1) := by decide +kernel
theorem dX6_toldOf_11 : decode cX6_toldOf 11 = .ok (.iload_n 2, 1) := by decide +kernel
theorem dX6_toldOf_12 : decode cX6_toldOf 12 = .ok (.tableswitch 105 0 7 #[48, 55, 62, 69, 76, 83, 92, 99], 48) := by decide +kernel
theorem dX6_toldOf_60 : decode cX6_toldOf 60 = .ok (.aload_n 0, 1) := by decide +kernel
theorem dX6_toldOf_61 : decode cX6_toldOf 61 = .ok (.getfield 9, 3) := by decide +kernel
theorem dX6_toldOf_64 : decode cX6_toldOf 64 = .ok (.iload_n 1, 1) := by decide +kernel
theorem dX6_toldOf_65 : decode cX6_toldOf 65 = .ok (.iaload, 1) := by decide +kernel
theorem dX6_toldOf_66 : decode cX6_toldOf 66 = .ok (.ireturn, 1) := by decide +kernel
theorem dX6_toldOf_67 : decode cX6_toldOf 67 = .ok (.aload_n 0, 1) := by decide +kernel
theorem dX6_toldOf_68 : decode cX6_toldOf 68 = .ok (.getfield 15, 3) := by decide +kernel
theorem dX6_toldOf_71 : decode cX6_toldOf 71 = .ok (.iload_n 1, 1) := by decide +kernel
theorem dX6_toldOf_72 : decode cX6_toldOf 72 = .ok (.iaload, 1) := by decide +kernel
theorem dX6_toldOf_73 : decode cX6_toldOf 73 = .ok (.ireturn, 1) := by decide +kernel
theorem dX6_toldOf_74 : decode cX6_toldOf 74 = .ok (.aload_n 0, 1) := by decide +kernel
theorem dX6_toldOf_75 : decode cX6_toldOf 75 = .ok (.getfield 18, 3) := by decide +kernel
theorem dX6_toldOf_78 : decode cX6_toldOf 78 = .ok (.iload_n 1, 1) := by decide +kernel
theorem dX6_toldOf_79 : decode cX6_toldOf 79 = .ok (.iaload, 1) := by decide +kernel
theorem dX6_toldOf_80 : decode cX6_toldOf 80 = .ok (.ireturn, 1) := by decide +kernel
theorem dX6_toldOf_81 : decode cX6_toldOf 81 = .ok (.aload_n 0, 1) := by decide +kernel
theorem dX6_toldOf_82 : decode cX6_toldOf 82 = .ok (.getfield 21, 3) := by decide +kernel
theorem dX6_toldOf_85 : decode cX6_toldOf 85 = .ok (.iload_n 1, 1) := by decide +kernel
theorem dX6_toldOf_86 : decode cX6_toldOf 86 = .ok (.iaload, 1) := by decide +kernel
theorem dX6_toldOf_87 : decode cX6_toldOf 87 = .ok (.ireturn, 1) := by decide +kernel
theorem dX6_toldOf_88 : decode cX6_toldOf 88 = .ok (.aload_n 0, 1) := by decide +kernel
theorem dX6_toldOf_89 : decode cX6_toldOf 89 = .ok (.getfield 24, 3) := by decide +kernel
theorem dX6_toldOf_92 : decode cX6_toldOf 92 = .ok (.iload_n 1, 1) := by decide +kernel
theorem dX6_toldOf_93 : decode cX6_toldOf 93 = .ok (.iaload, 1) := by decide +kernel
theorem dX6_toldOf_94 : decode cX6_toldOf 94 = .ok (.ireturn, 1) := by decide +kernel
theorem dX6_toldOf_95 : decode cX6_toldOf 95 = .ok (.aload_n 0, 1) := by decide +kernel
theorem dX6_toldOf_96 : decode cX6_toldOf 96 = .ok (.getfield 43, 3) := by decide +kernel
theorem dX6_toldOf_99 : decode cX6_toldOf 99 = .ok (.iload_n 1, 1) := by decide +kernel
theorem dX6_toldOf_100 : decode cX6_toldOf 100 = .ok (.ishr, 1) := by decide +kernel
theorem dX6_toldOf_101 : decode cX6_toldOf 101 = .ok (.iconst 1, 1) := by decide +kernel
theorem dX6_toldOf_102 : decode cX6_toldOf 102 = .ok (.iand, 1) := by decide +kernel
theorem dX6_toldOf_103 : decode cX6_toldOf 103 = .ok (.ireturn, 1) := by decide +kernel
theorem dX6_toldOf_104 : decode cX6_toldOf 104 = .ok (.aload_n 0, 1) := by decide +kernel
theorem dX6_toldOf_105 : decode cX6_toldOf 105 = .ok (.getfield 27, 3) := by decide +kernel
theorem dX6_toldOf_108 : decode cX6_toldOf 108 = .ok (.iload_n 1, 1) := by decide +kernel
theorem dX6_toldOf_109 : decode cX6_toldOf 109 = .ok (.iaload, 1) := by decide +kernel
theorem dX6_toldOf_110 : decode cX6_toldOf 110 = .ok (.ireturn, 1) := by decide +kernel
theorem dX6_toldOf_111 : decode cX6_toldOf 111 = .ok (.aload_n 0, 1) := by decide +kernel
theorem dX6_toldOf_112 : decode cX6_toldOf 112 = .ok (.iload_n 1, 1) := by decide +kernel
theorem dX6_toldOf_113 : decode cX6_toldOf 113 = .ok (.invokevirtual 108, 3) := by decide +kernel
theorem dX6_toldOf_116 : decode cX6_toldOf 116 = .ok (.ireturn, 1) := by decide +kernel
theorem dX6_toldOf_117 : decode cX6_toldOf 117 = .ok (.bipush (-2), 2) := by decide +kernel
theorem dX6_toldOf_119 : decode cX6_toldOf 119 = .ok (.ireturn, 1) := by decide +kernel
theorem dX7_init_0 : decode cX7_init 0 = .ok (.aload_n 0, 1) := by decide +kernel
theorem dX7_init_1 : decode cX7_init 1 = .ok (.invokespecial 3, 3) := by decide +kernel
theorem dX7_init_4 : decode cX7_init 4 = .ok (.aload_n 0, 1) := by decide +kernel
theorem dX7_init_5 : decode cX7_init 5 = .ok (.bipush 8, 2) := by decide +kernel
theorem dX7_init_7 : decode cX7_init 7 = .ok (.newarray .int, 2) := by decide +kernel
theorem dX7_init_9 : decode cX7_init 9 = .ok (.putfield 9, 3) := by decide +kernel
theorem dX7_init_12 : decode cX7_init 12 = .ok (.aload_n 0, 1) := by decide +kernel
theorem dX7_init_13 : decode cX7_init 13 = .ok (.bipush 8, 2) := by decide +kernel
theorem dX7_init_15 : decode cX7_init 15 = .ok (.newarray .int, 2) := by decide +kernel
theorem dX7_init_17 : decode cX7_init 17 = .ok (.putfield 15, 3) := by decide +kernel
theorem dX7_init_20 : decode cX7_init 20 = .ok (.return_, 1) := by decide +kernel
theorem dX7_takeFrom_0 : decode cX7_takeFrom 0 = .ok (.aload_n 1, 1) := by decide +kernel
theorem dX7_takeFrom_1 : decode cX7_takeFrom 1 = .ok (.getfield 9, 3) := by decide +kernel
theorem dX7_takeFrom_4 : decode cX7_takeFrom 4 = .ok (.iconst 0, 1) := by decide +kernel
theorem dX7_takeFrom_5 : decode cX7_takeFrom 5 = .ok (.aload_n 0, 1) := by decide +kernel
theorem dX7_takeFrom_6 : decode cX7_takeFrom 6 = .ok (.getfield 9, 3) := by decide +kernel
theorem dX7_takeFrom_9 : decode cX7_takeFrom 9 = .ok (.iconst 0, 1) := by decide +kernel
theorem dX7_takeFrom_10 : decode cX7_takeFrom 10 = .ok (.bipush 8, 2) := by decide +kernel
theorem dX7_takeFrom_12 : decode cX7_takeFrom 12 = .ok (.invokestatic 18, 3) := by decide +kernel
theorem dX7_takeFrom_15 : decode cX7_takeFrom 15 = .ok (.aload_n 1, 1) := by decide +kernel
theorem dX7_takeFrom_16 : decode cX7_takeFrom 16 = .ok (.getfield 15, 3) := by decide +kernel
theorem dX7_takeFrom_19 : decode cX7_takeFrom 19 = .ok (.iconst 0, 1) := by decide +kernel
theorem dX7_takeFrom_20 : decode cX7_takeFrom 20 = .ok (.aload_n 0, 1) := by decide +kernel
theorem dX7_takeFrom_21 : decode cX7_takeFrom 21 = .ok (.getfield 15, 3) := by decide +kernel
theorem dX7_takeFrom_24 : decode cX7_takeFrom 24 = .ok (.iconst 0, 1) := by decide +kernel
theorem dX7_takeFrom_25 : decode cX7_takeFrom 25 = .ok (.bipush 8, 2) := by decide +kernel
theorem dX7_takeFrom_27 : decode cX7_takeFrom 27 = .ok (.invokestatic 18, 3) := by decide +kernel
theorem dX7_takeFrom_30 : decode cX7_takeFrom 30 = .ok (.aload_n 0, 1) := by decide +kernel
theorem dX7_takeFrom_31 : decode cX7_takeFrom 31 = .ok (.aload_n 1, 1) := by decide +kernel
theorem dX7_takeFrom_32 : decode cX7_takeFrom 32 = .ok (.getfield 24, 3) := by decide +kernel
theorem dX7_takeFrom_35 : decode cX7_takeFrom 35 = .ok (.putfield 24, 3) := by decide +kernel
theorem dX7_takeFrom_38 : decode cX7_takeFrom 38 = .ok (.return_, 1) := by decide +kernel
theorem dX7_add_0 : decode cX7_add 0 = .ok (.aload_n 0, 1) := by decide +kernel
theorem dX7_add_1 : decode cX7_add 1 = .ok (.getfield 24, 3) := by decide +kernel
theorem dX7_add_4 : decode cX7_add 4 = .ok (.ifCond .lt 12, 3) := by decide +kernel
theorem dX7_add_7 : decode cX7_add 7 = .ok (.aload_n 0, 1) := by decide +kernel
theorem dX7_add_8 : decode cX7_add 8 = .ok (.getfield 24, 3) := by decide +kernel
theorem dX7_add_11 : decode cX7_add 11 = .ok (.bipush 8, 2) := by decide +kernel
theorem dX7_add_13 : decode cX7_add 13 = .ok (.if_icmp .lt 5, 3) := by decide +kernel
theorem dX7_add_16 : decode cX7_add 16 = .ok (.iconst 0, 1) := by decide +kernel
theorem dX7_add_17 : decode cX7_add 17 = .ok (.ireturn, 1) := by decide +kernel
theorem dX7_add_18 : decode cX7_add 18 = .ok (.aload_n 0, 1) := by decide +kernel
theorem dX7_add_19 : decode cX7_add 19 = .ok (.getfield 9, 3) := by decide +kernel
theorem dX7_add_22 : decode cX7_add 22 = .ok (.aload_n 0, 1) := by decide +kernel
theorem dX7_add_23 : decode cX7_add 23 = .ok (.getfield 24, 3) := by decide +kernel
theorem dX7_add_26 : decode cX7_add 26 = .ok (.iload_n 1, 1) := by decide +kernel
theorem dX7_add_27 : decode cX7_add 27 = .ok (.iastore, 1) := by decide +kernel
theorem dX7_add_28 : decode cX7_add 28 = .ok (.aload_n 0, 1) := by decide +kernel
theorem dX7_add_29 : decode cX7_add 29 = .ok (.getfield 15, 3) := by decide +kernel
theorem dX7_add_32 : decode cX7_add 32 = .ok (.aload_n 0, 1) := by decide +kernel
theorem dX7_add_33 : decode cX7_add 33 = .ok (.getfield 24, 3) := by decide +kernel
theorem dX7_add_36 : decode cX7_add 36 = .ok (.iload_n 2, 1) := by decide +kernel
theorem dX7_add_37 : decode cX7_add 37 = .ok (.iastore, 1) := by decide +kernel
theorem dX7_add_38 : decode cX7_add 38 = .ok (.aload_n 0, 1) := by decide +kernel
theorem dX7_add_39 : decode cX7_add 39 = .ok (.dup, 1) := by decide +kernel
theorem dX7_add_40 : decode cX7_add 40 = .ok (.getfield 24, 3) := by decide +kernel
theorem dX7_add_43 : decode cX7_add 43 = .ok (.iconst 1, 1) := by decide +kernel
theorem dX7_add_44 : decode cX7_add 44 = .ok (.iadd, 1) := by decide +kernel
theorem dX7_add_45 : decode cX7_add 45 = .ok (.putfield 24, 3) := by decide +kernel
theorem dX7_add_48 : decode cX7_add 48 = .ok (.iconst 1, 1) := by decide +kernel
theorem dX7_add_49 : decode cX7_add 49 = .ok (.ireturn, 1) := by decide +kernel
set_option maxRecDepth 20000 in
theorem ggX7_fit_X5_flyingAt : GoodIn wsX7_fit wsX5_flyingAt := goodIn_r _ [7, 8, 9, 10, 11] (by decide +kernel) (by decide +kernel)
set_option maxRecDepth 20000 in
theorem gX7_fit_X5_flyingAt : GoodIn wsX7_fit (va_wsS RX7 28 yX5_flyingAt wsX5_flyingAt) := goodIn_app (goodIn_of _ (by decide +kernel)) ggX7_fit_X5_flyingAt
theorem dX7_fit_0 : decode cX7_fit 0 = .ok (.iconst 0, 1) := by decide +kernel
theorem dX7_fit_1 : decode cX7_fit 1 = .ok (.istore_n 3, 1) := by decide +kernel
theorem dX7_fit_2 : decode cX7_fit 2 = .ok (.iload_n 3, 1) := by decide +kernel
theorem dX7_fit_3 : decode cX7_fit 3 = .ok (.aload_n 0, 1) := by decide +kernel
theorem dX7_fit_4 : decode cX7_fit 4 = .ok (.getfield 24, 3) := by decide +kernel
theorem dX7_fit_7 : decode cX7_fit 7 = .ok (.if_icmp .ge 37, 3) := by decide +kernel
theorem dX7_fit_10 : decode cX7_fit 10 = .ok (.iload_n 3, 1) := by decide +kernel
theorem dX7_fit_11 : decode cX7_fit 11 = .ok (.bipush 8, 2) := by decide +kernel
theorem dX7_fit_13 : decode cX7_fit 13 = .ok (.if_icmp .ge 31, 3) := by decide +kernel
theorem dX7_fit_16 : decode cX7_fit 16 = .ok (.iload_n 1, 1) := by decide +kernel
theorem dX7_fit_17 : decode cX7_fit 17 = .ok (.iload_n 2, 1) := by decide +kernel
theorem dX7_fit_18 : decode cX7_fit 18 = .ok (.aload_n 0, 1) := by decide +kernel
theorem dX7_fit_19 : decode cX7_fit 19 = .ok (.getfield 9, 3) := by decide +kernel
theorem dX7_fit_22 : decode cX7_fit 22 = .ok (.iload_n 3, 1) := by decide +kernel
theorem dX7_fit_23 : decode cX7_fit 23 = .ok (.iaload, 1) := by decide +kernel
theorem dX7_fit_24 : decode cX7_fit 24 = .ok (.invokestatic 28, 3) := by decide +kernel
theorem dX7_fit_27 : decode cX7_fit 27 = .ok (.aload_n 0, 1) := by decide +kernel
theorem dX7_fit_28 : decode cX7_fit 28 = .ok (.getfield 15, 3) := by decide +kernel
theorem dX7_fit_31 : decode cX7_fit 31 = .ok (.iload_n 3, 1) := by decide +kernel
theorem dX7_fit_32 : decode cX7_fit 32 = .ok (.iaload, 1) := by decide +kernel
theorem dX7_fit_33 : decode cX7_fit 33 = .ok (.if_icmp .eq 5, 3) := by decide +kernel
theorem dX7_fit_36 : decode cX7_fit 36 = .ok (.iconst 0, 1) := by decide +kernel
theorem dX7_fit_37 : decode cX7_fit 37 = .ok (.ireturn, 1) := by decide +kernel
theorem dX7_fit_38 : decode cX7_fit 38 = .ok (.iinc 3 1, 3) := by decide +kernel
theorem dX7_fit_41 : decode cX7_fit 41 = .ok (.goto (-39), 3) := by decide +kernel
theorem dX7_fit_44 : decode cX7_fit 44 = .ok (.iconst 1, 1) := by decide +kernel
theorem dX7_fit_45 : decode cX7_fit 45 = .ok (.ireturn, 1) := by decide +kernel
theorem dX8_init_0 : decode cX8_init 0 = .ok (.aload_n 0, 1) := by decide +kernel
theorem dX8_init_1 : decode cX8_init 1 = .ok (.invokespecial 3, 3) := by decide +kernel
theorem dX8_init_4 : decode cX8_init 4 = .ok (.aload_n 0, 1) := by decide +kernel
theorem dX8_init_5 : decode cX8_init 5 = .ok (.sipush 256, 3) := by decide +kernel
theorem dX8_init_8 : decode cX8_init 8 = .ok (.newarray .boolean, 2) := by decide +kernel
theorem dX8_init_10 : decode cX8_init 10 = .ok (.putfield 9, 3) := by decide +kernel
theorem dX8_init_13 : decode cX8_init 13 = .ok (.aload_n 0, 1) := by decide +kernel
theorem dX8_init_14 : decode cX8_init 14 = .ok (.bipush 8, 2) := by decide +kernel
theorem dX8_init_16 : decode cX8_init 16 = .ok (.newarray .int, 2) := by decide +kernel
theorem dX8_init_18 : decode cX8_init 18 = .ok (.putfield 15, 3) := by decide +kernel
theorem dX8_init_21 : decode cX8_init 21 = .ok (.return_, 1) := by decide +kernel
set_option maxRecDepth 20000 in
theorem ggX8_firstTaken_X6_bitsWithin : GoodIn wsX8_firstTaken wsX6_bitsWithin := goodIn_r _ [8, 9, 10, 11, 7, 12, 13, 14, 15, 16, 17, 18, 26, 27, 28, 29, 30, 31, 32, 33, 34, 35, 36] (by decide +kernel) (by decide +kernel)
set_option maxRecDepth 20000 in
theorem gX8_firstTaken_X6_bitsWithin : GoodIn wsX8_firstTaken (wsV RX8 19 RX6 yX6_bitsWithin wsX6_bitsWithin) := goodIn_app (goodIn_of _ (by decide +kernel)) ggX8_firstTaken_X6_bitsWithin
set_option maxRecDepth 20000 in
theorem ggX8_firstTaken_X8_winningGlobe : GoodIn wsX8_firstTaken wsX8_winningGlobe := goodIn_r _ [23, 1, 2, 24, 25] (by decide +kernel) (by decide +kernel)
set_option maxRecDepth 20000 in
theorem gX8_firstTaken_X8_winningGlobe : GoodIn wsX8_firstTaken (wsV RX8 25 RX8 yX8_winningGlobe wsX8_winningGlobe) := goodIn_app (goodIn_of _ (by decide +kernel)) ggX8_firstTaken_X8_winningGlobe
theorem dX8_firstTaken_0 : decode cX8_firstTaken 0 = .ok (.iconst 0, 1) := by decide +kernel
