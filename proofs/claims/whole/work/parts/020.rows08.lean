theorem dX10_count_50 : decode cX10_count 50 = .ok (.iload 5, 2) := by decide +kernel
theorem dX10_count_52 : decode cX10_count 52 = .ok (.iconst 0, 1) := by decide +kernel
theorem dX10_count_53 : decode cX10_count 53 = .ok (.iconst 1, 1) := by decide +kernel
theorem dX10_count_54 : decode cX10_count 54 = .ok (.invokestatic 51, 3) := by decide +kernel
theorem dX10_count_57 : decode cX10_count 57 = .ok (.ifCond .ne 7, 3) := by decide +kernel
theorem dX10_count_60 : decode cX10_count 60 = .ok (.ldc2_w 167, 3) := by decide +kernel
theorem dX10_count_63 : decode cX10_count 63 = .ok (.lreturn, 1) := by decide +kernel
theorem dX10_count_64 : decode cX10_count 64 = .ok (.iload_n 2, 1) := by decide +kernel
theorem dX10_count_65 : decode cX10_count 65 = .ok (.i2l, 1) := by decide +kernel
theorem dX10_count_66 : decode cX10_count 66 = .ok (.iconst 2, 1) := by decide +kernel
theorem dX10_count_67 : decode cX10_count 67 = .ok (.iload_n 1, 1) := by decide +kernel
theorem dX10_count_68 : decode cX10_count 68 = .ok (.imul, 1) := by decide +kernel
theorem dX10_count_69 : decode cX10_count 69 = .ok (.invokestatic 169, 3) := by decide +kernel
theorem dX10_count_72 : decode cX10_count 72 = .ok (.lstore 6, 2) := by decide +kernel
theorem dX10_count_74 : decode cX10_count 74 = .ok (.ldc2_w 173, 3) := by decide +kernel
theorem dX10_count_77 : decode cX10_count 77 = .ok (.iload 4, 2) := by decide +kernel
theorem dX10_count_79 : decode cX10_count 79 = .ok (.ifCond .ne 7, 3) := by decide +kernel
theorem dX10_count_82 : decode cX10_count 82 = .ok (.iload_n 1, 1) := by decide +kernel
theorem dX10_count_83 : decode cX10_count 83 = .ok (.goto 6, 3) := by decide +kernel
theorem dX10_count_86 : decode cX10_count 86 = .ok (.iconst 2, 1) := by decide +kernel
theorem dX10_count_87 : decode cX10_count 87 = .ok (.iload_n 1, 1) := by decide +kernel
theorem dX10_count_88 : decode cX10_count 88 = .ok (.imul, 1) := by decide +kernel
theorem dX10_count_89 : decode cX10_count 89 = .ok (.invokestatic 169, 3) := by decide +kernel
theorem dX10_count_92 : decode cX10_count 92 = .ok (.lstore 8, 2) := by decide +kernel
theorem dX10_count_94 : decode cX10_count 94 = .ok (.iload 4, 2) := by decide +kernel
theorem dX10_count_96 : decode cX10_count 96 = .ok (.ifCond .ne 139, 3) := by decide +kernel
theorem dX10_count_99 : decode cX10_count 99 = .ok (.iconst 0, 1) := by decide +kernel
theorem dX10_count_100 : decode cX10_count 100 = .ok (.istore 10, 2) := by decide +kernel
theorem dX10_count_102 : decode cX10_count 102 = .ok (.iload 10, 2) := by decide +kernel
theorem dX10_count_104 : decode cX10_count 104 = .ok (.bipush 19, 2) := by decide +kernel
theorem dX10_count_106 : decode cX10_count 106 = .ok (.if_icmp .ge 26, 3) := by decide +kernel
theorem dX10_count_109 : decode cX10_count 109 = .ok (.aload_n 0, 1) := by decide +kernel
theorem dX10_count_110 : decode cX10_count 110 = .ok (.getfield 40, 3) := by decide +kernel
theorem dX10_count_113 : decode cX10_count 113 = .ok (.iload 10, 2) := by decide +kernel
theorem dX10_count_115 : decode cX10_count 115 = .ok (.iload 10, 2) := by decide +kernel
theorem dX10_count_117 : decode cX10_count 117 = .ok (.ifCond .ne 7, 3) := by decide +kernel
theorem dX10_count_120 : decode cX10_count 120 = .ok (.lconst 1, 1) := by decide +kernel
theorem dX10_count_121 : decode cX10_count 121 = .ok (.goto 4, 3) := by decide +kernel
theorem dX10_count_124 : decode cX10_count 124 = .ok (.lconst 0, 1) := by decide +kernel
theorem dX10_count_125 : decode cX10_count 125 = .ok (.lastore, 1) := by decide +kernel
theorem dX10_count_126 : decode cX10_count 126 = .ok (.iinc 10 1, 3) := by decide +kernel
theorem dX10_count_129 : decode cX10_count 129 = .ok (.goto (-27), 3) := by decide +kernel
theorem dX10_count_132 : decode cX10_count 132 = .ok (.iconst 0, 1) := by decide +kernel
theorem dX10_count_133 : decode cX10_count 133 = .ok (.istore 10, 2) := by decide +kernel
theorem dX10_count_135 : decode cX10_count 135 = .ok (.iload 10, 2) := by decide +kernel
theorem dX10_count_137 : decode cX10_count 137 = .ok (.iload_n 1, 1) := by decide +kernel
theorem dX10_count_138 : decode cX10_count 138 = .ok (.if_icmp .ge 66, 3) := by decide +kernel
theorem dX10_count_141 : decode cX10_count 141 = .ok (.bipush 18, 2) := by decide +kernel
theorem dX10_count_143 : decode cX10_count 143 = .ok (.istore 11, 2) := by decide +kernel
theorem dX10_count_145 : decode cX10_count 145 = .ok (.iload 11, 2) := by decide +kernel
theorem dX10_count_147 : decode cX10_count 147 = .ok (.ifCond .lt 51, 3) := by decide +kernel
theorem dX10_count_150 : decode cX10_count 150 = .ok (.aload_n 0, 1) := by decide +kernel
theorem dX10_count_151 : decode cX10_count 151 = .ok (.getfield 40, 3) := by decide +kernel
theorem dX10_count_154 : decode cX10_count 154 = .ok (.iload 11, 2) := by decide +kernel
theorem dX10_count_156 : decode cX10_count 156 = .ok (.aload_n 0, 1) := by decide +kernel
theorem dX10_count_157 : decode cX10_count 157 = .ok (.getfield 40, 3) := by decide +kernel
theorem dX10_count_160 : decode cX10_count 160 = .ok (.iload 11, 2) := by decide +kernel
theorem dX10_count_162 : decode cX10_count 162 = .ok (.laload, 1) := by decide +kernel
theorem dX10_count_163 : decode cX10_count 163 = .ok (.bipush 10, 2) := by decide +kernel
theorem dX10_count_165 : decode cX10_count 165 = .ok (.iload_n 2, 1) := by decide +kernel
theorem dX10_count_166 : decode cX10_count 166 = .ok (.isub, 1) := by decide +kernel
theorem dX10_count_167 : decode cX10_count 167 = .ok (.i2l, 1) := by decide +kernel
theorem dX10_count_168 : decode cX10_count 168 = .ok (.lmul, 1) := by decide +kernel
theorem dX10_count_169 : decode cX10_count 169 = .ok (.iload 11, 2) := by decide +kernel
theorem dX10_count_171 : decode cX10_count 171 = .ok (.ifCond .le 18, 3) := by decide +kernel
theorem dX10_count_174 : decode cX10_count 174 = .ok (.aload_n 0, 1) := by decide +kernel
theorem dX10_count_175 : decode cX10_count 175 = .ok (.getfield 40, 3) := by decide +kernel
theorem dX10_count_178 : decode cX10_count 178 = .ok (.iload 11, 2) := by decide +kernel
theorem dX10_count_180 : decode cX10_count 180 = .ok (.iconst 1, 1) := by decide +kernel
theorem dX10_count_181 : decode cX10_count 181 = .ok (.isub, 1) := by decide +kernel
theorem dX10_count_182 : decode cX10_count 182 = .ok (.laload, 1) := by decide +kernel
theorem dX10_count_183 : decode cX10_count 183 = .ok (.iload_n 2, 1) := by decide +kernel
theorem dX10_count_184 : decode cX10_count 184 = .ok (.i2l, 1) := by decide +kernel
theorem dX10_count_185 : decode cX10_count 185 = .ok (.lmul, 1) := by decide +kernel
theorem dX10_count_186 : decode cX10_count 186 = .ok (.goto 4, 3) := by decide +kernel
theorem dX10_count_189 : decode cX10_count 189 = .ok (.lconst 0, 1) := by decide +kernel
theorem dX10_count_190 : decode cX10_count 190 = .ok (.ladd, 1) := by decide +kernel
theorem dX10_count_191 : decode cX10_count 191 = .ok (.lastore, 1) := by decide +kernel
theorem dX10_count_192 : decode cX10_count 192 = .ok (.iinc 11 (-1), 3) := by decide +kernel
theorem dX10_count_195 : decode cX10_count 195 = .ok (.goto (-50), 3) := by decide +kernel
theorem dX10_count_198 : decode cX10_count 198 = .ok (.iinc 10 1, 3) := by decide +kernel
theorem dX10_count_201 : decode cX10_count 201 = .ok (.goto (-66), 3) := by decide +kernel
theorem dX10_count_204 : decode cX10_count 204 = .ok (.lconst 0, 1) := by decide +kernel
theorem dX10_count_205 : decode cX10_count 205 = .ok (.lstore 6, 2) := by decide +kernel
theorem dX10_count_207 : decode cX10_count 207 = .ok (.iload_n 3, 1) := by decide +kernel
theorem dX10_count_208 : decode cX10_count 208 = .ok (.istore 10, 2) := by decide +kernel
theorem dX10_count_210 : decode cX10_count 210 = .ok (.iload 10, 2) := by decide +kernel
theorem dX10_count_212 : decode cX10_count 212 = .ok (.bipush 19, 2) := by decide +kernel
theorem dX10_count_214 : decode cX10_count 214 = .ok (.if_icmp .ge 21, 3) := by decide +kernel
theorem dX10_count_217 : decode cX10_count 217 = .ok (.lload 6, 2) := by decide +kernel
theorem dX10_count_219 : decode cX10_count 219 = .ok (.aload_n 0, 1) := by decide +kernel
theorem dX10_count_220 : decode cX10_count 220 = .ok (.getfield 40, 3) := by decide +kernel
theorem dX10_count_223 : decode cX10_count 223 = .ok (.iload 10, 2) := by decide +kernel
theorem dX10_count_225 : decode cX10_count 225 = .ok (.laload, 1) := by decide +kernel
theorem dX10_count_226 : decode cX10_count 226 = .ok (.ladd, 1) := by decide +kernel
theorem dX10_count_227 : decode cX10_count 227 = .ok (.lstore 6, 2) := by decide +kernel
theorem dX10_count_229 : decode cX10_count 229 = .ok (.iinc 10 1, 3) := by decide +kernel
theorem dX10_count_232 : decode cX10_count 232 = .ok (.goto (-22), 3) := by decide +kernel
theorem dX10_count_235 : decode cX10_count 235 = .ok (.lload 6, 2) := by decide +kernel
theorem dX10_count_237 : decode cX10_count 237 = .ok (.lstore 10, 2) := by decide +kernel
theorem dX10_count_239 : decode cX10_count 239 = .ok (.lload 8, 2) := by decide +kernel
theorem dX10_count_241 : decode cX10_count 241 = .ok (.lstore 12, 2) := by decide +kernel
theorem dX10_count_243 : decode cX10_count 243 = .ok (.lload 12, 2) := by decide +kernel
theorem dX10_count_245 : decode cX10_count 245 = .ok (.lconst 0, 1) := by decide +kernel
theorem dX10_count_246 : decode cX10_count 246 = .ok (.lcmp, 1) := by decide +kernel
theorem dX10_count_247 : decode cX10_count 247 = .ok (.ifCond .eq 21, 3) := by decide +kernel
theorem dX10_count_250 : decode cX10_count 250 = .ok (.lload 10, 2) := by decide +kernel
theorem dX10_count_252 : decode cX10_count 252 = .ok (.lload 12, 2) := by decide +kernel
theorem dX10_count_254 : decode cX10_count 254 = .ok (.lrem, 1) := by decide +kernel
theorem dX10_count_255 : decode cX10_count 255 = .ok (.lstore 14, 2) := by decide +kernel
theorem dX10_count_257 : decode cX10_count 257 = .ok (.lload 12, 2) := by decide +kernel
theorem dX10_count_259 : decode cX10_count 259 = .ok (.lstore 10, 2) := by decide +kernel
theorem dX10_count_261 : decode cX10_count 261 = .ok (.lload 14, 2) := by decide +kernel
theorem dX10_count_263 : decode cX10_count 263 = .ok (.lstore 12, 2) := by decide +kernel
theorem dX10_count_265 : decode cX10_count 265 = .ok (.goto (-22), 3) := by decide +kernel
theorem dX10_count_268 : decode cX10_count 268 = .ok (.iload 5, 2) := by decide +kernel
theorem dX10_count_270 : decode cX10_count 270 = .ok (.ifCond .ne 11, 3) := by decide +kernel
theorem dX10_count_273 : decode cX10_count 273 = .ok (.lload 6, 2) := by decide +kernel
theorem dX10_count_275 : decode cX10_count 275 = .ok (.lload 10, 2) := by decide +kernel
theorem dX10_count_277 : decode cX10_count 277 = .ok (.ldiv, 1) := by decide +kernel
theorem dX10_count_278 : decode cX10_count 278 = .ok (.goto 8, 3) := by decide +kernel
theorem dX10_count_281 : decode cX10_count 281 = .ok (.lload 8, 2) := by decide +kernel
theorem dX10_count_283 : decode cX10_count 283 = .ok (.lload 10, 2) := by decide +kernel
theorem dX10_count_285 : decode cX10_count 285 = .ok (.ldiv, 1) := by decide +kernel
theorem dX10_count_286 : decode cX10_count 286 = .ok (.lreturn, 1) := by decide +kernel
set_option maxRecDepth 20000 in
theorem ggX10_year_X10_in : GoodIn wsX10_year wsX10_in := goodIn_r _ [7] (by decide +kernel) (by decide +kernel)
set_option maxRecDepth 20000 in
theorem gX10_year_X10_in : GoodIn wsX10_year (va_wsS RX10 51 yX10_in wsX10_in) := goodIn_app (goodIn_of _ (by decide +kernel)) ggX10_year_X10_in
set_option maxRecDepth 20000 in
theorem ggX10_year_X10_asNow : GoodIn wsX10_year wsX10_asNow := goodIn_r _ [11, 3, 12, 13, 14, 64, 65, 66, 67, 68, 69, 70, 71, 72, 73, 74, 75, 76, 77, 78, 79, 80, 81, 82, 83] (by decide +kernel) (by decide +kernel)
set_option maxRecDepth 20000 in
theorem gX10_year_X10_asNow : GoodIn wsX10_year (wsV RX10 71 RX10 yX10_asNow wsX10_asNow) := goodIn_app (goodIn_of _ (by decide +kernel)) ggX10_year_X10_asNow
set_option maxRecDepth 20000 in
theorem ggX10_year_X10_shake : GoodIn wsX10_year wsX10_shake := goodIn_r _ [18, 3, 19, 20, 21, 22, 6, 23, 24, 25, 26, 27, 28, 29, 30, 31, 32, 33, 34, 64, 65, 66, 67, 68, 69, 70, 71, 72, 73, 74, 75, 76, 77, 78, 79, 80, 81, 82, 83] (by decide +kernel) (by decide +kernel)
set_option maxRecDepth 20000 in
theorem gX10_year_X10_shake : GoodIn wsX10_year (wsV RX10 112 RX10 yX10_shake wsX10_shake) := goodIn_app (goodIn_of _ (by decide +kernel)) ggX10_year_X10_shake
set_option maxRecDepth 20000 in
theorem ggX10_year_X10_pour : GoodIn wsX10_year wsX10_pour := goodIn_r _ [38, 3, 20, 21, 22, 6, 23, 24, 25, 26, 64, 65, 66, 67, 68, 69, 70, 71, 72, 73, 74, 75, 76, 77, 78, 79, 80, 81, 82, 83] (by decide +kernel) (by decide +kernel)
set_option maxRecDepth 20000 in
theorem gX10_year_X10_pour : GoodIn wsX10_year (wsV RX10 99 RX10 yX10_pour wsX10_pour) := goodIn_app (goodIn_of _ (by decide +kernel)) ggX10_year_X10_pour
set_option maxRecDepth 20000 in
theorem ggX10_year_X10_wipeOff : GoodIn wsX10_year wsX10_wipeOff := goodIn_r _ [42, 3, 20, 21, 22, 6, 23, 24, 25, 26, 64, 65, 66, 67, 68, 69, 70, 71, 72, 73, 74, 75, 76, 77, 78, 79, 80, 81, 82, 83] (by decide +kernel) (by decide +kernel)
set_option maxRecDepth 20000 in
theorem gX10_year_X10_wipeOff : GoodIn wsX10_year (wsV RX10 103 RX10 yX10_wipeOff wsX10_wipeOff) := goodIn_app (goodIn_of _ (by decide +kernel)) ggX10_year_X10_wipeOff
set_option maxRecDepth 20000 in
theorem ggX10_year_X10_move : GoodIn wsX10_year wsX10_move := goodIn_r _ [46, 3, 20, 21, 22, 6, 23, 24, 25, 26, 31, 32, 33, 34, 64, 65, 66, 67, 68, 69, 70, 71, 72, 73, 74, 75, 76, 77, 78, 79, 80, 81, 82, 83] (by decide +kernel) (by decide +kernel)
set_option maxRecDepth 20000 in
theorem gX10_year_X10_move : GoodIn wsX10_year (wsV RX10 106 RX10 yX10_move wsX10_move) := goodIn_app (goodIn_of _ (by decide +kernel)) ggX10_year_X10_move
set_option maxRecDepth 20000 in
theorem ggX10_year_X10_endHour : GoodIn wsX10_year wsX10_endHour := goodIn_r _ [50, 3, 51, 52, 20, 21, 22, 6, 23, 24, 25, 26, 64, 65, 66, 67, 68, 69, 70, 71, 72, 73, 74, 75, 76, 77, 78, 79, 80, 81, 82, 83] (by decide +kernel) (by decide +kernel)
set_option maxRecDepth 20000 in
theorem gX10_year_X10_endHour : GoodIn wsX10_year (wsV RX10 121 RX10 yX10_endHour wsX10_endHour) := goodIn_app (goodIn_of _ (by decide +kernel)) ggX10_year_X10_endHour
set_option maxRecDepth 20000 in
theorem ggX10_year_X10_snow : GoodIn wsX10_year wsX10_snow := goodIn_r _ [56, 3, 20, 21, 22, 6, 23, 24, 25, 26, 64, 65, 66, 67, 68, 69, 70, 71, 72, 73, 74, 75, 76, 77, 78, 79, 80, 81, 82, 83] (by decide +kernel) (by decide +kernel)
set_option maxRecDepth 20000 in
theorem gX10_year_X10_snow : GoodIn wsX10_year (wsV RX10 137 RX10 yX10_snow wsX10_snow) := goodIn_app (goodIn_of _ (by decide +kernel)) ggX10_year_X10_snow
set_option maxRecDepth 20000 in
theorem ggX10_year_X10_bits : GoodIn wsX10_year wsX10_bits := goodIn_r _ [59] (by decide +kernel) (by decide +kernel)
set_option maxRecDepth 20000 in
theorem gX10_year_X10_bits : GoodIn wsX10_year (va_wsS RX10 67 yX10_bits wsX10_bits) := goodIn_app (goodIn_of _ (by decide +kernel)) ggX10_year_X10_bits
set_option maxRecDepth 20000 in
theorem ggX10_year_X10_freeOnes : GoodIn wsX10_year wsX10_freeOnes := goodIn_r _ [63, 20, 21, 22, 6, 23, 3, 24, 25, 26, 27, 28, 29, 30, 64, 65, 66, 67, 68, 69, 70, 71, 72, 73, 74, 75, 76, 77, 78, 79, 80, 81, 82, 83] (by decide +kernel) (by decide +kernel)
set_option maxRecDepth 20000 in
theorem gX10_year_X10_freeOnes : GoodIn wsX10_year (wsV RX10 118 RX10 yX10_freeOnes wsX10_freeOnes) := goodIn_app (goodIn_of _ (by decide +kernel)) ggX10_year_X10_freeOnes
theorem dX10_year_0 : decode cX10_year 0 = .ok (.iload_n 1, 1) := by decide +kernel
theorem dX10_year_1 : decode cX10_year 1 = .ok (.iconst 0, 1) := by decide +kernel
theorem dX10_year_2 : decode cX10_year 2 = .ok (.sipush 9999, 3) := by decide +kernel
theorem dX10_year_5 : decode cX10_year 5 = .ok (.invokestatic 51, 3) := by decide +kernel
theorem dX10_year_8 : decode cX10_year 8 = .ok (.ifCond .eq 22, 3) := by decide +kernel
theorem dX10_year_11 : decode cX10_year 11 = .ok (.iload_n 2, 1) := by decide +kernel
theorem dX10_year_12 : decode cX10_year 12 = .ok (.iconst 1, 1) := by decide +kernel
theorem dX10_year_13 : decode cX10_year 13 = .ok (.bipush 99, 2) := by decide +kernel
theorem dX10_year_15 : decode cX10_year 15 = .ok (.invokestatic 51, 3) := by decide +kernel
theorem dX10_year_18 : decode cX10_year 18 = .ok (.ifCond .eq 12, 3) := by decide +kernel
theorem dX10_year_21 : decode cX10_year 21 = .ok (.iload_n 3, 1) := by decide +kernel
theorem dX10_year_22 : decode cX10_year 22 = .ok (.iconst 0, 1) := by decide +kernel
theorem dX10_year_23 : decode cX10_year 23 = .ok (.iconst 2, 1) := by decide +kernel
theorem dX10_year_24 : decode cX10_year 24 = .ok (.invokestatic 51, 3) := by decide +kernel
theorem dX10_year_27 : decode cX10_year 27 = .ok (.ifCond .ne 6, 3) := by decide +kernel
theorem dX10_year_30 : decode cX10_year 30 = .ok (.bipush (-2), 2) := by decide +kernel
theorem dX10_year_32 : decode cX10_year 32 = .ok (.ireturn, 1) := by decide +kernel
theorem dX10_year_33 : decode cX10_year 33 = .ok (.aload_n 0, 1) := by decide +kernel
theorem dX10_year_34 : decode cX10_year 34 = .ok (.invokevirtual 71, 3) := by decide +kernel
theorem dX10_year_37 : decode cX10_year 37 = .ok (.iload_n 1, 1) := by decide +kernel
theorem dX10_year_38 : decode cX10_year 38 = .ok (.istore 4, 2) := by decide +kernel
theorem dX10_year_40 : decode cX10_year 40 = .ok (.iconst 0, 1) := by decide +kernel
theorem dX10_year_41 : decode cX10_year 41 = .ok (.istore 5, 2) := by decide +kernel
theorem dX10_year_43 : decode cX10_year 43 = .ok (.iload 5, 2) := by decide +kernel
theorem dX10_year_45 : decode cX10_year 45 = .ok (.iload_n 2, 1) := by decide +kernel
theorem dX10_year_46 : decode cX10_year 46 = .ok (.if_icmp .ge 190, 3) := by decide +kernel
theorem dX10_year_49 : decode cX10_year 49 = .ok (.bipush 75, 2) := by decide +kernel
theorem dX10_year_51 : decode cX10_year 51 = .ok (.iload 4, 2) := by decide +kernel
theorem dX10_year_53 : decode cX10_year 53 = .ok (.imul, 1) := by decide +kernel
theorem dX10_year_54 : decode cX10_year 54 = .ok (.bipush 74, 2) := by decide +kernel
theorem dX10_year_56 : decode cX10_year 56 = .ok (.iadd, 1) := by decide +kernel
theorem dX10_year_57 : decode cX10_year 57 = .ok (.ldc 175, 2) := by decide +kernel
theorem dX10_year_59 : decode cX10_year 59 = .ok (.irem, 1) := by decide +kernel
theorem dX10_year_60 : decode cX10_year 60 = .ok (.istore 4, 2) := by decide +kernel
theorem dX10_year_62 : decode cX10_year 62 = .ok (.iload 4, 2) := by decide +kernel
theorem dX10_year_64 : decode cX10_year 64 = .ok (.bipush 8, 2) := by decide +kernel
theorem dX10_year_66 : decode cX10_year 66 = .ok (.irem, 1) := by decide +kernel
theorem dX10_year_67 : decode cX10_year 67 = .ok (.istore 6, 2) := by decide +kernel
theorem dX10_year_69 : decode cX10_year 69 = .ok (.iload 4, 2) := by decide +kernel
theorem dX10_year_71 : decode cX10_year 71 = .ok (.bipush 64, 2) := by decide +kernel
theorem dX10_year_73 : decode cX10_year 73 = .ok (.idiv, 1) := by decide +kernel
theorem dX10_year_74 : decode cX10_year 74 = .ok (.istore 7, 2) := by decide +kernel
theorem dX10_year_76 : decode cX10_year 76 = .ok (.iload 4, 2) := by decide +kernel
theorem dX10_year_78 : decode cX10_year 78 = .ok (.bipush 8, 2) := by decide +kernel
theorem dX10_year_80 : decode cX10_year 80 = .ok (.idiv, 1) := by decide +kernel
theorem dX10_year_81 : decode cX10_year 81 = .ok (.bipush 8, 2) := by decide +kernel
theorem dX10_year_83 : decode cX10_year 83 = .ok (.irem, 1) := by decide +kernel
theorem dX10_year_84 : decode cX10_year 84 = .ok (.tableswitch 138 0 6 #[44, 44, 64, 78, 92, 105, 123], 44) := by decide +kernel
theorem dX10_year_128 : decode cX10_year 128 = .ok (.aload_n 0, 1) := by decide +kernel
theorem dX10_year_129 : decode cX10_year 129 = .ok (.aload_n 0, 1) := by decide +kernel
theorem dX10_year_130 : decode cX10_year 130 = .ok (.iload 6, 2) := by decide +kernel
theorem dX10_year_132 : decode cX10_year 132 = .ok (.iconst 1, 1) := by decide +kernel
theorem dX10_year_133 : decode cX10_year 133 = .ok (.iload 7, 2) := by decide +kernel
theorem dX10_year_135 : decode cX10_year 135 = .ok (.bipush 9, 2) := by decide +kernel
theorem dX10_year_137 : decode cX10_year 137 = .ok (.irem, 1) := by decide +kernel
theorem dX10_year_138 : decode cX10_year 138 = .ok (.iadd, 1) := by decide +kernel
theorem dX10_year_139 : decode cX10_year 139 = .ok (.invokevirtual 112, 3) := by decide +kernel
theorem dX10_year_142 : decode cX10_year 142 = .ok (.putfield 124, 3) := by decide +kernel
theorem dX10_year_145 : decode cX10_year 145 = .ok (.goto 85, 3) := by decide +kernel
theorem dX10_year_148 : decode cX10_year 148 = .ok (.aload_n 0, 1) := by decide +kernel
theorem dX10_year_149 : decode cX10_year 149 = .ok (.aload_n 0, 1) := by decide +kernel
theorem dX10_year_150 : decode cX10_year 150 = .ok (.iload 6, 2) := by decide +kernel
theorem dX10_year_152 : decode cX10_year 152 = .ok (.iconst 1, 1) := by decide +kernel
theorem dX10_year_153 : decode cX10_year 153 = .ok (.invokevirtual 99, 3) := by decide +kernel
theorem dX10_year_156 : decode cX10_year 156 = .ok (.putfield 124, 3) := by decide +kernel
theorem dX10_year_159 : decode cX10_year 159 = .ok (.goto 71, 3) := by decide +kernel
theorem dX10_year_162 : decode cX10_year 162 = .ok (.aload_n 0, 1) := by decide +kernel
theorem dX10_year_163 : decode cX10_year 163 = .ok (.aload_n 0, 1) := by decide +kernel
theorem dX10_year_164 : decode cX10_year 164 = .ok (.iload 6, 2) := by decide +kernel
theorem dX10_year_166 : decode cX10_year 166 = .ok (.iconst 0, 1) := by decide +kernel
theorem dX10_year_167 : decode cX10_year 167 = .ok (.invokevirtual 99, 3) := by decide +kernel
theorem dX10_year_170 : decode cX10_year 170 = .ok (.putfield 124, 3) := by decide +kernel
theorem dX10_year_173 : decode cX10_year 173 = .ok (.goto 57, 3) := by decide +kernel
theorem dX10_year_176 : decode cX10_year 176 = .ok (.aload_n 0, 1) := by decide +kernel
theorem dX10_year_177 : decode cX10_year 177 = .ok (.aload_n 0, 1) := by decide +kernel
theorem dX10_year_178 : decode cX10_year 178 = .ok (.iload 6, 2) := by decide +kernel
theorem dX10_year_180 : decode cX10_year 180 = .ok (.invokevirtual 103, 3) := by decide +kernel
theorem dX10_year_183 : decode cX10_year 183 = .ok (.putfield 124, 3) := by decide +kernel
theorem dX10_year_186 : decode cX10_year 186 = .ok (.goto 44, 3) := by decide +kernel
theorem dX10_year_189 : decode cX10_year 189 = .ok (.aload_n 0, 1) := by decide +kernel
theorem dX10_year_190 : decode cX10_year 190 = .ok (.aload_n 0, 1) := by decide +kernel
theorem dX10_year_191 : decode cX10_year 191 = .ok (.iload 6, 2) := by decide +kernel
theorem dX10_year_193 : decode cX10_year 193 = .ok (.iload 7, 2) := by decide +kernel
theorem dX10_year_195 : decode cX10_year 195 = .ok (.bipush 8, 2) := by decide +kernel
theorem dX10_year_197 : decode cX10_year 197 = .ok (.irem, 1) := by decide +kernel
theorem dX10_year_198 : decode cX10_year 198 = .ok (.invokevirtual 106, 3) := by decide +kernel
theorem dX10_year_201 : decode cX10_year 201 = .ok (.putfield 124, 3) := by decide +kernel
theorem dX10_year_204 : decode cX10_year 204 = .ok (.goto 26, 3) := by decide +kernel
theorem dX10_year_207 : decode cX10_year 207 = .ok (.aload_n 0, 1) := by decide +kernel
theorem dX10_year_208 : decode cX10_year 208 = .ok (.aload_n 0, 1) := by decide +kernel
theorem dX10_year_209 : decode cX10_year 209 = .ok (.iload 6, 2) := by decide +kernel
theorem dX10_year_211 : decode cX10_year 211 = .ok (.bipush (-6), 2) := by decide +kernel
theorem dX10_year_213 : decode cX10_year 213 = .ok (.invokevirtual 106, 3) := by decide +kernel
theorem dX10_year_216 : decode cX10_year 216 = .ok (.putfield 124, 3) := by decide +kernel
theorem dX10_year_219 : decode cX10_year 219 = .ok (.goto 11, 3) := by decide +kernel
theorem dX10_year_222 : decode cX10_year 222 = .ok (.aload_n 0, 1) := by decide +kernel
theorem dX10_year_223 : decode cX10_year 223 = .ok (.aload_n 0, 1) := by decide +kernel
theorem dX10_year_224 : decode cX10_year 224 = .ok (.invokevirtual 121, 3) := by decide +kernel
theorem dX10_year_227 : decode cX10_year 227 = .ok (.putfield 124, 3) := by decide +kernel
theorem dX10_year_230 : decode cX10_year 230 = .ok (.iinc 5 1, 3) := by decide +kernel
theorem dX10_year_233 : decode cX10_year 233 = .ok (.goto (-190), 3) := by decide +kernel
theorem dX10_year_236 : decode cX10_year 236 = .ok (.iload_n 3, 1) := by decide +kernel
theorem dX10_year_237 : decode cX10_year 237 = .ok (.ifCond .ne 13, 3) := by decide +kernel
theorem dX10_year_240 : decode cX10_year 240 = .ok (.aload_n 0, 1) := by decide +kernel
theorem dX10_year_241 : decode cX10_year 241 = .ok (.getfield 13, 3) := by decide +kernel
theorem dX10_year_244 : decode cX10_year 244 = .ok (.bipush 41, 2) := by decide +kernel
theorem dX10_year_246 : decode cX10_year 246 = .ok (.iaload, 1) := by decide +kernel
theorem dX10_year_247 : decode cX10_year 247 = .ok (.goto 25, 3) := by decide +kernel
theorem dX10_year_250 : decode cX10_year 250 = .ok (.iload_n 3, 1) := by decide +kernel
theorem dX10_year_251 : decode cX10_year 251 = .ok (.iconst 1, 1) := by decide +kernel
theorem dX10_year_252 : decode cX10_year 252 = .ok (.if_icmp .ne 13, 3) := by decide +kernel
theorem dX10_year_255 : decode cX10_year 255 = .ok (.aload_n 0, 1) := by decide +kernel
theorem dX10_year_256 : decode cX10_year 256 = .ok (.invokevirtual 137, 3) := by decide +kernel
theorem dX10_year_259 : decode cX10_year 259 = .ok (.invokestatic 67, 3) := by decide +kernel
theorem dX10_year_262 : decode cX10_year 262 = .ok (.goto 10, 3) := by decide +kernel
theorem dX10_year_265 : decode cX10_year 265 = .ok (.aload_n 0, 1) := by decide +kernel
theorem dX10_year_266 : decode cX10_year 266 = .ok (.invokevirtual 118, 3) := by decide +kernel
theorem dX10_year_269 : decode cX10_year 269 = .ok (.invokestatic 67, 3) := by decide +kernel
theorem dX10_year_272 : decode cX10_year 272 = .ok (.ireturn, 1) := by decide +kernel
set_option maxRecDepth 20000 in
theorem ggX10_image_X10_in : GoodIn wsX10_image wsX10_in := goodIn_r _ [13] (by decide +kernel) (by decide +kernel)
set_option maxRecDepth 20000 in
theorem gX10_image_X10_in : GoodIn wsX10_image (va_wsS RX10 51 yX10_in wsX10_in) := goodIn_app (goodIn_of _ (by decide +kernel)) ggX10_image_X10_in
theorem dX10_image_0 : decode cX10_image 0 = .ok (.iload_n 1, 1) := by decide +kernel
theorem dX10_image_1 : decode cX10_image 1 = .ok (.iconst 0, 1) := by decide +kernel
theorem dX10_image_2 : decode cX10_image 2 = .ok (.iconst 1, 1) := by decide +kernel
theorem dX10_image_3 : decode cX10_image 3 = .ok (.invokestatic 51, 3) := by decide +kernel
theorem dX10_image_6 : decode cX10_image 6 = .ok (.ifCond .ne 6, 3) := by decide +kernel
theorem dX10_image_9 : decode cX10_image 9 = .ok (.bipush (-2), 2) := by decide +kernel
theorem dX10_image_11 : decode cX10_image 11 = .ok (.ireturn, 1) := by decide +kernel
theorem dX10_image_12 : decode cX10_image 12 = .ok (.bipush 100, 2) := by decide +kernel
theorem dX10_image_14 : decode cX10_image 14 = .ok (.iload_n 1, 1) := by decide +kernel
theorem dX10_image_15 : decode cX10_image 15 = .ok (.imul, 1) := by decide +kernel
theorem dX10_image_16 : decode cX10_image 16 = .ok (.istore_n 2, 1) := by decide +kernel
theorem dX10_image_17 : decode cX10_image 17 = .ok (.iconst 0, 1) := by decide +kernel
theorem dX10_image_18 : decode cX10_image 18 = .ok (.istore_n 3, 1) := by decide +kernel
theorem dX10_image_19 : decode cX10_image 19 = .ok (.iload_n 3, 1) := by decide +kernel
theorem dX10_image_20 : decode cX10_image 20 = .ok (.bipush 43, 2) := by decide +kernel
theorem dX10_image_22 : decode cX10_image 22 = .ok (.if_icmp .ge 23, 3) := by decide +kernel
theorem dX10_image_25 : decode cX10_image 25 = .ok (.aload_n 0, 1) := by decide +kernel
theorem dX10_image_26 : decode cX10_image 26 = .ok (.getfield 44, 3) := by decide +kernel
theorem dX10_image_29 : decode cX10_image 29 = .ok (.iload_n 2, 1) := by decide +kernel
theorem dX10_image_30 : decode cX10_image 30 = .ok (.iload_n 3, 1) := by decide +kernel
theorem dX10_image_31 : decode cX10_image 31 = .ok (.iadd, 1) := by decide +kernel
theorem dX10_image_32 : decode cX10_image 32 = .ok (.aload_n 0, 1) := by decide +kernel
theorem dX10_image_33 : decode cX10_image 33 = .ok (.getfield 7, 3) := by decide +kernel
theorem dX10_image_36 : decode cX10_image 36 = .ok (.iload_n 3, 1) := by decide +kernel
theorem dX10_image_37 : decode cX10_image 37 = .ok (.iaload, 1) := by decide +kernel
theorem dX10_image_38 : decode cX10_image 38 = .ok (.iastore, 1) := by decide +kernel
theorem dX10_image_39 : decode cX10_image 39 = .ok (.iinc 3 1, 3) := by decide +kernel
theorem dX10_image_42 : decode cX10_image 42 = .ok (.goto (-23), 3) := by decide +kernel
theorem dX10_image_45 : decode cX10_image 45 = .ok (.iconst 0, 1) := by decide +kernel
theorem dX10_image_46 : decode cX10_image 46 = .ok (.istore_n 3, 1) := by decide +kernel
theorem dX10_image_47 : decode cX10_image 47 = .ok (.iload_n 3, 1) := by decide +kernel
theorem dX10_image_48 : decode cX10_image 48 = .ok (.bipush 8, 2) := by decide +kernel
theorem dX10_image_50 : decode cX10_image 50 = .ok (.if_icmp .ge 43, 3) := by decide +kernel
theorem dX10_image_53 : decode cX10_image 53 = .ok (.aload_n 0, 1) := by decide +kernel
theorem dX10_image_54 : decode cX10_image 54 = .ok (.getfield 44, 3) := by decide +kernel
theorem dX10_image_57 : decode cX10_image 57 = .ok (.iload_n 2, 1) := by decide +kernel
theorem dX10_image_58 : decode cX10_image 58 = .ok (.bipush 43, 2) := by decide +kernel
theorem dX10_image_60 : decode cX10_image 60 = .ok (.iadd, 1) := by decide +kernel
theorem dX10_image_61 : decode cX10_image 61 = .ok (.iload_n 3, 1) := by decide +kernel
theorem dX10_image_62 : decode cX10_image 62 = .ok (.iadd, 1) := by decide +kernel
theorem dX10_image_63 : decode cX10_image 63 = .ok (.aload_n 0, 1) := by decide +kernel
theorem dX10_image_64 : decode cX10_image 64 = .ok (.getfield 16, 3) := by decide +kernel
theorem dX10_image_67 : decode cX10_image 67 = .ok (.iload_n 3, 1) := by decide +kernel
theorem dX10_image_68 : decode cX10_image 68 = .ok (.iaload, 1) := by decide +kernel
theorem dX10_image_69 : decode cX10_image 69 = .ok (.iastore, 1) := by decide +kernel
theorem dX10_image_70 : decode cX10_image 70 = .ok (.aload_n 0, 1) := by decide +kernel
theorem dX10_image_71 : decode cX10_image 71 = .ok (.getfield 44, 3) := by decide +kernel
theorem dX10_image_74 : decode cX10_image 74 = .ok (.iload_n 2, 1) := by decide +kernel
theorem dX10_image_75 : decode cX10_image 75 = .ok (.bipush 51, 2) := by decide +kernel
theorem dX10_image_77 : decode cX10_image 77 = .ok (.iadd, 1) := by decide +kernel
theorem dX10_image_78 : decode cX10_image 78 = .ok (.iload_n 3, 1) := by decide +kernel
theorem dX10_image_79 : decode cX10_image 79 = .ok (.iadd, 1) := by decide +kernel
theorem dX10_image_80 : decode cX10_image 80 = .ok (.aload_n 0, 1) := by decide +kernel
theorem dX10_image_81 : decode cX10_image 81 = .ok (.getfield 19, 3) := by decide +kernel
theorem dX10_image_84 : decode cX10_image 84 = .ok (.iload_n 3, 1) := by decide +kernel
theorem dX10_image_85 : decode cX10_image 85 = .ok (.iaload, 1) := by decide +kernel
theorem dX10_image_86 : decode cX10_image 86 = .ok (.iastore, 1) := by decide +kernel
theorem dX10_image_87 : decode cX10_image 87 = .ok (.iinc 3 1, 3) := by decide +kernel
theorem dX10_image_90 : decode cX10_image 90 = .ok (.goto (-43), 3) := by decide +kernel
theorem dX10_image_93 : decode cX10_image 93 = .ok (.iconst 0, 1) := by decide +kernel
theorem dX10_image_94 : decode cX10_image 94 = .ok (.istore_n 3, 1) := by decide +kernel
theorem dX10_image_95 : decode cX10_image 95 = .ok (.iload_n 3, 1) := by decide +kernel
theorem dX10_image_96 : decode cX10_image 96 = .ok (.bipush 6, 2) := by decide +kernel
theorem dX10_image_98 : decode cX10_image 98 = .ok (.if_icmp .ge 26, 3) := by decide +kernel
theorem dX10_image_101 : decode cX10_image 101 = .ok (.aload_n 0, 1) := by decide +kernel
theorem dX10_image_102 : decode cX10_image 102 = .ok (.getfield 44, 3) := by decide +kernel
theorem dX10_image_105 : decode cX10_image 105 = .ok (.iload_n 2, 1) := by decide +kernel
theorem dX10_image_106 : decode cX10_image 106 = .ok (.bipush 59, 2) := by decide +kernel
theorem dX10_image_108 : decode cX10_image 108 = .ok (.iadd, 1) := by decide +kernel
theorem dX10_image_109 : decode cX10_image 109 = .ok (.iload_n 3, 1) := by decide +kernel
theorem dX10_image_110 : decode cX10_image 110 = .ok (.iadd, 1) := by decide +kernel
theorem dX10_image_111 : decode cX10_image 111 = .ok (.aload_n 0, 1) := by decide +kernel
theorem dX10_image_112 : decode cX10_image 112 = .ok (.getfield 22, 3) := by decide +kernel
theorem dX10_image_115 : decode cX10_image 115 = .ok (.iload_n 3, 1) := by decide +kernel
theorem dX10_image_116 : decode cX10_image 116 = .ok (.iaload, 1) := by decide +kernel
theorem dX10_image_117 : decode cX10_image 117 = .ok (.iastore, 1) := by decide +kernel
theorem dX10_image_118 : decode cX10_image 118 = .ok (.iinc 3 1, 3) := by decide +kernel
theorem dX10_image_121 : decode cX10_image 121 = .ok (.goto (-26), 3) := by decide +kernel
theorem dX10_image_124 : decode cX10_image 124 = .ok (.iconst 0, 1) := by decide +kernel
theorem dX10_image_125 : decode cX10_image 125 = .ok (.istore_n 3, 1) := by decide +kernel
theorem dX10_image_126 : decode cX10_image 126 = .ok (.iload_n 3, 1) := by decide +kernel
theorem dX10_image_127 : decode cX10_image 127 = .ok (.bipush 16, 2) := by decide +kernel
theorem dX10_image_129 : decode cX10_image 129 = .ok (.if_icmp .ge 26, 3) := by decide +kernel
theorem dX10_image_132 : decode cX10_image 132 = .ok (.aload_n 0, 1) := by decide +kernel
theorem dX10_image_133 : decode cX10_image 133 = .ok (.getfield 44, 3) := by decide +kernel
theorem dX10_image_136 : decode cX10_image 136 = .ok (.iload_n 2, 1) := by decide +kernel
theorem dX10_image_137 : decode cX10_image 137 = .ok (.bipush 65, 2) := by decide +kernel
theorem dX10_image_139 : decode cX10_image 139 = .ok (.iadd, 1) := by decide +kernel
theorem dX10_image_140 : decode cX10_image 140 = .ok (.iload_n 3, 1) := by decide +kernel
theorem dX10_image_141 : decode cX10_image 141 = .ok (.iadd, 1) := by decide +kernel
theorem dX10_image_142 : decode cX10_image 142 = .ok (.aload_n 0, 1) := by decide +kernel
theorem dX10_image_143 : decode cX10_image 143 = .ok (.getfield 25, 3) := by decide +kernel
theorem dX10_image_146 : decode cX10_image 146 = .ok (.iload_n 3, 1) := by decide +kernel
theorem dX10_image_147 : decode cX10_image 147 = .ok (.iaload, 1) := by decide +kernel
theorem dX10_image_148 : decode cX10_image 148 = .ok (.iastore, 1) := by decide +kernel
theorem dX10_image_149 : decode cX10_image 149 = .ok (.iinc 3 1, 3) := by decide +kernel
theorem dX10_image_152 : decode cX10_image 152 = .ok (.goto (-26), 3) := by decide +kernel
theorem dX10_image_155 : decode cX10_image 155 = .ok (.aload_n 0, 1) := by decide +kernel
theorem dX10_image_156 : decode cX10_image 156 = .ok (.getfield 44, 3) := by decide +kernel
theorem dX10_image_159 : decode cX10_image 159 = .ok (.iload_n 2, 1) := by decide +kernel
theorem dX10_image_160 : decode cX10_image 160 = .ok (.bipush 90, 2) := by decide +kernel
theorem dX10_image_162 : decode cX10_image 162 = .ok (.iadd, 1) := by decide +kernel
theorem dX10_image_163 : decode cX10_image 163 = .ok (.aload_n 0, 1) := by decide +kernel
theorem dX10_image_164 : decode cX10_image 164 = .ok (.getfield 63, 3) := by decide +kernel
theorem dX10_image_167 : decode cX10_image 167 = .ok (.iastore, 1) := by decide +kernel
theorem dX10_image_168 : decode cX10_image 168 = .ok (.aload_n 0, 1) := by decide +kernel
theorem dX10_image_169 : decode cX10_image 169 = .ok (.getfield 44, 3) := by decide +kernel
theorem dX10_image_172 : decode cX10_image 172 = .ok (.iload_n 2, 1) := by decide +kernel
theorem dX10_image_173 : decode cX10_image 173 = .ok (.bipush 91, 2) := by decide +kernel
theorem dX10_image_175 : decode cX10_image 175 = .ok (.iadd, 1) := by decide +kernel
theorem dX10_image_176 : decode cX10_image 176 = .ok (.aload_n 0, 1) := by decide +kernel
theorem dX10_image_177 : decode cX10_image 177 = .ok (.getfield 152, 3) := by decide +kernel
theorem dX10_image_180 : decode cX10_image 180 = .ok (.iastore, 1) := by decide +kernel
theorem dX10_image_181 : decode cX10_image 181 = .ok (.aload_n 0, 1) := by decide +kernel
theorem dX10_image_182 : decode cX10_image 182 = .ok (.getfield 47, 3) := by decide +kernel
theorem dX10_image_185 : decode cX10_image 185 = .ok (.iload_n 1, 1) := by decide +kernel
theorem dX10_image_186 : decode cX10_image 186 = .ok (.iconst 1, 1) := by decide +kernel
theorem dX10_image_187 : decode cX10_image 187 = .ok (.bastore, 1) := by decide +kernel
theorem dX10_image_188 : decode cX10_image 188 = .ok (.iconst 1, 1) := by decide +kernel
theorem dX10_image_189 : decode cX10_image 189 = .ok (.ireturn, 1) := by decide +kernel
set_option maxRecDepth 20000 in
theorem ggX10_restore_X10_in : GoodIn wsX10_restore wsX10_in := goodIn_r _ [13] (by decide +kernel) (by decide +kernel)
set_option maxRecDepth 20000 in
theorem gX10_restore_X10_in : GoodIn wsX10_restore (va_wsS RX10 51 yX10_in wsX10_in) := goodIn_app (goodIn_of _ (by decide +kernel)) ggX10_restore_X10_in
theorem dX10_restore_0 : decode cX10_restore 0 = .ok (.iload_n 1, 1) := by decide +kernel
theorem dX10_restore_1 : decode cX10_restore 1 = .ok (.iconst 0, 1) := by decide +kernel
theorem dX10_restore_2 : decode cX10_restore 2 = .ok (.iconst 1, 1) := by decide +kernel
theorem dX10_restore_3 : decode cX10_restore 3 = .ok (.invokestatic 51, 3) := by decide +kernel
theorem dX10_restore_6 : decode cX10_restore 6 = .ok (.ifCond .ne 6, 3) := by decide +kernel
theorem dX10_restore_9 : decode cX10_restore 9 = .ok (.bipush (-2), 2) := by decide +kernel
theorem dX10_restore_11 : decode cX10_restore 11 = .ok (.ireturn, 1) := by decide +kernel
theorem dX10_restore_12 : decode cX10_restore 12 = .ok (.aload_n 0, 1) := by decide +kernel
theorem dX10_restore_13 : decode cX10_restore 13 = .ok (.getfield 47, 3) := by decide +kernel
theorem dX10_restore_16 : decode cX10_restore 16 = .ok (.iload_n 1, 1) := by decide +kernel
theorem dX10_restore_17 : decode cX10_restore 17 = .ok (.baload, 1) := by decide +kernel
theorem dX10_restore_18 : decode cX10_restore 18 = .ok (.ifCond .ne 6, 3) := by decide +kernel
theorem dX10_restore_21 : decode cX10_restore 21 = .ok (.bipush (-3), 2) := by decide +kernel
theorem dX10_restore_23 : decode cX10_restore 23 = .ok (.ireturn, 1) := by decide +kernel
theorem dX10_restore_24 : decode cX10_restore 24 = .ok (.bipush 100, 2) := by decide +kernel
theorem dX10_restore_26 : decode cX10_restore 26 = .ok (.iload_n 1, 1) := by decide +kernel
theorem dX10_restore_27 : decode cX10_restore 27 = .ok (.imul, 1) := by decide +kernel
theorem dX10_restore_28 : decode cX10_restore 28 = .ok (.istore_n 2, 1) := by decide +kernel
theorem dX10_restore_29 : decode cX10_restore 29 = .ok (.iconst 0, 1) := by decide +kernel
theorem dX10_restore_30 : decode cX10_restore 30 = .ok (.istore_n 3, 1) := by decide +kernel
theorem dX10_restore_31 : decode cX10_restore 31 = .ok (.iload_n 3, 1) := by decide +kernel
theorem dX10_restore_32 : decode cX10_restore 32 = .ok (.bipush 43, 2) := by decide +kernel
theorem dX10_restore_34 : decode cX10_restore 34 = .ok (.if_icmp .ge 23, 3) := by decide +kernel
theorem dX10_restore_37 : decode cX10_restore 37 = .ok (.aload_n 0, 1) := by decide +kernel
theorem dX10_restore_38 : decode cX10_restore 38 = .ok (.getfield 7, 3) := by decide +kernel
theorem dX10_restore_41 : decode cX10_restore 41 = .ok (.iload_n 3, 1) := by decide +kernel
theorem dX10_restore_42 : decode cX10_restore 42 = .ok (.aload_n 0, 1) := by decide +kernel
theorem dX10_restore_43 : decode cX10_restore 43 = .ok (.getfield 44, 3) := by decide +kernel
theorem dX10_restore_46 : decode cX10_restore 46 = .ok (.iload_n 2, 1) := by decide +kernel
theorem dX10_restore_47 : decode cX10_restore 47 = .ok (.iload_n 3, 1) := by decide +kernel
theorem dX10_restore_48 : decode cX10_restore 48 = .ok (.iadd, 1) := by decide +kernel
theorem dX10_restore_49 : decode cX10_restore 49 = .ok (.iaload, 1) := by decide +kernel
theorem dX10_restore_50 : decode cX10_restore 50 = .ok (.iastore, 1) := by decide +kernel
theorem dX10_restore_51 : decode cX10_restore 51 = .ok (.iinc 3 1, 3) := by decide +kernel
theorem dX10_restore_54 : decode cX10_restore 54 = .ok (.goto (-23), 3) := by decide +kernel
theorem dX10_restore_57 : decode cX10_restore 57 = .ok (.iconst 0, 1) := by decide +kernel
theorem dX10_restore_58 : decode cX10_restore 58 = .ok (.istore_n 3, 1) := by decide +kernel
theorem dX10_restore_59 : decode cX10_restore 59 = .ok (.iload_n 3, 1) := by decide +kernel
theorem dX10_restore_60 : decode cX10_restore 60 = .ok (.bipush 8, 2) := by decide +kernel
theorem dX10_restore_62 : decode cX10_restore 62 = .ok (.if_icmp .ge 43, 3) := by decide +kernel
theorem dX10_restore_65 : decode cX10_restore 65 = .ok (.aload_n 0, 1) := by decide +kernel
theorem dX10_restore_66 : decode cX10_restore 66 = .ok (.getfield 16, 3) := by decide +kernel
theorem dX10_restore_69 : decode cX10_restore 69 = .ok (.iload_n 3, 1) := by decide +kernel
theorem dX10_restore_70 : decode cX10_restore 70 = .ok (.aload_n 0, 1) := by decide +kernel
theorem dX10_restore_71 : decode cX10_restore 71 = .ok (.getfield 44, 3) := by decide +kernel
theorem dX10_restore_74 : decode cX10_restore 74 = .ok (.iload_n 2, 1) := by decide +kernel
theorem dX10_restore_75 : decode cX10_restore 75 = .ok (.bipush 43, 2) := by decide +kernel
theorem dX10_restore_77 : decode cX10_restore 77 = .ok (.iadd, 1) := by decide +kernel
theorem dX10_restore_78 : decode cX10_restore 78 = .ok (.iload_n 3, 1) := by decide +kernel
theorem dX10_restore_79 : decode cX10_restore 79 = .ok (.iadd, 1) := by decide +kernel
theorem dX10_restore_80 : decode cX10_restore 80 = .ok (.iaload, 1) := by decide +kernel
theorem dX10_restore_81 : decode cX10_restore 81 = .ok (.iastore, 1) := by decide +kernel
theorem dX10_restore_82 : decode cX10_restore 82 = .ok (.aload_n 0, 1) := by decide +kernel
theorem dX10_restore_83 : decode cX10_restore 83 = .ok (.getfield 19, 3) := by decide +kernel
theorem dX10_restore_86 : decode cX10_restore 86 = .ok (.iload_n 3, 1) := by decide +kernel
theorem dX10_restore_87 : decode cX10_restore 87 = .ok (.aload_n 0, 1) := by decide +kernel
theorem dX10_restore_88 : decode cX10_restore 88 = .ok (.getfield 44, 3) := by decide +kernel
theorem dX10_restore_91 : decode cX10_restore 91 = .ok (.iload_n 2, 1) := by decide +kernel
theorem dX10_restore_92 : decode cX10_restore 92 = .ok (.bipush 51, 2) := by decide +kernel
theorem dX10_restore_94 : decode cX10_restore 94 = .ok (.iadd, 1) := by decide +kernel
theorem dX10_restore_95 : decode cX10_restore 95 = .ok (.iload_n 3, 1) := by decide +kernel
theorem dX10_restore_96 : decode cX10_restore 96 = .ok (.iadd, 1) := by decide +kernel
theorem dX10_restore_97 : decode cX10_restore 97 = .ok (.iaload, 1) := by decide +kernel
theorem dX10_restore_98 : decode cX10_restore 98 = .ok (.iastore, 1) := by decide +kernel
theorem dX10_restore_99 : decode cX10_restore 99 = .ok (.iinc 3 1, 3) := by decide +kernel
theorem dX10_restore_102 : decode cX10_restore 102 = .ok (.goto (-43), 3) := by decide +kernel
theorem dX10_restore_105 : decode cX10_restore 105 = .ok (.iconst 0, 1) := by decide +kernel
theorem dX10_restore_106 : decode cX10_restore 106 = .ok (.istore_n 3, 1) := by decide +kernel
theorem dX10_restore_107 : decode cX10_restore 107 = .ok (.iload_n 3, 1) := by decide +kernel
theorem dX10_restore_108 : decode cX10_restore 108 = .ok (.bipush 6, 2) := by decide +kernel
theorem dX10_restore_110 : decode cX10_restore 110 = .ok (.if_icmp .ge 26, 3) := by decide +kernel
theorem dX10_restore_113 : decode cX10_restore 113 = .ok (.aload_n 0, 1) := by decide +kernel
theorem dX10_restore_114 : decode cX10_restore 114 = .ok (.getfield 22, 3) := by decide +kernel
theorem dX10_restore_117 : decode cX10_restore 117 = .ok (.iload_n 3, 1) := by decide +kernel
theorem dX10_restore_118 : decode cX10_restore 118 = .ok (.aload_n 0, 1) := by decide +kernel
theorem dX10_restore_119 : decode cX10_restore 119 = .ok (.getfield 44, 3) := by decide +kernel
theorem dX10_restore_122 : decode cX10_restore 122 = .ok (.iload_n 2, 1) := by decide +kernel
theorem dX10_restore_123 : decode cX10_restore 123 = .ok (.bipush 59, 2) := by decide +kernel
theorem dX10_restore_125 : decode cX10_restore 125 = .ok (.iadd, 1) := by decide +kernel
theorem dX10_restore_126 : decode cX10_restore 126 = .ok (.iload_n 3, 1) := by decide +kernel
theorem dX10_restore_127 : decode cX10_restore 127 = .ok (.iadd, 1) := by decide +kernel
theorem dX10_restore_128 : decode cX10_restore 128 = .ok (.iaload, 1) := by decide +kernel
theorem dX10_restore_129 : decode cX10_restore 129 = .ok (.iastore, 1) := by decide +kernel
theorem dX10_restore_130 : decode cX10_restore 130 = .ok (.iinc 3 1, 3) := by decide +kernel
theorem dX10_restore_133 : decode cX10_restore 133 = .ok (.goto (-26), 3) := by decide +kernel
theorem dX10_restore_136 : decode cX10_restore 136 = .ok (.iconst 0, 1) := by decide +kernel
theorem dX10_restore_137 : decode cX10_restore 137 = .ok (.istore_n 3, 1) := by decide +kernel
theorem dX10_restore_138 : decode cX10_restore 138 = .ok (.iload_n 3, 1) := by decide +kernel
theorem dX10_restore_139 : decode cX10_restore 139 = .ok (.bipush 16, 2) := by decide +kernel
theorem dX10_restore_141 : decode cX10_restore 141 = .ok (.if_icmp .ge 26, 3) := by decide +kernel
theorem dX10_restore_144 : decode cX10_restore 144 = .ok (.aload_n 0, 1) := by decide +kernel
theorem dX10_restore_145 : decode cX10_restore 145 = .ok (.getfield 25, 3) := by decide +kernel
theorem dX10_restore_148 : decode cX10_restore 148 = .ok (.iload_n 3, 1) := by decide +kernel
theorem dX10_restore_149 : decode cX10_restore 149 = .ok (.aload_n 0, 1) := by decide +kernel
theorem dX10_restore_150 : decode cX10_restore 150 = .ok (.getfield 44, 3) := by decide +kernel
theorem dX10_restore_153 : decode cX10_restore 153 = .ok (.iload_n 2, 1) := by decide +kernel
theorem dX10_restore_154 : decode cX10_restore 154 = .ok (.bipush 65, 2) := by decide +kernel
theorem dX10_restore_156 : decode cX10_restore 156 = .ok (.iadd, 1) := by decide +kernel
theorem dX10_restore_157 : decode cX10_restore 157 = .ok (.iload_n 3, 1) := by decide +kernel
theorem dX10_restore_158 : decode cX10_restore 158 = .ok (.iadd, 1) := by decide +kernel
theorem dX10_restore_159 : decode cX10_restore 159 = .ok (.iaload, 1) := by decide +kernel
theorem dX10_restore_160 : decode cX10_restore 160 = .ok (.iastore, 1) := by decide +kernel
theorem dX10_restore_161 : decode cX10_restore 161 = .ok (.iinc 3 1, 3) := by decide +kernel
theorem dX10_restore_164 : decode cX10_restore 164 = .ok (.goto (-26), 3) := by decide +kernel
theorem dX10_restore_167 : decode cX10_restore 167 = .ok (.aload_n 0, 1) := by decide +kernel
theorem dX10_restore_168 : decode cX10_restore 168 = .ok (.aload_n 0, 1) := by decide +kernel
theorem dX10_restore_169 : decode cX10_restore 169 = .ok (.getfield 44, 3) := by decide +kernel
theorem dX10_restore_172 : decode cX10_restore 172 = .ok (.iload_n 2, 1) := by decide +kernel
theorem dX10_restore_173 : decode cX10_restore 173 = .ok (.bipush 90, 2) := by decide +kernel
theorem dX10_restore_175 : decode cX10_restore 175 = .ok (.iadd, 1) := by decide +kernel
theorem dX10_restore_176 : decode cX10_restore 176 = .ok (.iaload, 1) := by decide +kernel
theorem dX10_restore_177 : decode cX10_restore 177 = .ok (.putfield 63, 3) := by decide +kernel
theorem dX10_restore_180 : decode cX10_restore 180 = .ok (.aload_n 0, 1) := by decide +kernel
theorem dX10_restore_181 : decode cX10_restore 181 = .ok (.aload_n 0, 1) := by decide +kernel
theorem dX10_restore_182 : decode cX10_restore 182 = .ok (.getfield 44, 3) := by decide +kernel
theorem dX10_restore_185 : decode cX10_restore 185 = .ok (.iload_n 2, 1) := by decide +kernel
theorem dX10_restore_186 : decode cX10_restore 186 = .ok (.bipush 91, 2) := by decide +kernel
theorem dX10_restore_188 : decode cX10_restore 188 = .ok (.iadd, 1) := by decide +kernel
theorem dX10_restore_189 : decode cX10_restore 189 = .ok (.iaload, 1) := by decide +kernel
theorem dX10_restore_190 : decode cX10_restore 190 = .ok (.putfield 152, 3) := by decide +kernel
theorem dX10_restore_193 : decode cX10_restore 193 = .ok (.iconst 1, 1) := by decide +kernel
theorem dX10_restore_194 : decode cX10_restore 194 = .ok (.ireturn, 1) := by decide +kernel
set_option maxRecDepth 20000 in
theorem ggX10_toldGlobe_X10_isThere : GoodIn wsX10_toldGlobe wsX10_isThere := goodIn_r _ [9, 1, 10, 11, 8, 12, 13, 14, 15, 16, 17, 18, 19, 20, 21, 22, 23, 24, 25, 26, 27, 28, 29, 30, 31, 32, 33, 34, 35] (by decide +kernel) (by decide +kernel)
set_option maxRecDepth 20000 in
theorem gX10_toldGlobe_X10_isThere : GoodIn wsX10_toldGlobe (wsV RX10 59 RX10 yX10_isThere wsX10_isThere) := goodIn_app (goodIn_of _ (by decide +kernel)) ggX10_toldGlobe_X10_isThere
theorem dX10_toldGlobe_0 : decode cX10_toldGlobe 0 = .ok (.aload_n 0, 1) := by decide +kernel
theorem dX10_toldGlobe_1 : decode cX10_toldGlobe 1 = .ok (.iload_n 1, 1) := by decide +kernel
theorem dX10_toldGlobe_2 : decode cX10_toldGlobe 2 = .ok (.invokevirtual 59, 3) := by decide +kernel
theorem dX10_toldGlobe_5 : decode cX10_toldGlobe 5 = .ok (.ifCond .ne 6, 3) := by decide +kernel
theorem dX10_toldGlobe_8 : decode cX10_toldGlobe 8 = .ok (.bipush (-2), 2) := by decide +kernel
theorem dX10_toldGlobe_10 : decode cX10_toldGlobe 10 = .ok (.ireturn, 1) := by decide +kernel
theorem dX10_toldGlobe_11 : decode cX10_toldGlobe 11 = .ok (.iload_n 2, 1) := by decide +kernel
theorem dX10_toldGlobe_12 : decode cX10_toldGlobe 12 = .ok (.tableswitch 104 0 6 #[44, 51, 58, 68, 75, 85, 94], 44) := by decide +kernel
theorem dX10_toldGlobe_56 : decode cX10_toldGlobe 56 = .ok (.aload_n 0, 1) := by decide +kernel
theorem dX10_toldGlobe_57 : decode cX10_toldGlobe 57 = .ok (.getfield 7, 3) := by decide +kernel
theorem dX10_toldGlobe_60 : decode cX10_toldGlobe 60 = .ok (.iload_n 1, 1) := by decide +kernel
theorem dX10_toldGlobe_61 : decode cX10_toldGlobe 61 = .ok (.iaload, 1) := by decide +kernel
theorem dX10_toldGlobe_62 : decode cX10_toldGlobe 62 = .ok (.ireturn, 1) := by decide +kernel
theorem dX10_toldGlobe_63 : decode cX10_toldGlobe 63 = .ok (.aload_n 0, 1) := by decide +kernel
theorem dX10_toldGlobe_64 : decode cX10_toldGlobe 64 = .ok (.getfield 16, 3) := by decide +kernel
theorem dX10_toldGlobe_67 : decode cX10_toldGlobe 67 = .ok (.iload_n 1, 1) := by decide +kernel
theorem dX10_toldGlobe_68 : decode cX10_toldGlobe 68 = .ok (.iaload, 1) := by decide +kernel
theorem dX10_toldGlobe_69 : decode cX10_toldGlobe 69 = .ok (.ireturn, 1) := by decide +kernel
theorem dX10_toldGlobe_70 : decode cX10_toldGlobe 70 = .ok (.aload_n 0, 1) := by decide +kernel
theorem dX10_toldGlobe_71 : decode cX10_toldGlobe 71 = .ok (.getfield 7, 3) := by decide +kernel
theorem dX10_toldGlobe_74 : decode cX10_toldGlobe 74 = .ok (.bipush 8, 2) := by decide +kernel
theorem dX10_toldGlobe_76 : decode cX10_toldGlobe 76 = .ok (.iload_n 1, 1) := by decide +kernel
theorem dX10_toldGlobe_77 : decode cX10_toldGlobe 77 = .ok (.iadd, 1) := by decide +kernel
theorem dX10_toldGlobe_78 : decode cX10_toldGlobe 78 = .ok (.iaload, 1) := by decide +kernel
theorem dX10_toldGlobe_79 : decode cX10_toldGlobe 79 = .ok (.ireturn, 1) := by decide +kernel
theorem dX10_toldGlobe_80 : decode cX10_toldGlobe 80 = .ok (.aload_n 0, 1) := by decide +kernel
theorem dX10_toldGlobe_81 : decode cX10_toldGlobe 81 = .ok (.getfield 19, 3) := by decide +kernel
theorem dX10_toldGlobe_84 : decode cX10_toldGlobe 84 = .ok (.iload_n 1, 1) := by decide +kernel
theorem dX10_toldGlobe_85 : decode cX10_toldGlobe 85 = .ok (.iaload, 1) := by decide +kernel
theorem dX10_toldGlobe_86 : decode cX10_toldGlobe 86 = .ok (.ireturn, 1) := by decide +kernel
theorem dX10_toldGlobe_87 : decode cX10_toldGlobe 87 = .ok (.aload_n 0, 1) := by decide +kernel
theorem dX10_toldGlobe_88 : decode cX10_toldGlobe 88 = .ok (.getfield 7, 3) := by decide +kernel
theorem dX10_toldGlobe_91 : decode cX10_toldGlobe 91 = .ok (.bipush 16, 2) := by decide +kernel
theorem dX10_toldGlobe_93 : decode cX10_toldGlobe 93 = .ok (.iload_n 1, 1) := by decide +kernel
theorem dX10_toldGlobe_94 : decode cX10_toldGlobe 94 = .ok (.iadd, 1) := by decide +kernel
theorem dX10_toldGlobe_95 : decode cX10_toldGlobe 95 = .ok (.iaload, 1) := by decide +kernel
theorem dX10_toldGlobe_96 : decode cX10_toldGlobe 96 = .ok (.ireturn, 1) := by decide +kernel
theorem dX10_toldGlobe_97 : decode cX10_toldGlobe 97 = .ok (.aload_n 0, 1) := by decide +kernel
theorem dX10_toldGlobe_98 : decode cX10_toldGlobe 98 = .ok (.getfield 63, 3) := by decide +kernel
theorem dX10_toldGlobe_101 : decode cX10_toldGlobe 101 = .ok (.iload_n 1, 1) := by decide +kernel
theorem dX10_toldGlobe_102 : decode cX10_toldGlobe 102 = .ok (.ishr, 1) := by decide +kernel
theorem dX10_toldGlobe_103 : decode cX10_toldGlobe 103 = .ok (.iconst 1, 1) := by decide +kernel
theorem dX10_toldGlobe_104 : decode cX10_toldGlobe 104 = .ok (.iand, 1) := by decide +kernel
theorem dX10_toldGlobe_105 : decode cX10_toldGlobe 105 = .ok (.ireturn, 1) := by decide +kernel
theorem dX10_toldGlobe_106 : decode cX10_toldGlobe 106 = .ok (.aload_n 0, 1) := by decide +kernel
theorem dX10_toldGlobe_107 : decode cX10_toldGlobe 107 = .ok (.getfield 7, 3) := by decide +kernel
theorem dX10_toldGlobe_110 : decode cX10_toldGlobe 110 = .ok (.bipush 24, 2) := by decide +kernel
theorem dX10_toldGlobe_112 : decode cX10_toldGlobe 112 = .ok (.iload_n 1, 1) := by decide +kernel
theorem dX10_toldGlobe_113 : decode cX10_toldGlobe 113 = .ok (.iadd, 1) := by decide +kernel
theorem dX10_toldGlobe_114 : decode cX10_toldGlobe 114 = .ok (.iaload, 1) := by decide +kernel
theorem dX10_toldGlobe_115 : decode cX10_toldGlobe 115 = .ok (.ireturn, 1) := by decide +kernel
theorem dX10_toldGlobe_116 : decode cX10_toldGlobe 116 = .ok (.iload_n 2, 1) := by decide +kernel
theorem dX10_toldGlobe_117 : decode cX10_toldGlobe 117 = .ok (.bipush 7, 2) := by decide +kernel
theorem dX10_toldGlobe_119 : decode cX10_toldGlobe 119 = .ok (.if_icmp .ne 15, 3) := by decide +kernel
theorem dX10_toldGlobe_122 : decode cX10_toldGlobe 122 = .ok (.aload_n 0, 1) := by decide +kernel
theorem dX10_toldGlobe_123 : decode cX10_toldGlobe 123 = .ok (.getfield 7, 3) := by decide +kernel
theorem dX10_toldGlobe_126 : decode cX10_toldGlobe 126 = .ok (.bipush 32, 2) := by decide +kernel
theorem dX10_toldGlobe_128 : decode cX10_toldGlobe 128 = .ok (.iload_n 1, 1) := by decide +kernel
theorem dX10_toldGlobe_129 : decode cX10_toldGlobe 129 = .ok (.iadd, 1) := by decide +kernel
theorem dX10_toldGlobe_130 : decode cX10_toldGlobe 130 = .ok (.iaload, 1) := by decide +kernel
theorem dX10_toldGlobe_131 : decode cX10_toldGlobe 131 = .ok (.goto 5, 3) := by decide +kernel
theorem dX10_toldGlobe_134 : decode cX10_toldGlobe 134 = .ok (.bipush (-2), 2) := by decide +kernel
theorem dX10_toldGlobe_136 : decode cX10_toldGlobe 136 = .ok (.ireturn, 1) := by decide +kernel
set_option maxRecDepth 20000 in
theorem ggX10_told_X10_in : GoodIn wsX10_told wsX10_in := goodIn_r _ [8] (by decide +kernel) (by decide +kernel)
set_option maxRecDepth 20000 in
theorem gX10_told_X10_in : GoodIn wsX10_told (va_wsS RX10 51 yX10_in wsX10_in) := goodIn_app (goodIn_of _ (by decide +kernel)) ggX10_told_X10_in
set_option maxRecDepth 20000 in
theorem ggX10_told_X10_toldGlobe : GoodIn wsX10_told wsX10_toldGlobe := goodIn_r _ [12, 3, 13, 14, 15, 16, 17, 18, 7, 19, 5, 6, 8, 20, 21, 22, 46, 47, 48, 49, 50, 51, 52, 53, 54, 55, 56, 57, 58, 59, 60, 61, 62, 63, 64, 65] (by decide +kernel) (by decide +kernel)
set_option maxRecDepth 20000 in
theorem gX10_told_X10_toldGlobe : GoodIn wsX10_told (wsV RX10 176 RX10 yX10_toldGlobe wsX10_toldGlobe) := goodIn_app (goodIn_of _ (by decide +kernel)) ggX10_told_X10_toldGlobe
set_option maxRecDepth 20000 in
theorem ggX10_told_X10_asNow : GoodIn wsX10_told wsX10_asNow := goodIn_r _ [26, 27, 3, 28, 29, 46, 47, 48, 49, 50, 51, 52, 53, 54, 55, 56, 57, 58, 59, 60, 61, 62, 63, 64, 65] (by decide +kernel) (by decide +kernel)
set_option maxRecDepth 20000 in
theorem gX10_told_X10_asNow : GoodIn wsX10_told (wsV RX10 71 RX10 yX10_asNow wsX10_asNow) := goodIn_app (goodIn_of _ (by decide +kernel)) ggX10_told_X10_asNow
set_option maxRecDepth 20000 in
theorem ggX10_told_X10_snow : GoodIn wsX10_told wsX10_snow := goodIn_r _ [33, 27, 34, 35, 36, 7, 37, 20, 21, 22, 46, 47, 48, 49, 50, 51, 52, 53, 54, 55, 56, 57, 58, 59, 60, 61, 62, 63, 64, 65] (by decide +kernel) (by decide +kernel)
set_option maxRecDepth 20000 in
theorem gX10_told_X10_snow : GoodIn wsX10_told (wsV RX10 137 RX10 yX10_snow wsX10_snow) := goodIn_app (goodIn_of _ (by decide +kernel)) ggX10_told_X10_snow
set_option maxRecDepth 20000 in
theorem ggX10_told_X10_freeOnes : GoodIn wsX10_told wsX10_freeOnes := goodIn_r _ [41, 34, 35, 36, 7, 37, 27, 20, 21, 22, 42, 43, 44, 45, 46, 47, 48, 49, 50, 51, 52, 53, 54, 55, 56, 57, 58, 59, 60, 61, 62, 63, 64, 65] (by decide +kernel) (by decide +kernel)
set_option maxRecDepth 20000 in
theorem gX10_told_X10_freeOnes : GoodIn wsX10_told (wsV RX10 118 RX10 yX10_freeOnes wsX10_freeOnes) := goodIn_app (goodIn_of _ (by decide +kernel)) ggX10_told_X10_freeOnes
theorem dX10_told_0 : decode cX10_told 0 = .ok (.iload_n 1, 1) := by decide +kernel
theorem dX10_told_1 : decode cX10_told 1 = .ok (.bipush 100, 2) := by decide +kernel
theorem dX10_told_3 : decode cX10_told 3 = .ok (.if_icmp .lt 29, 3) := by decide +kernel
theorem dX10_told_6 : decode cX10_told 6 = .ok (.iload_n 1, 1) := by decide +kernel
theorem dX10_told_7 : decode cX10_told 7 = .ok (.bipush 100, 2) := by decide +kernel
theorem dX10_told_9 : decode cX10_told 9 = .ok (.bipush 105, 2) := by decide +kernel
theorem dX10_told_11 : decode cX10_told 11 = .ok (.invokestatic 51, 3) := by decide +kernel
theorem dX10_told_14 : decode cX10_told 14 = .ok (.ifCond .eq 15, 3) := by decide +kernel
theorem dX10_told_17 : decode cX10_told 17 = .ok (.aload_n 0, 1) := by decide +kernel
theorem dX10_told_18 : decode cX10_told 18 = .ok (.getfield 22, 3) := by decide +kernel
theorem dX10_told_21 : decode cX10_told 21 = .ok (.iload_n 1, 1) := by decide +kernel
theorem dX10_told_22 : decode cX10_told 22 = .ok (.bipush 100, 2) := by decide +kernel
theorem dX10_told_24 : decode cX10_told 24 = .ok (.isub, 1) := by decide +kernel
theorem dX10_told_25 : decode cX10_told 25 = .ok (.iaload, 1) := by decide +kernel
theorem dX10_told_26 : decode cX10_told 26 = .ok (.goto 5, 3) := by decide +kernel
theorem dX10_told_29 : decode cX10_told 29 = .ok (.bipush (-2), 2) := by decide +kernel
theorem dX10_told_31 : decode cX10_told 31 = .ok (.ireturn, 1) := by decide +kernel
theorem dX10_told_32 : decode cX10_told 32 = .ok (.iload_n 1, 1) := by decide +kernel
theorem dX10_told_33 : decode cX10_told 33 = .ok (.bipush 10, 2) := by decide +kernel
theorem dX10_told_35 : decode cX10_told 35 = .ok (.if_icmp .lt 18, 3) := by decide +kernel
theorem dX10_told_38 : decode cX10_told 38 = .ok (.aload_n 0, 1) := by decide +kernel
theorem dX10_told_39 : decode cX10_told 39 = .ok (.iload_n 1, 1) := by decide +kernel
theorem dX10_told_40 : decode cX10_told 40 = .ok (.bipush 10, 2) := by decide +kernel
theorem dX10_told_42 : decode cX10_told 42 = .ok (.idiv, 1) := by decide +kernel
theorem dX10_told_43 : decode cX10_told 43 = .ok (.iconst 1, 1) := by decide +kernel
theorem dX10_told_44 : decode cX10_told 44 = .ok (.isub, 1) := by decide +kernel
theorem dX10_told_45 : decode cX10_told 45 = .ok (.iload_n 1, 1) := by decide +kernel
theorem dX10_told_46 : decode cX10_told 46 = .ok (.bipush 10, 2) := by decide +kernel
theorem dX10_told_48 : decode cX10_told 48 = .ok (.irem, 1) := by decide +kernel
theorem dX10_told_49 : decode cX10_told 49 = .ok (.invokevirtual 176, 3) := by decide +kernel
theorem dX10_told_52 : decode cX10_told 52 = .ok (.ireturn, 1) := by decide +kernel
theorem dX10_told_53 : decode cX10_told 53 = .ok (.aload_n 0, 1) := by decide +kernel
theorem dX10_told_54 : decode cX10_told 54 = .ok (.invokevirtual 71, 3) := by decide +kernel
theorem dX10_told_57 : decode cX10_told 57 = .ok (.iload_n 1, 1) := by decide +kernel
theorem dX10_told_58 : decode cX10_told 58 = .ok (.tableswitch 71 0 5 #[38, 43, 51, 56, 61, 61], 38) := by decide +kernel
theorem dX10_told_96 : decode cX10_told 96 = .ok (.aload_n 0, 1) := by decide +kernel
theorem dX10_told_97 : decode cX10_told 97 = .ok (.getfield 77, 3) := by decide +kernel
theorem dX10_told_100 : decode cX10_told 100 = .ok (.ireturn, 1) := by decide +kernel
theorem dX10_told_101 : decode cX10_told 101 = .ok (.aload_n 0, 1) := by decide +kernel
theorem dX10_told_102 : decode cX10_told 102 = .ok (.getfield 7, 3) := by decide +kernel
theorem dX10_told_105 : decode cX10_told 105 = .ok (.bipush 40, 2) := by decide +kernel
theorem dX10_told_107 : decode cX10_told 107 = .ok (.iaload, 1) := by decide +kernel
theorem dX10_told_108 : decode cX10_told 108 = .ok (.ireturn, 1) := by decide +kernel
theorem dX10_told_109 : decode cX10_told 109 = .ok (.aload_n 0, 1) := by decide +kernel
theorem dX10_told_110 : decode cX10_told 110 = .ok (.invokevirtual 137, 3) := by decide +kernel
theorem dX10_told_113 : decode cX10_told 113 = .ok (.ireturn, 1) := by decide +kernel
theorem dX10_told_114 : decode cX10_told 114 = .ok (.aload_n 0, 1) := by decide +kernel
theorem dX10_told_115 : decode cX10_told 115 = .ok (.invokevirtual 118, 3) := by decide +kernel
theorem dX10_told_118 : decode cX10_told 118 = .ok (.ireturn, 1) := by decide +kernel
theorem dX10_told_119 : decode cX10_told 119 = .ok (.aload_n 0, 1) := by decide +kernel
theorem dX10_told_120 : decode cX10_told 120 = .ok (.getfield 7, 3) := by decide +kernel
theorem dX10_told_123 : decode cX10_told 123 = .ok (.bipush 37, 2) := by decide +kernel
theorem dX10_told_125 : decode cX10_told 125 = .ok (.iload_n 1, 1) := by decide +kernel
theorem dX10_told_126 : decode cX10_told 126 = .ok (.iadd, 1) := by decide +kernel
theorem dX10_told_127 : decode cX10_told 127 = .ok (.iaload, 1) := by decide +kernel
theorem dX10_told_128 : decode cX10_told 128 = .ok (.ireturn, 1) := by decide +kernel
theorem dX10_told_129 : decode cX10_told 129 = .ok (.iload_n 1, 1) := by decide +kernel
theorem dX10_told_130 : decode cX10_told 130 = .ok (.bipush 6, 2) := by decide +kernel
theorem dX10_told_132 : decode cX10_told 132 = .ok (.if_icmp .ne 10, 3) := by decide +kernel
theorem dX10_told_135 : decode cX10_told 135 = .ok (.aload_n 0, 1) := by decide +kernel
theorem dX10_told_136 : decode cX10_told 136 = .ok (.getfield 152, 3) := by decide +kernel
theorem dX10_told_139 : decode cX10_told 139 = .ok (.goto 5, 3) := by decide +kernel
theorem dX10_told_142 : decode cX10_told 142 = .ok (.bipush (-2), 2) := by decide +kernel
theorem dX10_told_144 : decode cX10_told 144 = .ok (.ireturn, 1) := by decide +kernel
theorem dJ6_numberOfTrailingZeros_0f7a4_0 : decode cJ6_numberOfTrailingZeros_0f7a4 0 = .ok (.iload_n 0, 1) := by decide +kernel
theorem dJ6_numberOfTrailingZeros_0f7a4_1 : decode cJ6_numberOfTrailingZeros_0f7a4 1 = .ok (.iconst (-1), 1) := by decide +kernel
theorem dJ6_numberOfTrailingZeros_0f7a4_2 : decode cJ6_numberOfTrailingZeros_0f7a4 2 = .ok (.ixor, 1) := by decide +kernel
theorem dJ6_numberOfTrailingZeros_0f7a4_3 : decode cJ6_numberOfTrailingZeros_0f7a4 3 = .ok (.iload_n 0, 1) := by decide +kernel
theorem dJ6_numberOfTrailingZeros_0f7a4_4 : decode cJ6_numberOfTrailingZeros_0f7a4 4 = .ok (.iconst 1, 1) := by decide +kernel
theorem dJ6_numberOfTrailingZeros_0f7a4_5 : decode cJ6_numberOfTrailingZeros_0f7a4 5 = .ok (.isub, 1) := by decide +kernel
theorem dJ6_numberOfTrailingZeros_0f7a4_6 : decode cJ6_numberOfTrailingZeros_0f7a4 6 = .ok (.iand, 1) := by decide +kernel
theorem dJ6_numberOfTrailingZeros_0f7a4_7 : decode cJ6_numberOfTrailingZeros_0f7a4 7 = .ok (.istore_n 0, 1) := by decide +kernel
theorem dJ6_numberOfTrailingZeros_0f7a4_8 : decode cJ6_numberOfTrailingZeros_0f7a4 8 = .ok (.iload_n 0, 1) := by decide +kernel
theorem dJ6_numberOfTrailingZeros_0f7a4_9 : decode cJ6_numberOfTrailingZeros_0f7a4 9 = .ok (.ifCond .gt 8, 3) := by decide +kernel
theorem dJ6_numberOfTrailingZeros_0f7a4_12 : decode cJ6_numberOfTrailingZeros_0f7a4 12 = .ok (.iload_n 0, 1) := by decide +kernel
theorem dJ6_numberOfTrailingZeros_0f7a4_13 : decode cJ6_numberOfTrailingZeros_0f7a4 13 = .ok (.bipush 32, 2) := by decide +kernel
theorem dJ6_numberOfTrailingZeros_0f7a4_15 : decode cJ6_numberOfTrailingZeros_0f7a4 15 = .ok (.iand, 1) := by decide +kernel
theorem dJ6_numberOfTrailingZeros_0f7a4_16 : decode cJ6_numberOfTrailingZeros_0f7a4 16 = .ok (.ireturn, 1) := by decide +kernel
theorem dJ6_numberOfTrailingZeros_0f7a4_17 : decode cJ6_numberOfTrailingZeros_0f7a4 17 = .ok (.iconst 1, 1) := by decide +kernel
theorem dJ6_numberOfTrailingZeros_0f7a4_18 : decode cJ6_numberOfTrailingZeros_0f7a4 18 = .ok (.istore_n 1, 1) := by decide +kernel
theorem dJ6_numberOfTrailingZeros_0f7a4_19 : decode cJ6_numberOfTrailingZeros_0f7a4 19 = .ok (.iload_n 0, 1) := by decide +kernel
theorem dJ6_numberOfTrailingZeros_0f7a4_20 : decode cJ6_numberOfTrailingZeros_0f7a4 20 = .ok (.ldc_w 264, 3) := by decide +kernel
theorem dJ6_numberOfTrailingZeros_0f7a4_23 : decode cJ6_numberOfTrailingZeros_0f7a4 23 = .ok (.if_icmp .le 11, 3) := by decide +kernel
theorem dJ6_numberOfTrailingZeros_0f7a4_26 : decode cJ6_numberOfTrailingZeros_0f7a4 26 = .ok (.iinc 1 16, 3) := by decide +kernel
theorem dJ6_numberOfTrailingZeros_0f7a4_29 : decode cJ6_numberOfTrailingZeros_0f7a4 29 = .ok (.iload_n 0, 1) := by decide +kernel
theorem dJ6_numberOfTrailingZeros_0f7a4_30 : decode cJ6_numberOfTrailingZeros_0f7a4 30 = .ok (.bipush 16, 2) := by decide +kernel
theorem dJ6_numberOfTrailingZeros_0f7a4_32 : decode cJ6_numberOfTrailingZeros_0f7a4 32 = .ok (.iushr, 1) := by decide +kernel
theorem dJ6_numberOfTrailingZeros_0f7a4_33 : decode cJ6_numberOfTrailingZeros_0f7a4 33 = .ok (.istore_n 0, 1) := by decide +kernel
theorem dJ6_numberOfTrailingZeros_0f7a4_34 : decode cJ6_numberOfTrailingZeros_0f7a4 34 = .ok (.iload_n 0, 1) := by decide +kernel
theorem dJ6_numberOfTrailingZeros_0f7a4_35 : decode cJ6_numberOfTrailingZeros_0f7a4 35 = .ok (.sipush 256, 3) := by decide +kernel
theorem dJ6_numberOfTrailingZeros_0f7a4_38 : decode cJ6_numberOfTrailingZeros_0f7a4 38 = .ok (.if_icmp .le 11, 3) := by decide +kernel
theorem dJ6_numberOfTrailingZeros_0f7a4_41 : decode cJ6_numberOfTrailingZeros_0f7a4 41 = .ok (.iinc 1 8, 3) := by decide +kernel
theorem dJ6_numberOfTrailingZeros_0f7a4_44 : decode cJ6_numberOfTrailingZeros_0f7a4 44 = .ok (.iload_n 0, 1) := by decide +kernel
theorem dJ6_numberOfTrailingZeros_0f7a4_45 : decode cJ6_numberOfTrailingZeros_0f7a4 45 = .ok (.bipush 8, 2) := by decide +kernel
theorem dJ6_numberOfTrailingZeros_0f7a4_47 : decode cJ6_numberOfTrailingZeros_0f7a4 47 = .ok (.iushr, 1) := by decide +kernel
theorem dJ6_numberOfTrailingZeros_0f7a4_48 : decode cJ6_numberOfTrailingZeros_0f7a4 48 = .ok (.istore_n 0, 1) := by decide +kernel
theorem dJ6_numberOfTrailingZeros_0f7a4_49 : decode cJ6_numberOfTrailingZeros_0f7a4 49 = .ok (.iload_n 0, 1) := by decide +kernel
theorem dJ6_numberOfTrailingZeros_0f7a4_50 : decode cJ6_numberOfTrailingZeros_0f7a4 50 = .ok (.bipush 16, 2) := by decide +kernel
theorem dJ6_numberOfTrailingZeros_0f7a4_52 : decode cJ6_numberOfTrailingZeros_0f7a4 52 = .ok (.if_icmp .le 10, 3) := by decide +kernel
theorem dJ6_numberOfTrailingZeros_0f7a4_55 : decode cJ6_numberOfTrailingZeros_0f7a4 55 = .ok (.iinc 1 4, 3) := by decide +kernel
theorem dJ6_numberOfTrailingZeros_0f7a4_58 : decode cJ6_numberOfTrailingZeros_0f7a4 58 = .ok (.iload_n 0, 1) := by decide +kernel
theorem dJ6_numberOfTrailingZeros_0f7a4_59 : decode cJ6_numberOfTrailingZeros_0f7a4 59 = .ok (.iconst 4, 1) := by decide +kernel
theorem dJ6_numberOfTrailingZeros_0f7a4_60 : decode cJ6_numberOfTrailingZeros_0f7a4 60 = .ok (.iushr, 1) := by decide +kernel
theorem dJ6_numberOfTrailingZeros_0f7a4_61 : decode cJ6_numberOfTrailingZeros_0f7a4 61 = .ok (.istore_n 0, 1) := by decide +kernel
theorem dJ6_numberOfTrailingZeros_0f7a4_62 : decode cJ6_numberOfTrailingZeros_0f7a4 62 = .ok (.iload_n 0, 1) := by decide +kernel
theorem dJ6_numberOfTrailingZeros_0f7a4_63 : decode cJ6_numberOfTrailingZeros_0f7a4 63 = .ok (.iconst 4, 1) := by decide +kernel
theorem dJ6_numberOfTrailingZeros_0f7a4_64 : decode cJ6_numberOfTrailingZeros_0f7a4 64 = .ok (.if_icmp .le 10, 3) := by decide +kernel
theorem dJ6_numberOfTrailingZeros_0f7a4_67 : decode cJ6_numberOfTrailingZeros_0f7a4 67 = .ok (.iinc 1 2, 3) := by decide +kernel
theorem dJ6_numberOfTrailingZeros_0f7a4_70 : decode cJ6_numberOfTrailingZeros_0f7a4 70 = .ok (.iload_n 0, 1) := by decide +kernel
theorem dJ6_numberOfTrailingZeros_0f7a4_71 : decode cJ6_numberOfTrailingZeros_0f7a4 71 = .ok (.iconst 2, 1) := by decide +kernel
theorem dJ6_numberOfTrailingZeros_0f7a4_72 : decode cJ6_numberOfTrailingZeros_0f7a4 72 = .ok (.iushr, 1) := by decide +kernel
theorem dJ6_numberOfTrailingZeros_0f7a4_73 : decode cJ6_numberOfTrailingZeros_0f7a4 73 = .ok (.istore_n 0, 1) := by decide +kernel
theorem dJ6_numberOfTrailingZeros_0f7a4_74 : decode cJ6_numberOfTrailingZeros_0f7a4 74 = .ok (.iload_n 1, 1) := by decide +kernel
theorem dJ6_numberOfTrailingZeros_0f7a4_75 : decode cJ6_numberOfTrailingZeros_0f7a4 75 = .ok (.iload_n 0, 1) := by decide +kernel
theorem dJ6_numberOfTrailingZeros_0f7a4_76 : decode cJ6_numberOfTrailingZeros_0f7a4 76 = .ok (.iconst 1, 1) := by decide +kernel
