theorem dX10_endHour_60 : decode cX10_endHour 60 = .ok (.istore_n 2, 1) := by decide +kernel
theorem dX10_endHour_61 : decode cX10_endHour 61 = .ok (.aload_n 0, 1) := by decide +kernel
theorem dX10_endHour_62 : decode cX10_endHour 62 = .ok (.getfield 13, 3) := by decide +kernel
theorem dX10_endHour_65 : decode cX10_endHour 65 = .ok (.bipush 8, 2) := by decide +kernel
theorem dX10_endHour_67 : decode cX10_endHour 67 = .ok (.iload_n 1, 1) := by decide +kernel
theorem dX10_endHour_68 : decode cX10_endHour 68 = .ok (.iadd, 1) := by decide +kernel
theorem dX10_endHour_69 : decode cX10_endHour 69 = .ok (.dup2, 1) := by decide +kernel
theorem dX10_endHour_70 : decode cX10_endHour 70 = .ok (.iaload, 1) := by decide +kernel
theorem dX10_endHour_71 : decode cX10_endHour 71 = .ok (.aload_n 0, 1) := by decide +kernel
theorem dX10_endHour_72 : decode cX10_endHour 72 = .ok (.getfield 13, 3) := by decide +kernel
theorem dX10_endHour_75 : decode cX10_endHour 75 = .ok (.bipush 8, 2) := by decide +kernel
theorem dX10_endHour_77 : decode cX10_endHour 77 = .ok (.iload_n 1, 1) := by decide +kernel
theorem dX10_endHour_78 : decode cX10_endHour 78 = .ok (.iadd, 1) := by decide +kernel
theorem dX10_endHour_79 : decode cX10_endHour 79 = .ok (.iaload, 1) := by decide +kernel
theorem dX10_endHour_80 : decode cX10_endHour 80 = .ok (.bipush 7, 2) := by decide +kernel
theorem dX10_endHour_82 : decode cX10_endHour 82 = .ok (.if_icmp .le 8, 3) := by decide +kernel
theorem dX10_endHour_85 : decode cX10_endHour 85 = .ok (.bipush 7, 2) := by decide +kernel
theorem dX10_endHour_87 : decode cX10_endHour 87 = .ok (.goto 12, 3) := by decide +kernel
theorem dX10_endHour_90 : decode cX10_endHour 90 = .ok (.aload_n 0, 1) := by decide +kernel
theorem dX10_endHour_91 : decode cX10_endHour 91 = .ok (.getfield 13, 3) := by decide +kernel
theorem dX10_endHour_94 : decode cX10_endHour 94 = .ok (.bipush 8, 2) := by decide +kernel
theorem dX10_endHour_96 : decode cX10_endHour 96 = .ok (.iload_n 1, 1) := by decide +kernel
theorem dX10_endHour_97 : decode cX10_endHour 97 = .ok (.iadd, 1) := by decide +kernel
theorem dX10_endHour_98 : decode cX10_endHour 98 = .ok (.iaload, 1) := by decide +kernel
theorem dX10_endHour_99 : decode cX10_endHour 99 = .ok (.isub, 1) := by decide +kernel
theorem dX10_endHour_100 : decode cX10_endHour 100 = .ok (.iastore, 1) := by decide +kernel
theorem dX10_endHour_101 : decode cX10_endHour 101 = .ok (.iload_n 2, 1) := by decide +kernel
theorem dX10_endHour_102 : decode cX10_endHour 102 = .ok (.ifCond .eq 37, 3) := by decide +kernel
theorem dX10_endHour_105 : decode cX10_endHour 105 = .ok (.aload_n 0, 1) := by decide +kernel
theorem dX10_endHour_106 : decode cX10_endHour 106 = .ok (.getfield 13, 3) := by decide +kernel
theorem dX10_endHour_109 : decode cX10_endHour 109 = .ok (.bipush 24, 2) := by decide +kernel
theorem dX10_endHour_111 : decode cX10_endHour 111 = .ok (.iload_n 1, 1) := by decide +kernel
theorem dX10_endHour_112 : decode cX10_endHour 112 = .ok (.iadd, 1) := by decide +kernel
theorem dX10_endHour_113 : decode cX10_endHour 113 = .ok (.dup2, 1) := by decide +kernel
theorem dX10_endHour_114 : decode cX10_endHour 114 = .ok (.iaload, 1) := by decide +kernel
theorem dX10_endHour_115 : decode cX10_endHour 115 = .ok (.aload_n 0, 1) := by decide +kernel
theorem dX10_endHour_116 : decode cX10_endHour 116 = .ok (.getfield 13, 3) := by decide +kernel
theorem dX10_endHour_119 : decode cX10_endHour 119 = .ok (.bipush 24, 2) := by decide +kernel
theorem dX10_endHour_121 : decode cX10_endHour 121 = .ok (.iload_n 1, 1) := by decide +kernel
theorem dX10_endHour_122 : decode cX10_endHour 122 = .ok (.iadd, 1) := by decide +kernel
theorem dX10_endHour_123 : decode cX10_endHour 123 = .ok (.iaload, 1) := by decide +kernel
theorem dX10_endHour_124 : decode cX10_endHour 124 = .ok (.bipush 9, 2) := by decide +kernel
theorem dX10_endHour_126 : decode cX10_endHour 126 = .ok (.if_icmp .ge 7, 3) := by decide +kernel
theorem dX10_endHour_129 : decode cX10_endHour 129 = .ok (.iconst 1, 1) := by decide +kernel
theorem dX10_endHour_130 : decode cX10_endHour 130 = .ok (.goto 4, 3) := by decide +kernel
theorem dX10_endHour_133 : decode cX10_endHour 133 = .ok (.iconst 0, 1) := by decide +kernel
theorem dX10_endHour_134 : decode cX10_endHour 134 = .ok (.iadd, 1) := by decide +kernel
theorem dX10_endHour_135 : decode cX10_endHour 135 = .ok (.iastore, 1) := by decide +kernel
theorem dX10_endHour_136 : decode cX10_endHour 136 = .ok (.goto 43, 3) := by decide +kernel
theorem dX10_endHour_139 : decode cX10_endHour 139 = .ok (.aload_n 0, 1) := by decide +kernel
theorem dX10_endHour_140 : decode cX10_endHour 140 = .ok (.getfield 63, 3) := by decide +kernel
theorem dX10_endHour_143 : decode cX10_endHour 143 = .ok (.iload_n 1, 1) := by decide +kernel
theorem dX10_endHour_144 : decode cX10_endHour 144 = .ok (.invokestatic 55, 3) := by decide +kernel
theorem dX10_endHour_147 : decode cX10_endHour 147 = .ok (.ifCond .ne 32, 3) := by decide +kernel
theorem dX10_endHour_150 : decode cX10_endHour 150 = .ok (.aload_n 0, 1) := by decide +kernel
theorem dX10_endHour_151 : decode cX10_endHour 151 = .ok (.getfield 13, 3) := by decide +kernel
theorem dX10_endHour_154 : decode cX10_endHour 154 = .ok (.bipush 24, 2) := by decide +kernel
theorem dX10_endHour_156 : decode cX10_endHour 156 = .ok (.iload_n 1, 1) := by decide +kernel
theorem dX10_endHour_157 : decode cX10_endHour 157 = .ok (.iadd, 1) := by decide +kernel
theorem dX10_endHour_158 : decode cX10_endHour 158 = .ok (.dup2, 1) := by decide +kernel
theorem dX10_endHour_159 : decode cX10_endHour 159 = .ok (.iaload, 1) := by decide +kernel
theorem dX10_endHour_160 : decode cX10_endHour 160 = .ok (.aload_n 0, 1) := by decide +kernel
theorem dX10_endHour_161 : decode cX10_endHour 161 = .ok (.getfield 13, 3) := by decide +kernel
theorem dX10_endHour_164 : decode cX10_endHour 164 = .ok (.bipush 24, 2) := by decide +kernel
theorem dX10_endHour_166 : decode cX10_endHour 166 = .ok (.iload_n 1, 1) := by decide +kernel
theorem dX10_endHour_167 : decode cX10_endHour 167 = .ok (.iadd, 1) := by decide +kernel
theorem dX10_endHour_168 : decode cX10_endHour 168 = .ok (.iaload, 1) := by decide +kernel
theorem dX10_endHour_169 : decode cX10_endHour 169 = .ok (.ifCond .le 7, 3) := by decide +kernel
theorem dX10_endHour_172 : decode cX10_endHour 172 = .ok (.iconst 1, 1) := by decide +kernel
theorem dX10_endHour_173 : decode cX10_endHour 173 = .ok (.goto 4, 3) := by decide +kernel
theorem dX10_endHour_176 : decode cX10_endHour 176 = .ok (.iconst 0, 1) := by decide +kernel
theorem dX10_endHour_177 : decode cX10_endHour 177 = .ok (.isub, 1) := by decide +kernel
theorem dX10_endHour_178 : decode cX10_endHour 178 = .ok (.iastore, 1) := by decide +kernel
theorem dX10_endHour_179 : decode cX10_endHour 179 = .ok (.aload_n 0, 1) := by decide +kernel
theorem dX10_endHour_180 : decode cX10_endHour 180 = .ok (.getfield 13, 3) := by decide +kernel
theorem dX10_endHour_183 : decode cX10_endHour 183 = .ok (.iload_n 1, 1) := by decide +kernel
theorem dX10_endHour_184 : decode cX10_endHour 184 = .ok (.dup2, 1) := by decide +kernel
theorem dX10_endHour_185 : decode cX10_endHour 185 = .ok (.iaload, 1) := by decide +kernel
theorem dX10_endHour_186 : decode cX10_endHour 186 = .ok (.aload_n 0, 1) := by decide +kernel
theorem dX10_endHour_187 : decode cX10_endHour 187 = .ok (.getfield 13, 3) := by decide +kernel
theorem dX10_endHour_190 : decode cX10_endHour 190 = .ok (.iload_n 1, 1) := by decide +kernel
theorem dX10_endHour_191 : decode cX10_endHour 191 = .ok (.iaload, 1) := by decide +kernel
theorem dX10_endHour_192 : decode cX10_endHour 192 = .ok (.aload_n 0, 1) := by decide +kernel
theorem dX10_endHour_193 : decode cX10_endHour 193 = .ok (.getfield 19, 3) := by decide +kernel
theorem dX10_endHour_196 : decode cX10_endHour 196 = .ok (.iload_n 1, 1) := by decide +kernel
theorem dX10_endHour_197 : decode cX10_endHour 197 = .ok (.iaload, 1) := by decide +kernel
theorem dX10_endHour_198 : decode cX10_endHour 198 = .ok (.if_icmp .le 12, 3) := by decide +kernel
theorem dX10_endHour_201 : decode cX10_endHour 201 = .ok (.aload_n 0, 1) := by decide +kernel
theorem dX10_endHour_202 : decode cX10_endHour 202 = .ok (.getfield 19, 3) := by decide +kernel
theorem dX10_endHour_205 : decode cX10_endHour 205 = .ok (.iload_n 1, 1) := by decide +kernel
theorem dX10_endHour_206 : decode cX10_endHour 206 = .ok (.iaload, 1) := by decide +kernel
theorem dX10_endHour_207 : decode cX10_endHour 207 = .ok (.goto 9, 3) := by decide +kernel
theorem dX10_endHour_210 : decode cX10_endHour 210 = .ok (.aload_n 0, 1) := by decide +kernel
theorem dX10_endHour_211 : decode cX10_endHour 211 = .ok (.getfield 13, 3) := by decide +kernel
theorem dX10_endHour_214 : decode cX10_endHour 214 = .ok (.iload_n 1, 1) := by decide +kernel
theorem dX10_endHour_215 : decode cX10_endHour 215 = .ok (.iaload, 1) := by decide +kernel
theorem dX10_endHour_216 : decode cX10_endHour 216 = .ok (.isub, 1) := by decide +kernel
theorem dX10_endHour_217 : decode cX10_endHour 217 = .ok (.iastore, 1) := by decide +kernel
theorem dX10_endHour_218 : decode cX10_endHour 218 = .ok (.iinc 1 1, 3) := by decide +kernel
theorem dX10_endHour_221 : decode cX10_endHour 221 = .ok (.goto (-192), 3) := by decide +kernel
theorem dX10_endHour_224 : decode cX10_endHour 224 = .ok (.iconst 0, 1) := by decide +kernel
theorem dX10_endHour_225 : decode cX10_endHour 225 = .ok (.ireturn, 1) := by decide +kernel
set_option maxRecDepth 20000 in
theorem ggX10_globeAct_X10_pour : GoodIn wsX10_globeAct wsX10_pour := goodIn_r _ [5, 6, 7, 8, 9, 4, 10, 11, 12, 13, 39, 40, 41, 42, 43, 44, 45, 46, 47, 48, 49, 50, 51, 52, 53, 54, 55, 56, 57, 58] (by decide +kernel) (by decide +kernel)
set_option maxRecDepth 20000 in
theorem gX10_globeAct_X10_pour : GoodIn wsX10_globeAct (wsV RX10 99 RX10 yX10_pour wsX10_pour) := goodIn_app (goodIn_of _ (by decide +kernel)) ggX10_globeAct_X10_pour
set_option maxRecDepth 20000 in
theorem ggX10_globeAct_X10_wipeOff : GoodIn wsX10_globeAct wsX10_wipeOff := goodIn_r _ [17, 6, 7, 8, 9, 4, 10, 11, 12, 13, 39, 40, 41, 42, 43, 44, 45, 46, 47, 48, 49, 50, 51, 52, 53, 54, 55, 56, 57, 58] (by decide +kernel) (by decide +kernel)
set_option maxRecDepth 20000 in
theorem gX10_globeAct_X10_wipeOff : GoodIn wsX10_globeAct (wsV RX10 103 RX10 yX10_wipeOff wsX10_wipeOff) := goodIn_app (goodIn_of _ (by decide +kernel)) ggX10_globeAct_X10_wipeOff
set_option maxRecDepth 20000 in
theorem ggX10_globeAct_X10_move : GoodIn wsX10_globeAct wsX10_move := goodIn_r _ [21, 6, 7, 8, 9, 4, 10, 11, 12, 13, 22, 23, 24, 25, 39, 40, 41, 42, 43, 44, 45, 46, 47, 48, 49, 50, 51, 52, 53, 54, 55, 56, 57, 58] (by decide +kernel) (by decide +kernel)
set_option maxRecDepth 20000 in
theorem gX10_globeAct_X10_move : GoodIn wsX10_globeAct (wsV RX10 106 RX10 yX10_move wsX10_move) := goodIn_app (goodIn_of _ (by decide +kernel)) ggX10_globeAct_X10_move
set_option maxRecDepth 20000 in
theorem ggX10_globeAct_X10_drop : GoodIn wsX10_globeAct wsX10_drop := goodIn_r _ [29, 6, 7, 8, 9, 4, 10, 11, 12, 13, 39, 40, 41, 42, 43, 44, 45, 46, 47, 48, 49, 50, 51, 52, 53, 54, 55, 56, 57, 58] (by decide +kernel) (by decide +kernel)
set_option maxRecDepth 20000 in
theorem gX10_globeAct_X10_drop : GoodIn wsX10_globeAct (wsV RX10 109 RX10 yX10_drop wsX10_drop) := goodIn_app (goodIn_of _ (by decide +kernel)) ggX10_globeAct_X10_drop
set_option maxRecDepth 20000 in
theorem ggX10_globeAct_X10_shake : GoodIn wsX10_globeAct wsX10_shake := goodIn_r _ [33, 6, 34, 7, 8, 9, 4, 10, 11, 12, 13, 35, 36, 37, 38, 22, 23, 24, 25, 39, 40, 41, 42, 43, 44, 45, 46, 47, 48, 49, 50, 51, 52, 53, 54, 55, 56, 57, 58] (by decide +kernel) (by decide +kernel)
set_option maxRecDepth 20000 in
theorem gX10_globeAct_X10_shake : GoodIn wsX10_globeAct (wsV RX10 112 RX10 yX10_shake wsX10_shake) := goodIn_app (goodIn_of _ (by decide +kernel)) ggX10_globeAct_X10_shake
theorem dX10_globeAct_0 : decode cX10_globeAct 0 = .ok (.iload_n 2, 1) := by decide +kernel
theorem dX10_globeAct_1 : decode cX10_globeAct 1 = .ok (.lookupswitch 103 #[(35, 87), (43, 59), (47, 73), (61, 66), (62, 93), (94, 79)], 59) := by decide +kernel
theorem dX10_globeAct_60 : decode cX10_globeAct 60 = .ok (.aload_n 0, 1) := by decide +kernel
theorem dX10_globeAct_61 : decode cX10_globeAct 61 = .ok (.iload_n 1, 1) := by decide +kernel
theorem dX10_globeAct_62 : decode cX10_globeAct 62 = .ok (.iconst 1, 1) := by decide +kernel
theorem dX10_globeAct_63 : decode cX10_globeAct 63 = .ok (.invokevirtual 99, 3) := by decide +kernel
theorem dX10_globeAct_66 : decode cX10_globeAct 66 = .ok (.ireturn, 1) := by decide +kernel
theorem dX10_globeAct_67 : decode cX10_globeAct 67 = .ok (.aload_n 0, 1) := by decide +kernel
theorem dX10_globeAct_68 : decode cX10_globeAct 68 = .ok (.iload_n 1, 1) := by decide +kernel
theorem dX10_globeAct_69 : decode cX10_globeAct 69 = .ok (.iconst 0, 1) := by decide +kernel
theorem dX10_globeAct_70 : decode cX10_globeAct 70 = .ok (.invokevirtual 99, 3) := by decide +kernel
theorem dX10_globeAct_73 : decode cX10_globeAct 73 = .ok (.ireturn, 1) := by decide +kernel
theorem dX10_globeAct_74 : decode cX10_globeAct 74 = .ok (.aload_n 0, 1) := by decide +kernel
theorem dX10_globeAct_75 : decode cX10_globeAct 75 = .ok (.iload_n 1, 1) := by decide +kernel
theorem dX10_globeAct_76 : decode cX10_globeAct 76 = .ok (.invokevirtual 103, 3) := by decide +kernel
theorem dX10_globeAct_79 : decode cX10_globeAct 79 = .ok (.ireturn, 1) := by decide +kernel
theorem dX10_globeAct_80 : decode cX10_globeAct 80 = .ok (.aload_n 0, 1) := by decide +kernel
theorem dX10_globeAct_81 : decode cX10_globeAct 81 = .ok (.iload_n 1, 1) := by decide +kernel
theorem dX10_globeAct_82 : decode cX10_globeAct 82 = .ok (.bipush (-6), 2) := by decide +kernel
theorem dX10_globeAct_84 : decode cX10_globeAct 84 = .ok (.invokevirtual 106, 3) := by decide +kernel
theorem dX10_globeAct_87 : decode cX10_globeAct 87 = .ok (.ireturn, 1) := by decide +kernel
theorem dX10_globeAct_88 : decode cX10_globeAct 88 = .ok (.aload_n 0, 1) := by decide +kernel
theorem dX10_globeAct_89 : decode cX10_globeAct 89 = .ok (.iload_n 1, 1) := by decide +kernel
theorem dX10_globeAct_90 : decode cX10_globeAct 90 = .ok (.invokevirtual 109, 3) := by decide +kernel
theorem dX10_globeAct_93 : decode cX10_globeAct 93 = .ok (.ireturn, 1) := by decide +kernel
theorem dX10_globeAct_94 : decode cX10_globeAct 94 = .ok (.aload_n 0, 1) := by decide +kernel
theorem dX10_globeAct_95 : decode cX10_globeAct 95 = .ok (.iload_n 1, 1) := by decide +kernel
theorem dX10_globeAct_96 : decode cX10_globeAct 96 = .ok (.iload_n 3, 1) := by decide +kernel
theorem dX10_globeAct_97 : decode cX10_globeAct 97 = .ok (.bipush 65, 2) := by decide +kernel
theorem dX10_globeAct_99 : decode cX10_globeAct 99 = .ok (.isub, 1) := by decide +kernel
theorem dX10_globeAct_100 : decode cX10_globeAct 100 = .ok (.invokevirtual 106, 3) := by decide +kernel
theorem dX10_globeAct_103 : decode cX10_globeAct 103 = .ok (.ireturn, 1) := by decide +kernel
theorem dX10_globeAct_104 : decode cX10_globeAct 104 = .ok (.aload_n 0, 1) := by decide +kernel
theorem dX10_globeAct_105 : decode cX10_globeAct 105 = .ok (.iload_n 1, 1) := by decide +kernel
theorem dX10_globeAct_106 : decode cX10_globeAct 106 = .ok (.iload_n 2, 1) := by decide +kernel
theorem dX10_globeAct_107 : decode cX10_globeAct 107 = .ok (.bipush 48, 2) := by decide +kernel
theorem dX10_globeAct_109 : decode cX10_globeAct 109 = .ok (.isub, 1) := by decide +kernel
theorem dX10_globeAct_110 : decode cX10_globeAct 110 = .ok (.invokevirtual 112, 3) := by decide +kernel
theorem dX10_globeAct_113 : decode cX10_globeAct 113 = .ok (.ireturn, 1) := by decide +kernel
set_option maxRecDepth 20000 in
theorem ggX10_goReigns_X10_asNow : GoodIn wsX10_goReigns wsX10_asNow := goodIn_r _ [11, 12, 13, 5, 6, 64, 65, 66, 67, 68, 69, 70, 71, 72, 73, 74, 75, 76, 77, 78, 79, 80, 81, 82, 83] (by decide +kernel) (by decide +kernel)
set_option maxRecDepth 20000 in
theorem gX10_goReigns_X10_asNow : GoodIn wsX10_goReigns (wsV RX10 71 RX10 yX10_asNow wsX10_asNow) := goodIn_app (goodIn_of _ (by decide +kernel)) ggX10_goReigns_X10_asNow
set_option maxRecDepth 20000 in
theorem ggX10_goReigns_X10_freeOnes : GoodIn wsX10_goReigns wsX10_freeOnes := goodIn_r _ [17, 18, 19, 20, 10, 21, 12, 22, 23, 24, 25, 26, 27, 28, 64, 65, 66, 67, 68, 69, 70, 71, 72, 73, 74, 75, 76, 77, 78, 79, 80, 81, 82, 83] (by decide +kernel) (by decide +kernel)
set_option maxRecDepth 20000 in
theorem gX10_goReigns_X10_freeOnes : GoodIn wsX10_goReigns (wsV RX10 118 RX10 yX10_freeOnes wsX10_freeOnes) := goodIn_app (goodIn_of _ (by decide +kernel)) ggX10_goReigns_X10_freeOnes
set_option maxRecDepth 20000 in
theorem ggX10_goReigns_X10_endHour : GoodIn wsX10_goReigns wsX10_endHour := goodIn_r _ [32, 12, 33, 34, 18, 19, 20, 10, 21, 22, 23, 24, 64, 65, 66, 67, 68, 69, 70, 71, 72, 73, 74, 75, 76, 77, 78, 79, 80, 81, 82, 83] (by decide +kernel) (by decide +kernel)
set_option maxRecDepth 20000 in
theorem gX10_goReigns_X10_endHour : GoodIn wsX10_goReigns (wsV RX10 121 RX10 yX10_endHour wsX10_endHour) := goodIn_app (goodIn_of _ (by decide +kernel)) ggX10_goReigns_X10_endHour
set_option maxRecDepth 20000 in
theorem ggX10_goReigns_X10_globeAct : GoodIn wsX10_goReigns wsX10_globeAct := goodIn_r _ [38, 39, 40, 41, 10, 42, 12, 18, 19, 20, 21, 22, 23, 24, 43, 44, 45, 46, 47, 48, 49, 50, 51, 52, 53, 54, 55, 56, 57, 58, 59, 60, 61, 62, 63, 25, 26, 27, 28, 64, 65, 66, 67, 68, 69, 70, 71, 72, 73, 74, 75, 76, 77, 78, 79, 80, 81, 82, 83] (by decide +kernel) (by decide +kernel)
set_option maxRecDepth 20000 in
theorem gX10_goReigns_X10_globeAct : GoodIn wsX10_goReigns (wsV RX10 127 RX10 yX10_globeAct wsX10_globeAct) := goodIn_app (goodIn_of _ (by decide +kernel)) ggX10_goReigns_X10_globeAct
set_option maxRecDepth 20000 in
theorem ggX10_goReigns_X10_has : GoodIn wsX10_goReigns wsX10_has := goodIn_r _ [24] (by decide +kernel) (by decide +kernel)
set_option maxRecDepth 20000 in
theorem gX10_goReigns_X10_has : GoodIn wsX10_goReigns (va_wsS RX10 55 yX10_has wsX10_has) := goodIn_app (goodIn_of _ (by decide +kernel)) ggX10_goReigns_X10_has
theorem dX10_goReigns_0 : decode cX10_goReigns 0 = .ok (.aload_n 0, 1) := by decide +kernel
theorem dX10_goReigns_1 : decode cX10_goReigns 1 = .ok (.invokevirtual 71, 3) := by decide +kernel
theorem dX10_goReigns_4 : decode cX10_goReigns 4 = .ok (.aload_n 0, 1) := by decide +kernel
theorem dX10_goReigns_5 : decode cX10_goReigns 5 = .ok (.iconst 0, 1) := by decide +kernel
theorem dX10_goReigns_6 : decode cX10_goReigns 6 = .ok (.putfield 115, 3) := by decide +kernel
theorem dX10_goReigns_9 : decode cX10_goReigns 9 = .ok (.iconst 0, 1) := by decide +kernel
theorem dX10_goReigns_10 : decode cX10_goReigns 10 = .ok (.istore_n 1, 1) := by decide +kernel
theorem dX10_goReigns_11 : decode cX10_goReigns 11 = .ok (.iload_n 1, 1) := by decide +kernel
theorem dX10_goReigns_12 : decode cX10_goReigns 12 = .ok (.aload_n 0, 1) := by decide +kernel
theorem dX10_goReigns_13 : decode cX10_goReigns 13 = .ok (.getfield 77, 3) := by decide +kernel
theorem dX10_goReigns_16 : decode cX10_goReigns 16 = .ok (.if_icmp .ge 176, 3) := by decide +kernel
theorem dX10_goReigns_19 : decode cX10_goReigns 19 = .ok (.aload_n 0, 1) := by decide +kernel
theorem dX10_goReigns_20 : decode cX10_goReigns 20 = .ok (.invokevirtual 118, 3) := by decide +kernel
theorem dX10_goReigns_23 : decode cX10_goReigns 23 = .ok (.istore_n 2, 1) := by decide +kernel
theorem dX10_goReigns_24 : decode cX10_goReigns 24 = .ok (.aload_n 0, 1) := by decide +kernel
theorem dX10_goReigns_25 : decode cX10_goReigns 25 = .ok (.getfield 28, 3) := by decide +kernel
theorem dX10_goReigns_28 : decode cX10_goReigns 28 = .ok (.iload_n 1, 1) := by decide +kernel
theorem dX10_goReigns_29 : decode cX10_goReigns 29 = .ok (.iaload, 1) := by decide +kernel
theorem dX10_goReigns_30 : decode cX10_goReigns 30 = .ok (.istore_n 3, 1) := by decide +kernel
theorem dX10_goReigns_31 : decode cX10_goReigns 31 = .ok (.iload_n 3, 1) := by decide +kernel
theorem dX10_goReigns_32 : decode cX10_goReigns 32 = .ok (.bipush 46, 2) := by decide +kernel
theorem dX10_goReigns_34 : decode cX10_goReigns 34 = .ok (.if_icmp .ne 17, 3) := by decide +kernel
theorem dX10_goReigns_37 : decode cX10_goReigns 37 = .ok (.aload_n 0, 1) := by decide +kernel
theorem dX10_goReigns_38 : decode cX10_goReigns 38 = .ok (.aload_n 0, 1) := by decide +kernel
theorem dX10_goReigns_39 : decode cX10_goReigns 39 = .ok (.invokevirtual 121, 3) := by decide +kernel
theorem dX10_goReigns_42 : decode cX10_goReigns 42 = .ok (.putfield 124, 3) := by decide +kernel
theorem dX10_goReigns_45 : decode cX10_goReigns 45 = .ok (.iinc 1 1, 3) := by decide +kernel
theorem dX10_goReigns_48 : decode cX10_goReigns 48 = .ok (.goto 62, 3) := by decide +kernel
theorem dX10_goReigns_51 : decode cX10_goReigns 51 = .ok (.aload_n 0, 1) := by decide +kernel
theorem dX10_goReigns_52 : decode cX10_goReigns 52 = .ok (.getfield 28, 3) := by decide +kernel
theorem dX10_goReigns_55 : decode cX10_goReigns 55 = .ok (.iload_n 1, 1) := by decide +kernel
theorem dX10_goReigns_56 : decode cX10_goReigns 56 = .ok (.iconst 1, 1) := by decide +kernel
theorem dX10_goReigns_57 : decode cX10_goReigns 57 = .ok (.iadd, 1) := by decide +kernel
theorem dX10_goReigns_58 : decode cX10_goReigns 58 = .ok (.iaload, 1) := by decide +kernel
theorem dX10_goReigns_59 : decode cX10_goReigns 59 = .ok (.istore 4, 2) := by decide +kernel
theorem dX10_goReigns_61 : decode cX10_goReigns 61 = .ok (.aload_n 0, 1) := by decide +kernel
theorem dX10_goReigns_62 : decode cX10_goReigns 62 = .ok (.aload_n 0, 1) := by decide +kernel
theorem dX10_goReigns_63 : decode cX10_goReigns 63 = .ok (.iload_n 3, 1) := by decide +kernel
theorem dX10_goReigns_64 : decode cX10_goReigns 64 = .ok (.bipush 65, 2) := by decide +kernel
theorem dX10_goReigns_66 : decode cX10_goReigns 66 = .ok (.isub, 1) := by decide +kernel
theorem dX10_goReigns_67 : decode cX10_goReigns 67 = .ok (.iload 4, 2) := by decide +kernel
theorem dX10_goReigns_69 : decode cX10_goReigns 69 = .ok (.iload 4, 2) := by decide +kernel
theorem dX10_goReigns_71 : decode cX10_goReigns 71 = .ok (.bipush 62, 2) := by decide +kernel
theorem dX10_goReigns_73 : decode cX10_goReigns 73 = .ok (.if_icmp .ne 14, 3) := by decide +kernel
theorem dX10_goReigns_76 : decode cX10_goReigns 76 = .ok (.aload_n 0, 1) := by decide +kernel
theorem dX10_goReigns_77 : decode cX10_goReigns 77 = .ok (.getfield 28, 3) := by decide +kernel
theorem dX10_goReigns_80 : decode cX10_goReigns 80 = .ok (.iload_n 1, 1) := by decide +kernel
theorem dX10_goReigns_81 : decode cX10_goReigns 81 = .ok (.iconst 2, 1) := by decide +kernel
theorem dX10_goReigns_82 : decode cX10_goReigns 82 = .ok (.iadd, 1) := by decide +kernel
theorem dX10_goReigns_83 : decode cX10_goReigns 83 = .ok (.iaload, 1) := by decide +kernel
theorem dX10_goReigns_84 : decode cX10_goReigns 84 = .ok (.goto 5, 3) := by decide +kernel
theorem dX10_goReigns_87 : decode cX10_goReigns 87 = .ok (.bipush 65, 2) := by decide +kernel
theorem dX10_goReigns_89 : decode cX10_goReigns 89 = .ok (.invokevirtual 127, 3) := by decide +kernel
theorem dX10_goReigns_92 : decode cX10_goReigns 92 = .ok (.putfield 124, 3) := by decide +kernel
theorem dX10_goReigns_95 : decode cX10_goReigns 95 = .ok (.iload_n 1, 1) := by decide +kernel
theorem dX10_goReigns_96 : decode cX10_goReigns 96 = .ok (.iload 4, 2) := by decide +kernel
theorem dX10_goReigns_98 : decode cX10_goReigns 98 = .ok (.bipush 62, 2) := by decide +kernel
theorem dX10_goReigns_100 : decode cX10_goReigns 100 = .ok (.if_icmp .ne 7, 3) := by decide +kernel
theorem dX10_goReigns_103 : decode cX10_goReigns 103 = .ok (.iconst 3, 1) := by decide +kernel
theorem dX10_goReigns_104 : decode cX10_goReigns 104 = .ok (.goto 4, 3) := by decide +kernel
theorem dX10_goReigns_107 : decode cX10_goReigns 107 = .ok (.iconst 2, 1) := by decide +kernel
theorem dX10_goReigns_108 : decode cX10_goReigns 108 = .ok (.iadd, 1) := by decide +kernel
theorem dX10_goReigns_109 : decode cX10_goReigns 109 = .ok (.istore_n 1, 1) := by decide +kernel
theorem dX10_goReigns_110 : decode cX10_goReigns 110 = .ok (.aload_n 0, 1) := by decide +kernel
theorem dX10_goReigns_111 : decode cX10_goReigns 111 = .ok (.getfield 124, 3) := by decide +kernel
theorem dX10_goReigns_114 : decode cX10_goReigns 114 = .ok (.ifCond .le 8, 3) := by decide +kernel
theorem dX10_goReigns_117 : decode cX10_goReigns 117 = .ok (.aload_n 0, 1) := by decide +kernel
theorem dX10_goReigns_118 : decode cX10_goReigns 118 = .ok (.getfield 115, 3) := by decide +kernel
theorem dX10_goReigns_121 : decode cX10_goReigns 121 = .ok (.ireturn, 1) := by decide +kernel
theorem dX10_goReigns_122 : decode cX10_goReigns 122 = .ok (.aload_n 0, 1) := by decide +kernel
theorem dX10_goReigns_123 : decode cX10_goReigns 123 = .ok (.invokevirtual 118, 3) := by decide +kernel
theorem dX10_goReigns_126 : decode cX10_goReigns 126 = .ok (.iload_n 2, 1) := by decide +kernel
theorem dX10_goReigns_127 : decode cX10_goReigns 127 = .ok (.iconst (-1), 1) := by decide +kernel
theorem dX10_goReigns_128 : decode cX10_goReigns 128 = .ok (.ixor, 1) := by decide +kernel
theorem dX10_goReigns_129 : decode cX10_goReigns 129 = .ok (.iand, 1) := by decide +kernel
theorem dX10_goReigns_130 : decode cX10_goReigns 130 = .ok (.istore 4, 2) := by decide +kernel
theorem dX10_goReigns_132 : decode cX10_goReigns 132 = .ok (.iconst 0, 1) := by decide +kernel
theorem dX10_goReigns_133 : decode cX10_goReigns 133 = .ok (.istore 5, 2) := by decide +kernel
theorem dX10_goReigns_135 : decode cX10_goReigns 135 = .ok (.iload 5, 2) := by decide +kernel
theorem dX10_goReigns_137 : decode cX10_goReigns 137 = .ok (.bipush 8, 2) := by decide +kernel
theorem dX10_goReigns_139 : decode cX10_goReigns 139 = .ok (.if_icmp .ge 40, 3) := by decide +kernel
theorem dX10_goReigns_142 : decode cX10_goReigns 142 = .ok (.aload_n 0, 1) := by decide +kernel
theorem dX10_goReigns_143 : decode cX10_goReigns 143 = .ok (.getfield 87, 3) := by decide +kernel
theorem dX10_goReigns_146 : decode cX10_goReigns 146 = .ok (.ifCond .ge 33, 3) := by decide +kernel
theorem dX10_goReigns_149 : decode cX10_goReigns 149 = .ok (.iload 4, 2) := by decide +kernel
theorem dX10_goReigns_151 : decode cX10_goReigns 151 = .ok (.iload 5, 2) := by decide +kernel
theorem dX10_goReigns_153 : decode cX10_goReigns 153 = .ok (.invokestatic 55, 3) := by decide +kernel
theorem dX10_goReigns_156 : decode cX10_goReigns 156 = .ok (.ifCond .eq 17, 3) := by decide +kernel
theorem dX10_goReigns_159 : decode cX10_goReigns 159 = .ok (.aload_n 0, 1) := by decide +kernel
theorem dX10_goReigns_160 : decode cX10_goReigns 160 = .ok (.aload_n 0, 1) := by decide +kernel
theorem dX10_goReigns_161 : decode cX10_goReigns 161 = .ok (.getfield 115, 3) := by decide +kernel
theorem dX10_goReigns_164 : decode cX10_goReigns 164 = .ok (.putfield 87, 3) := by decide +kernel
theorem dX10_goReigns_167 : decode cX10_goReigns 167 = .ok (.aload_n 0, 1) := by decide +kernel
theorem dX10_goReigns_168 : decode cX10_goReigns 168 = .ok (.iload 5, 2) := by decide +kernel
theorem dX10_goReigns_170 : decode cX10_goReigns 170 = .ok (.putfield 90, 3) := by decide +kernel
theorem dX10_goReigns_173 : decode cX10_goReigns 173 = .ok (.iinc 5 1, 3) := by decide +kernel
theorem dX10_goReigns_176 : decode cX10_goReigns 176 = .ok (.goto (-41), 3) := by decide +kernel
theorem dX10_goReigns_179 : decode cX10_goReigns 179 = .ok (.aload_n 0, 1) := by decide +kernel
theorem dX10_goReigns_180 : decode cX10_goReigns 180 = .ok (.dup, 1) := by decide +kernel
theorem dX10_goReigns_181 : decode cX10_goReigns 181 = .ok (.getfield 115, 3) := by decide +kernel
theorem dX10_goReigns_184 : decode cX10_goReigns 184 = .ok (.iconst 1, 1) := by decide +kernel
theorem dX10_goReigns_185 : decode cX10_goReigns 185 = .ok (.iadd, 1) := by decide +kernel
theorem dX10_goReigns_186 : decode cX10_goReigns 186 = .ok (.putfield 115, 3) := by decide +kernel
theorem dX10_goReigns_189 : decode cX10_goReigns 189 = .ok (.goto (-178), 3) := by decide +kernel
theorem dX10_goReigns_192 : decode cX10_goReigns 192 = .ok (.bipush (-6), 2) := by decide +kernel
theorem dX10_goReigns_194 : decode cX10_goReigns 194 = .ok (.ireturn, 1) := by decide +kernel
set_option maxRecDepth 20000 in
theorem ggX10_judge_X10_in : GoodIn wsX10_judge wsX10_in := goodIn_r _ [5] (by decide +kernel) (by decide +kernel)
set_option maxRecDepth 20000 in
theorem gX10_judge_X10_in : GoodIn wsX10_judge (va_wsS RX10 51 yX10_in wsX10_in) := goodIn_app (goodIn_of _ (by decide +kernel)) ggX10_judge_X10_in
set_option maxRecDepth 20000 in
theorem ggX10_judge_X10_faultOf : GoodIn wsX10_judge wsX10_faultOf := goodIn_r _ [9, 10, 11, 2, 3, 4, 5, 12, 13, 14, 78, 79, 80, 81, 82, 83, 84, 85, 86, 87, 88, 89, 90, 91, 92, 93, 94, 95, 96, 97] (by decide +kernel) (by decide +kernel)
set_option maxRecDepth 20000 in
theorem gX10_judge_X10_faultOf : GoodIn wsX10_judge (wsV RX10 83 RX10 yX10_faultOf wsX10_faultOf) := goodIn_app (goodIn_of _ (by decide +kernel)) ggX10_judge_X10_faultOf
set_option maxRecDepth 20000 in
theorem ggX10_judge_X10_goReigns : GoodIn wsX10_judge wsX10_goReigns := goodIn_r _ [18, 19, 10, 11, 1, 20, 21, 22, 23, 24, 4, 25, 26, 27, 28, 29, 30, 31, 32, 33, 34, 35, 36, 37, 38, 39, 40, 41, 42, 43, 44, 45, 46, 47, 48, 49, 50, 51, 52, 53, 54, 55, 56, 57, 58, 59, 60, 61, 62, 63, 64, 65, 66, 67, 68, 69, 70, 71, 72, 73, 74, 75, 76, 77, 78, 79, 80, 81, 82, 83, 84, 85, 86, 87, 88, 89, 90, 91, 92, 93, 94, 95, 96, 97] (by decide +kernel) (by decide +kernel)
set_option maxRecDepth 20000 in
theorem gX10_judge_X10_goReigns : GoodIn wsX10_judge (wsV RX10 131 RX10 yX10_goReigns wsX10_goReigns) := goodIn_app (goodIn_of _ (by decide +kernel)) ggX10_judge_X10_goReigns
theorem dX10_judge_0 : decode cX10_judge 0 = .ok (.iload_n 1, 1) := by decide +kernel
theorem dX10_judge_1 : decode cX10_judge 1 = .ok (.iconst 0, 1) := by decide +kernel
theorem dX10_judge_2 : decode cX10_judge 2 = .ok (.iconst 1, 1) := by decide +kernel
theorem dX10_judge_3 : decode cX10_judge 3 = .ok (.invokestatic 51, 3) := by decide +kernel
theorem dX10_judge_6 : decode cX10_judge 6 = .ok (.ifCond .ne 6, 3) := by decide +kernel
theorem dX10_judge_9 : decode cX10_judge 9 = .ok (.bipush (-2), 2) := by decide +kernel
theorem dX10_judge_11 : decode cX10_judge 11 = .ok (.ireturn, 1) := by decide +kernel
theorem dX10_judge_12 : decode cX10_judge 12 = .ok (.aload_n 0, 1) := by decide +kernel
theorem dX10_judge_13 : decode cX10_judge 13 = .ok (.invokevirtual 83, 3) := by decide +kernel
theorem dX10_judge_16 : decode cX10_judge 16 = .ok (.ifCond .lt 6, 3) := by decide +kernel
theorem dX10_judge_19 : decode cX10_judge 19 = .ok (.bipush (-5), 2) := by decide +kernel
theorem dX10_judge_21 : decode cX10_judge 21 = .ok (.ireturn, 1) := by decide +kernel
theorem dX10_judge_22 : decode cX10_judge 22 = .ok (.aload_n 0, 1) := by decide +kernel
theorem dX10_judge_23 : decode cX10_judge 23 = .ok (.invokevirtual 131, 3) := by decide +kernel
theorem dX10_judge_26 : decode cX10_judge 26 = .ok (.istore_n 2, 1) := by decide +kernel
theorem dX10_judge_27 : decode cX10_judge 27 = .ok (.iload_n 2, 1) := by decide +kernel
theorem dX10_judge_28 : decode cX10_judge 28 = .ok (.ifCond .lt 7, 3) := by decide +kernel
theorem dX10_judge_31 : decode cX10_judge 31 = .ok (.iload_n 1, 1) := by decide +kernel
theorem dX10_judge_32 : decode cX10_judge 32 = .ok (.ifCond .ne 7, 3) := by decide +kernel
theorem dX10_judge_35 : decode cX10_judge 35 = .ok (.iload_n 2, 1) := by decide +kernel
theorem dX10_judge_36 : decode cX10_judge 36 = .ok (.goto 7, 3) := by decide +kernel
theorem dX10_judge_39 : decode cX10_judge 39 = .ok (.aload_n 0, 1) := by decide +kernel
theorem dX10_judge_40 : decode cX10_judge 40 = .ok (.getfield 124, 3) := by decide +kernel
theorem dX10_judge_43 : decode cX10_judge 43 = .ok (.ireturn, 1) := by decide +kernel
set_option maxRecDepth 20000 in
theorem ggX10_barOfReigns_X10_faultOf : GoodIn wsX10_barOfReigns wsX10_faultOf := goodIn_r _ [5, 6, 7, 8, 9, 4, 10, 11, 12, 13, 78, 79, 80, 81, 82, 83, 84, 85, 86, 87, 88, 89, 90, 91, 92, 93, 94, 95, 96, 97] (by decide +kernel) (by decide +kernel)
set_option maxRecDepth 20000 in
theorem gX10_barOfReigns_X10_faultOf : GoodIn wsX10_barOfReigns (wsV RX10 83 RX10 yX10_faultOf wsX10_faultOf) := goodIn_app (goodIn_of _ (by decide +kernel)) ggX10_barOfReigns_X10_faultOf
set_option maxRecDepth 20000 in
theorem ggX10_barOfReigns_X10_goReigns : GoodIn wsX10_barOfReigns wsX10_goReigns := goodIn_r _ [17, 18, 6, 7, 19, 20, 21, 22, 23, 24, 4, 25, 26, 27, 28, 29, 30, 31, 32, 33, 34, 35, 36, 37, 38, 39, 40, 41, 42, 43, 44, 45, 46, 47, 48, 49, 50, 51, 52, 53, 54, 55, 56, 57, 58, 59, 60, 61, 62, 63, 64, 65, 66, 67, 68, 69, 70, 71, 72, 73, 74, 75, 76, 77, 78, 79, 80, 81, 82, 83, 84, 85, 86, 87, 88, 89, 90, 91, 92, 93, 94, 95, 96, 97] (by decide +kernel) (by decide +kernel)
set_option maxRecDepth 20000 in
theorem gX10_barOfReigns_X10_goReigns : GoodIn wsX10_barOfReigns (wsV RX10 131 RX10 yX10_goReigns wsX10_goReigns) := goodIn_app (goodIn_of _ (by decide +kernel)) ggX10_barOfReigns_X10_goReigns
theorem dX10_barOfReigns_0 : decode cX10_barOfReigns 0 = .ok (.aload_n 0, 1) := by decide +kernel
theorem dX10_barOfReigns_1 : decode cX10_barOfReigns 1 = .ok (.invokevirtual 83, 3) := by decide +kernel
theorem dX10_barOfReigns_4 : decode cX10_barOfReigns 4 = .ok (.ifCond .ge 10, 3) := by decide +kernel
theorem dX10_barOfReigns_7 : decode cX10_barOfReigns 7 = .ok (.aload_n 0, 1) := by decide +kernel
theorem dX10_barOfReigns_8 : decode cX10_barOfReigns 8 = .ok (.invokevirtual 131, 3) := by decide +kernel
theorem dX10_barOfReigns_11 : decode cX10_barOfReigns 11 = .ok (.ifCond .lt 8, 3) := by decide +kernel
theorem dX10_barOfReigns_14 : decode cX10_barOfReigns 14 = .ok (.bipush (-5), 2) := by decide +kernel
theorem dX10_barOfReigns_16 : decode cX10_barOfReigns 16 = .ok (.goto 4, 3) := by decide +kernel
theorem dX10_barOfReigns_19 : decode cX10_barOfReigns 19 = .ok (.iconst 0, 1) := by decide +kernel
theorem dX10_barOfReigns_20 : decode cX10_barOfReigns 20 = .ok (.ireturn, 1) := by decide +kernel
set_option maxRecDepth 20000 in
theorem ggX10_done_X10_barOfReigns : GoodIn wsX10_done wsX10_barOfReigns := goodIn_r _ [9, 10, 11, 12, 8, 13, 3, 14, 15, 16, 17, 18, 19, 20, 21, 22, 23, 24, 4, 25, 26, 27, 28, 29, 30, 31, 2, 1, 32, 33, 34, 35, 36, 37, 38, 39, 40, 41, 42, 43, 44, 45, 46, 47, 48, 49, 50, 51, 52, 53, 54, 55, 56, 57, 58, 59, 60, 61, 62, 63, 64, 65, 66, 67, 68, 69, 70, 71, 72, 73, 74, 75, 76, 77, 78, 79, 80, 81, 82, 83, 84, 85, 86, 87, 88, 89, 90, 91, 92, 93, 94, 95, 96, 97, 98, 99, 100, 101] (by decide +kernel) (by decide +kernel)
set_option maxRecDepth 20000 in
theorem gX10_done_X10_barOfReigns : GoodIn wsX10_done (wsV RX10 134 RX10 yX10_barOfReigns wsX10_barOfReigns) := goodIn_app (goodIn_of _ (by decide +kernel)) ggX10_done_X10_barOfReigns
theorem dX10_done_0 : decode cX10_done 0 = .ok (.aload_n 0, 1) := by decide +kernel
theorem dX10_done_1 : decode cX10_done 1 = .ok (.invokevirtual 134, 3) := by decide +kernel
theorem dX10_done_4 : decode cX10_done 4 = .ok (.ifCond .ge 6, 3) := by decide +kernel
theorem dX10_done_7 : decode cX10_done 7 = .ok (.bipush (-5), 2) := by decide +kernel
theorem dX10_done_9 : decode cX10_done 9 = .ok (.ireturn, 1) := by decide +kernel
theorem dX10_done_10 : decode cX10_done 10 = .ok (.iconst 0, 1) := by decide +kernel
theorem dX10_done_11 : decode cX10_done 11 = .ok (.istore_n 1, 1) := by decide +kernel
theorem dX10_done_12 : decode cX10_done 12 = .ok (.iload_n 1, 1) := by decide +kernel
theorem dX10_done_13 : decode cX10_done 13 = .ok (.bipush 43, 2) := by decide +kernel
theorem dX10_done_15 : decode cX10_done 15 = .ok (.if_icmp .ge 21, 3) := by decide +kernel
theorem dX10_done_18 : decode cX10_done 18 = .ok (.aload_n 0, 1) := by decide +kernel
theorem dX10_done_19 : decode cX10_done 19 = .ok (.getfield 7, 3) := by decide +kernel
theorem dX10_done_22 : decode cX10_done 22 = .ok (.iload_n 1, 1) := by decide +kernel
theorem dX10_done_23 : decode cX10_done 23 = .ok (.aload_n 0, 1) := by decide +kernel
theorem dX10_done_24 : decode cX10_done 24 = .ok (.getfield 13, 3) := by decide +kernel
theorem dX10_done_27 : decode cX10_done 27 = .ok (.iload_n 1, 1) := by decide +kernel
theorem dX10_done_28 : decode cX10_done 28 = .ok (.iaload, 1) := by decide +kernel
theorem dX10_done_29 : decode cX10_done 29 = .ok (.iastore, 1) := by decide +kernel
theorem dX10_done_30 : decode cX10_done 30 = .ok (.iinc 1 1, 3) := by decide +kernel
theorem dX10_done_33 : decode cX10_done 33 = .ok (.goto (-21), 3) := by decide +kernel
theorem dX10_done_36 : decode cX10_done 36 = .ok (.aload_n 0, 1) := by decide +kernel
theorem dX10_done_37 : decode cX10_done 37 = .ok (.iconst 0, 1) := by decide +kernel
theorem dX10_done_38 : decode cX10_done 38 = .ok (.putfield 77, 3) := by decide +kernel
theorem dX10_done_41 : decode cX10_done 41 = .ok (.aload_n 0, 1) := by decide +kernel
theorem dX10_done_42 : decode cX10_done 42 = .ok (.getfield 115, 3) := by decide +kernel
theorem dX10_done_45 : decode cX10_done 45 = .ok (.ireturn, 1) := by decide +kernel
set_option maxRecDepth 20000 in
theorem ggX10_behind_X10_isThere : GoodIn wsX10_behind wsX10_isThere := goodIn_r _ [6, 7, 8, 9, 5, 10, 11, 12, 13, 86, 87, 88, 89, 90, 91, 92, 93, 94, 95, 96, 97, 98, 99, 100, 101, 102, 103, 104, 105] (by decide +kernel) (by decide +kernel)
set_option maxRecDepth 20000 in
theorem gX10_behind_X10_isThere : GoodIn wsX10_behind (wsV RX10 59 RX10 yX10_isThere wsX10_isThere) := goodIn_app (goodIn_of _ (by decide +kernel)) ggX10_behind_X10_isThere
set_option maxRecDepth 20000 in
theorem ggX10_behind_X10_in : GoodIn wsX10_behind wsX10_in := goodIn_r _ [10] (by decide +kernel) (by decide +kernel)
set_option maxRecDepth 20000 in
theorem gX10_behind_X10_in : GoodIn wsX10_behind (va_wsS RX10 51 yX10_in wsX10_in) := goodIn_app (goodIn_of _ (by decide +kernel)) ggX10_behind_X10_in
set_option maxRecDepth 20000 in
theorem ggX10_behind_X10_barOfReigns : GoodIn wsX10_behind wsX10_barOfReigns := goodIn_r _ [17, 18, 19, 20, 5, 21, 22, 23, 8, 9, 10, 24, 25, 26, 27, 28, 29, 30, 31, 32, 33, 34, 35, 36, 37, 38, 1, 7, 39, 40, 41, 42, 43, 44, 45, 46, 11, 12, 13, 47, 48, 49, 50, 51, 52, 53, 54, 55, 56, 57, 58, 59, 60, 61, 62, 63, 64, 65, 66, 67, 68, 69, 70, 71, 72, 73, 74, 75, 76, 77, 78, 79, 80, 81, 82, 83, 84, 85, 86, 87, 88, 89, 90, 91, 92, 93, 94, 95, 96, 97, 98, 99, 100, 101, 102, 103, 104, 105] (by decide +kernel) (by decide +kernel)
set_option maxRecDepth 20000 in
theorem gX10_behind_X10_barOfReigns : GoodIn wsX10_behind (wsV RX10 134 RX10 yX10_barOfReigns wsX10_barOfReigns) := goodIn_app (goodIn_of _ (by decide +kernel)) ggX10_behind_X10_barOfReigns
set_option maxRecDepth 20000 in
theorem ggX10_behind_X10_stands : GoodIn wsX10_behind wsX10_stands := goodIn_r _ [46, 1, 11, 12, 5, 13, 86, 87, 88, 89, 90, 91, 92, 93, 94, 95, 96, 97, 98, 99, 100, 101, 102, 103, 104, 105] (by decide +kernel) (by decide +kernel)
set_option maxRecDepth 20000 in
theorem gX10_behind_X10_stands : GoodIn wsX10_behind (wsV RX10 93 RX10 yX10_stands wsX10_stands) := goodIn_app (goodIn_of _ (by decide +kernel)) ggX10_behind_X10_stands
theorem dX10_behind_0 : decode cX10_behind 0 = .ok (.aload_n 0, 1) := by decide +kernel
theorem dX10_behind_1 : decode cX10_behind 1 = .ok (.iload_n 1, 1) := by decide +kernel
theorem dX10_behind_2 : decode cX10_behind 2 = .ok (.invokevirtual 59, 3) := by decide +kernel
theorem dX10_behind_5 : decode cX10_behind 5 = .ok (.ifCond .ne 5, 3) := by decide +kernel
theorem dX10_behind_8 : decode cX10_behind 8 = .ok (.iconst (-1), 1) := by decide +kernel
theorem dX10_behind_9 : decode cX10_behind 9 = .ok (.ireturn, 1) := by decide +kernel
theorem dX10_behind_10 : decode cX10_behind 10 = .ok (.iload_n 2, 1) := by decide +kernel
theorem dX10_behind_11 : decode cX10_behind 11 = .ok (.iconst 0, 1) := by decide +kernel
theorem dX10_behind_12 : decode cX10_behind 12 = .ok (.iconst 3, 1) := by decide +kernel
theorem dX10_behind_13 : decode cX10_behind 13 = .ok (.invokestatic 51, 3) := by decide +kernel
theorem dX10_behind_16 : decode cX10_behind 16 = .ok (.ifCond .ne 6, 3) := by decide +kernel
theorem dX10_behind_19 : decode cX10_behind 19 = .ok (.bipush (-2), 2) := by decide +kernel
theorem dX10_behind_21 : decode cX10_behind 21 = .ok (.ireturn, 1) := by decide +kernel
theorem dX10_behind_22 : decode cX10_behind 22 = .ok (.aload_n 0, 1) := by decide +kernel
theorem dX10_behind_23 : decode cX10_behind 23 = .ok (.invokevirtual 134, 3) := by decide +kernel
theorem dX10_behind_26 : decode cX10_behind 26 = .ok (.ifCond .ge 6, 3) := by decide +kernel
theorem dX10_behind_29 : decode cX10_behind 29 = .ok (.bipush (-5), 2) := by decide +kernel
theorem dX10_behind_31 : decode cX10_behind 31 = .ok (.ireturn, 1) := by decide +kernel
theorem dX10_behind_32 : decode cX10_behind 32 = .ok (.aload_n 0, 1) := by decide +kernel
theorem dX10_behind_33 : decode cX10_behind 33 = .ok (.iload_n 1, 1) := by decide +kernel
theorem dX10_behind_34 : decode cX10_behind 34 = .ok (.invokevirtual 93, 3) := by decide +kernel
theorem dX10_behind_37 : decode cX10_behind 37 = .ok (.ifCond .ne 6, 3) := by decide +kernel
theorem dX10_behind_40 : decode cX10_behind 40 = .ok (.bipush (-6), 2) := by decide +kernel
theorem dX10_behind_42 : decode cX10_behind 42 = .ok (.ireturn, 1) := by decide +kernel
theorem dX10_behind_43 : decode cX10_behind 43 = .ok (.iload_n 2, 1) := by decide +kernel
theorem dX10_behind_44 : decode cX10_behind 44 = .ok (.ifCond .ne 15, 3) := by decide +kernel
theorem dX10_behind_47 : decode cX10_behind 47 = .ok (.aload_n 0, 1) := by decide +kernel
theorem dX10_behind_48 : decode cX10_behind 48 = .ok (.getfield 13, 3) := by decide +kernel
theorem dX10_behind_51 : decode cX10_behind 51 = .ok (.bipush 8, 2) := by decide +kernel
theorem dX10_behind_53 : decode cX10_behind 53 = .ok (.iload_n 1, 1) := by decide +kernel
theorem dX10_behind_54 : decode cX10_behind 54 = .ok (.iadd, 1) := by decide +kernel
theorem dX10_behind_55 : decode cX10_behind 55 = .ok (.iaload, 1) := by decide +kernel
theorem dX10_behind_56 : decode cX10_behind 56 = .ok (.goto 28, 3) := by decide +kernel
theorem dX10_behind_59 : decode cX10_behind 59 = .ok (.iload_n 2, 1) := by decide +kernel
theorem dX10_behind_60 : decode cX10_behind 60 = .ok (.iconst 1, 1) := by decide +kernel
theorem dX10_behind_61 : decode cX10_behind 61 = .ok (.if_icmp .ne 12, 3) := by decide +kernel
theorem dX10_behind_64 : decode cX10_behind 64 = .ok (.aload_n 0, 1) := by decide +kernel
theorem dX10_behind_65 : decode cX10_behind 65 = .ok (.getfield 13, 3) := by decide +kernel
theorem dX10_behind_68 : decode cX10_behind 68 = .ok (.iload_n 1, 1) := by decide +kernel
theorem dX10_behind_69 : decode cX10_behind 69 = .ok (.iaload, 1) := by decide +kernel
theorem dX10_behind_70 : decode cX10_behind 70 = .ok (.goto 14, 3) := by decide +kernel
theorem dX10_behind_73 : decode cX10_behind 73 = .ok (.aload_n 0, 1) := by decide +kernel
theorem dX10_behind_74 : decode cX10_behind 74 = .ok (.getfield 13, 3) := by decide +kernel
theorem dX10_behind_77 : decode cX10_behind 77 = .ok (.bipush 8, 2) := by decide +kernel
theorem dX10_behind_79 : decode cX10_behind 79 = .ok (.iload_n 2, 1) := by decide +kernel
theorem dX10_behind_80 : decode cX10_behind 80 = .ok (.imul, 1) := by decide +kernel
theorem dX10_behind_81 : decode cX10_behind 81 = .ok (.iload_n 1, 1) := by decide +kernel
theorem dX10_behind_82 : decode cX10_behind 82 = .ok (.iadd, 1) := by decide +kernel
theorem dX10_behind_83 : decode cX10_behind 83 = .ok (.iaload, 1) := by decide +kernel
theorem dX10_behind_84 : decode cX10_behind 84 = .ok (.ireturn, 1) := by decide +kernel
set_option maxRecDepth 20000 in
theorem ggX10_then_X10_in : GoodIn wsX10_then wsX10_in := goodIn_r _ [7] (by decide +kernel) (by decide +kernel)
set_option maxRecDepth 20000 in
theorem gX10_then_X10_in : GoodIn wsX10_then (va_wsS RX10 51 yX10_in wsX10_in) := goodIn_app (goodIn_of _ (by decide +kernel)) ggX10_then_X10_in
set_option maxRecDepth 20000 in
theorem ggX10_then_X10_barOfReigns : GoodIn wsX10_then wsX10_barOfReigns := goodIn_r _ [11, 12, 13, 14, 6, 15, 16, 17, 4, 5, 7, 18, 19, 20, 21, 22, 23, 24, 25, 26, 2, 3, 27, 28, 29, 30, 1, 31, 32, 33, 34, 35, 36, 37, 38, 39, 40, 41, 42, 43, 44, 45, 46, 47, 48, 49, 50, 51, 52, 53, 54, 55, 56, 57, 58, 59, 60, 61, 62, 63, 64, 65, 66, 67, 68, 69, 70, 71, 72, 73, 74, 75, 76, 77, 78, 79, 80, 81, 86, 87, 88, 89, 90, 91, 92, 93, 94, 95, 96, 97, 98, 99, 100, 101, 102, 103, 104, 105] (by decide +kernel) (by decide +kernel)
set_option maxRecDepth 20000 in
theorem gX10_then_X10_barOfReigns : GoodIn wsX10_then (wsV RX10 134 RX10 yX10_barOfReigns wsX10_barOfReigns) := goodIn_app (goodIn_of _ (by decide +kernel)) ggX10_then_X10_barOfReigns
set_option maxRecDepth 20000 in
theorem ggX10_then_X10_snow : GoodIn wsX10_then wsX10_snow := goodIn_r _ [85, 1, 36, 37, 38, 6, 39, 40, 41, 42, 86, 87, 88, 89, 90, 91, 92, 93, 94, 95, 96, 97, 98, 99, 100, 101, 102, 103, 104, 105] (by decide +kernel) (by decide +kernel)
set_option maxRecDepth 20000 in
theorem gX10_then_X10_snow : GoodIn wsX10_then (wsV RX10 137 RX10 yX10_snow wsX10_snow) := goodIn_app (goodIn_of _ (by decide +kernel)) ggX10_then_X10_snow
set_option maxRecDepth 20000 in
theorem ggX10_then_X10_freeOnes : GoodIn wsX10_then wsX10_freeOnes := goodIn_r _ [35, 36, 37, 38, 6, 39, 1, 40, 41, 42, 43, 44, 45, 46, 86, 87, 88, 89, 90, 91, 92, 93, 94, 95, 96, 97, 98, 99, 100, 101, 102, 103, 104, 105] (by decide +kernel) (by decide +kernel)
set_option maxRecDepth 20000 in
theorem gX10_then_X10_freeOnes : GoodIn wsX10_then (wsV RX10 118 RX10 yX10_freeOnes wsX10_freeOnes) := goodIn_app (goodIn_of _ (by decide +kernel)) ggX10_then_X10_freeOnes
theorem dX10_then_0 : decode cX10_then 0 = .ok (.iload_n 1, 1) := by decide +kernel
theorem dX10_then_1 : decode cX10_then 1 = .ok (.iconst 0, 1) := by decide +kernel
theorem dX10_then_2 : decode cX10_then 2 = .ok (.iconst 5, 1) := by decide +kernel
theorem dX10_then_3 : decode cX10_then 3 = .ok (.invokestatic 51, 3) := by decide +kernel
theorem dX10_then_6 : decode cX10_then 6 = .ok (.ifCond .ne 6, 3) := by decide +kernel
theorem dX10_then_9 : decode cX10_then 9 = .ok (.bipush (-2), 2) := by decide +kernel
theorem dX10_then_11 : decode cX10_then 11 = .ok (.ireturn, 1) := by decide +kernel
theorem dX10_then_12 : decode cX10_then 12 = .ok (.aload_n 0, 1) := by decide +kernel
theorem dX10_then_13 : decode cX10_then 13 = .ok (.invokevirtual 134, 3) := by decide +kernel
theorem dX10_then_16 : decode cX10_then 16 = .ok (.ifCond .ge 6, 3) := by decide +kernel
theorem dX10_then_19 : decode cX10_then 19 = .ok (.bipush (-5), 2) := by decide +kernel
theorem dX10_then_21 : decode cX10_then 21 = .ok (.ireturn, 1) := by decide +kernel
theorem dX10_then_22 : decode cX10_then 22 = .ok (.iload_n 1, 1) := by decide +kernel
theorem dX10_then_23 : decode cX10_then 23 = .ok (.tableswitch 49 0 3 #[29, 34, 39, 39], 29) := by decide +kernel
theorem dX10_then_52 : decode cX10_then 52 = .ok (.aload_n 0, 1) := by decide +kernel
theorem dX10_then_53 : decode cX10_then 53 = .ok (.invokevirtual 137, 3) := by decide +kernel
theorem dX10_then_56 : decode cX10_then 56 = .ok (.ireturn, 1) := by decide +kernel
theorem dX10_then_57 : decode cX10_then 57 = .ok (.aload_n 0, 1) := by decide +kernel
theorem dX10_then_58 : decode cX10_then 58 = .ok (.invokevirtual 118, 3) := by decide +kernel
theorem dX10_then_61 : decode cX10_then 61 = .ok (.ireturn, 1) := by decide +kernel
theorem dX10_then_62 : decode cX10_then 62 = .ok (.aload_n 0, 1) := by decide +kernel
theorem dX10_then_63 : decode cX10_then 63 = .ok (.getfield 13, 3) := by decide +kernel
theorem dX10_then_66 : decode cX10_then 66 = .ok (.bipush 39, 2) := by decide +kernel
theorem dX10_then_68 : decode cX10_then 68 = .ok (.iload_n 1, 1) := by decide +kernel
theorem dX10_then_69 : decode cX10_then 69 = .ok (.iadd, 1) := by decide +kernel
theorem dX10_then_70 : decode cX10_then 70 = .ok (.iaload, 1) := by decide +kernel
theorem dX10_then_71 : decode cX10_then 71 = .ok (.ireturn, 1) := by decide +kernel
theorem dX10_then_72 : decode cX10_then 72 = .ok (.iload_n 1, 1) := by decide +kernel
theorem dX10_then_73 : decode cX10_then 73 = .ok (.iconst 4, 1) := by decide +kernel
theorem dX10_then_74 : decode cX10_then 74 = .ok (.if_icmp .ne 10, 3) := by decide +kernel
theorem dX10_then_77 : decode cX10_then 77 = .ok (.aload_n 0, 1) := by decide +kernel
theorem dX10_then_78 : decode cX10_then 78 = .ok (.getfield 87, 3) := by decide +kernel
theorem dX10_then_81 : decode cX10_then 81 = .ok (.goto 7, 3) := by decide +kernel
theorem dX10_then_84 : decode cX10_then 84 = .ok (.aload_n 0, 1) := by decide +kernel
theorem dX10_then_85 : decode cX10_then 85 = .ok (.getfield 90, 3) := by decide +kernel
theorem dX10_then_88 : decode cX10_then 88 = .ok (.ireturn, 1) := by decide +kernel
set_option maxRecDepth 20000 in
theorem ggX10_look_X10_isThere : GoodIn wsX10_look wsX10_isThere := goodIn_r _ [6, 1, 7, 8, 5, 9, 10, 11, 12, 13, 14, 15, 16, 17, 18, 19, 20, 21, 22, 23, 24, 25, 26, 27, 28, 29, 30, 31, 32] (by decide +kernel) (by decide +kernel)
set_option maxRecDepth 20000 in
theorem gX10_look_X10_isThere : GoodIn wsX10_look (wsV RX10 59 RX10 yX10_isThere wsX10_isThere) := goodIn_app (goodIn_of _ (by decide +kernel)) ggX10_look_X10_isThere
set_option maxRecDepth 20000 in
theorem ggX10_look_X10_in : GoodIn wsX10_look wsX10_in := goodIn_r _ [9] (by decide +kernel) (by decide +kernel)
set_option maxRecDepth 20000 in
theorem gX10_look_X10_in : GoodIn wsX10_look (va_wsS RX10 51 yX10_in wsX10_in) := goodIn_app (goodIn_of _ (by decide +kernel)) ggX10_look_X10_in
theorem dX10_look_0 : decode cX10_look 0 = .ok (.aload_n 0, 1) := by decide +kernel
theorem dX10_look_1 : decode cX10_look 1 = .ok (.iload_n 1, 1) := by decide +kernel
theorem dX10_look_2 : decode cX10_look 2 = .ok (.invokevirtual 59, 3) := by decide +kernel
theorem dX10_look_5 : decode cX10_look 5 = .ok (.ifCond .ne 5, 3) := by decide +kernel
theorem dX10_look_8 : decode cX10_look 8 = .ok (.iconst (-1), 1) := by decide +kernel
theorem dX10_look_9 : decode cX10_look 9 = .ok (.ireturn, 1) := by decide +kernel
theorem dX10_look_10 : decode cX10_look 10 = .ok (.iload_n 2, 1) := by decide +kernel
theorem dX10_look_11 : decode cX10_look 11 = .ok (.iconst 0, 1) := by decide +kernel
theorem dX10_look_12 : decode cX10_look 12 = .ok (.iconst 1, 1) := by decide +kernel
theorem dX10_look_13 : decode cX10_look 13 = .ok (.invokestatic 51, 3) := by decide +kernel
theorem dX10_look_16 : decode cX10_look 16 = .ok (.ifCond .ne 6, 3) := by decide +kernel
theorem dX10_look_19 : decode cX10_look 19 = .ok (.bipush (-2), 2) := by decide +kernel
theorem dX10_look_21 : decode cX10_look 21 = .ok (.ireturn, 1) := by decide +kernel
theorem dX10_look_22 : decode cX10_look 22 = .ok (.aload_n 0, 1) := by decide +kernel
theorem dX10_look_23 : decode cX10_look 23 = .ok (.getfield 7, 3) := by decide +kernel
theorem dX10_look_26 : decode cX10_look 26 = .ok (.bipush 8, 2) := by decide +kernel
theorem dX10_look_28 : decode cX10_look 28 = .ok (.iload_n 1, 1) := by decide +kernel
theorem dX10_look_29 : decode cX10_look 29 = .ok (.iadd, 1) := by decide +kernel
theorem dX10_look_30 : decode cX10_look 30 = .ok (.iaload, 1) := by decide +kernel
theorem dX10_look_31 : decode cX10_look 31 = .ok (.istore_n 3, 1) := by decide +kernel
theorem dX10_look_32 : decode cX10_look 32 = .ok (.iconst (-1), 1) := by decide +kernel
theorem dX10_look_33 : decode cX10_look 33 = .ok (.istore 4, 2) := by decide +kernel
theorem dX10_look_35 : decode cX10_look 35 = .ok (.iload_n 1, 1) := by decide +kernel
theorem dX10_look_36 : decode cX10_look 36 = .ok (.istore 5, 2) := by decide +kernel
theorem dX10_look_38 : decode cX10_look 38 = .ok (.iload 5, 2) := by decide +kernel
theorem dX10_look_40 : decode cX10_look 40 = .ok (.ifCond .lt 37, 3) := by decide +kernel
theorem dX10_look_43 : decode cX10_look 43 = .ok (.iload_n 3, 1) := by decide +kernel
theorem dX10_look_44 : decode cX10_look 44 = .ok (.bipush 10, 2) := by decide +kernel
theorem dX10_look_46 : decode cX10_look 46 = .ok (.aload_n 0, 1) := by decide +kernel
theorem dX10_look_47 : decode cX10_look 47 = .ok (.getfield 7, 3) := by decide +kernel
theorem dX10_look_50 : decode cX10_look 50 = .ok (.bipush 16, 2) := by decide +kernel
theorem dX10_look_52 : decode cX10_look 52 = .ok (.iload 5, 2) := by decide +kernel
theorem dX10_look_54 : decode cX10_look 54 = .ok (.iadd, 1) := by decide +kernel
theorem dX10_look_55 : decode cX10_look 55 = .ok (.iaload, 1) := by decide +kernel
theorem dX10_look_56 : decode cX10_look 56 = .ok (.imul, 1) := by decide +kernel
theorem dX10_look_57 : decode cX10_look 57 = .ok (.isub, 1) := by decide +kernel
theorem dX10_look_58 : decode cX10_look 58 = .ok (.istore_n 3, 1) := by decide +kernel
theorem dX10_look_59 : decode cX10_look 59 = .ok (.iinc 4 1, 3) := by decide +kernel
theorem dX10_look_62 : decode cX10_look 62 = .ok (.aload_n 0, 1) := by decide +kernel
theorem dX10_look_63 : decode cX10_look 63 = .ok (.getfield 7, 3) := by decide +kernel
theorem dX10_look_66 : decode cX10_look 66 = .ok (.bipush 32, 2) := by decide +kernel
theorem dX10_look_68 : decode cX10_look 68 = .ok (.iload 5, 2) := by decide +kernel
theorem dX10_look_70 : decode cX10_look 70 = .ok (.iadd, 1) := by decide +kernel
theorem dX10_look_71 : decode cX10_look 71 = .ok (.iaload, 1) := by decide +kernel
theorem dX10_look_72 : decode cX10_look 72 = .ok (.istore 5, 2) := by decide +kernel
theorem dX10_look_74 : decode cX10_look 74 = .ok (.goto (-36), 3) := by decide +kernel
theorem dX10_look_77 : decode cX10_look 77 = .ok (.iload_n 2, 1) := by decide +kernel
theorem dX10_look_78 : decode cX10_look 78 = .ok (.iconst 1, 1) := by decide +kernel
theorem dX10_look_79 : decode cX10_look 79 = .ok (.if_icmp .ne 8, 3) := by decide +kernel
theorem dX10_look_82 : decode cX10_look 82 = .ok (.iload 4, 2) := by decide +kernel
theorem dX10_look_84 : decode cX10_look 84 = .ok (.goto 12, 3) := by decide +kernel
theorem dX10_look_87 : decode cX10_look 87 = .ok (.iload_n 3, 1) := by decide +kernel
theorem dX10_look_88 : decode cX10_look 88 = .ok (.ifCond .ge 7, 3) := by decide +kernel
theorem dX10_look_91 : decode cX10_look 91 = .ok (.iconst 0, 1) := by decide +kernel
theorem dX10_look_92 : decode cX10_look 92 = .ok (.goto 4, 3) := by decide +kernel
theorem dX10_look_95 : decode cX10_look 95 = .ok (.iload_n 3, 1) := by decide +kernel
theorem dX10_look_96 : decode cX10_look 96 = .ok (.ireturn, 1) := by decide +kernel
set_option maxRecDepth 20000 in
theorem ggX10_just_X10_in : GoodIn wsX10_just wsX10_in := goodIn_r _ [5] (by decide +kernel) (by decide +kernel)
set_option maxRecDepth 20000 in
theorem gX10_just_X10_in : GoodIn wsX10_just (va_wsS RX10 51 yX10_in wsX10_in) := goodIn_app (goodIn_of _ (by decide +kernel)) ggX10_just_X10_in
set_option maxRecDepth 20000 in
theorem ggX10_just_X10_asNow : GoodIn wsX10_just wsX10_asNow := goodIn_r _ [9, 1, 10, 11, 12, 35, 36, 37, 38, 39, 40, 41, 42, 43, 44, 45, 46, 47, 48, 49, 50, 51, 52, 53, 54] (by decide +kernel) (by decide +kernel)
set_option maxRecDepth 20000 in
theorem gX10_just_X10_asNow : GoodIn wsX10_just (wsV RX10 71 RX10 yX10_asNow wsX10_asNow) := goodIn_app (goodIn_of _ (by decide +kernel)) ggX10_just_X10_asNow
set_option maxRecDepth 20000 in
theorem ggX10_just_X10_freeOnes : GoodIn wsX10_just wsX10_freeOnes := goodIn_r _ [16, 17, 18, 19, 4, 20, 1, 21, 22, 23, 24, 25, 26, 27, 35, 36, 37, 38, 39, 40, 41, 42, 43, 44, 45, 46, 47, 48, 49, 50, 51, 52, 53, 54] (by decide +kernel) (by decide +kernel)
set_option maxRecDepth 20000 in
theorem gX10_just_X10_freeOnes : GoodIn wsX10_just (wsV RX10 118 RX10 yX10_freeOnes wsX10_freeOnes) := goodIn_app (goodIn_of _ (by decide +kernel)) ggX10_just_X10_freeOnes
set_option maxRecDepth 20000 in
theorem ggX10_just_X10_has : GoodIn wsX10_just wsX10_has := goodIn_r _ [23] (by decide +kernel) (by decide +kernel)
set_option maxRecDepth 20000 in
theorem gX10_just_X10_has : GoodIn wsX10_just (va_wsS RX10 55 yX10_has wsX10_has) := goodIn_app (goodIn_of _ (by decide +kernel)) ggX10_just_X10_has
set_option maxRecDepth 20000 in
theorem ggX10_just_X10_isWithin : GoodIn wsX10_just wsX10_isWithin := goodIn_r _ [31, 1, 35, 36, 37, 38, 39, 40, 41, 42, 43, 44, 45, 46, 47, 48, 49, 50, 51, 52, 53, 54] (by decide +kernel) (by decide +kernel)
set_option maxRecDepth 20000 in
theorem gX10_just_X10_isWithin : GoodIn wsX10_just (wsV RX10 74 RX10 yX10_isWithin wsX10_isWithin) := goodIn_app (goodIn_of _ (by decide +kernel)) ggX10_just_X10_isWithin
set_option maxRecDepth 20000 in
theorem ggX10_just_X10_bits : GoodIn wsX10_just wsX10_bits := goodIn_r _ [34] (by decide +kernel) (by decide +kernel)
set_option maxRecDepth 20000 in
theorem gX10_just_X10_bits : GoodIn wsX10_just (va_wsS RX10 67 yX10_bits wsX10_bits) := goodIn_app (goodIn_of _ (by decide +kernel)) ggX10_just_X10_bits
theorem dX10_just_0 : decode cX10_just 0 = .ok (.iload_n 1, 1) := by decide +kernel
theorem dX10_just_1 : decode cX10_just 1 = .ok (.iconst 0, 1) := by decide +kernel
theorem dX10_just_2 : decode cX10_just 2 = .ok (.sipush 255, 3) := by decide +kernel
theorem dX10_just_5 : decode cX10_just 5 = .ok (.invokestatic 51, 3) := by decide +kernel
theorem dX10_just_8 : decode cX10_just 8 = .ok (.ifCond .eq 12, 3) := by decide +kernel
theorem dX10_just_11 : decode cX10_just 11 = .ok (.iload_n 2, 1) := by decide +kernel
theorem dX10_just_12 : decode cX10_just 12 = .ok (.iconst 0, 1) := by decide +kernel
theorem dX10_just_13 : decode cX10_just 13 = .ok (.iconst 1, 1) := by decide +kernel
theorem dX10_just_14 : decode cX10_just 14 = .ok (.invokestatic 51, 3) := by decide +kernel
theorem dX10_just_17 : decode cX10_just 17 = .ok (.ifCond .ne 6, 3) := by decide +kernel
theorem dX10_just_20 : decode cX10_just 20 = .ok (.bipush (-2), 2) := by decide +kernel
theorem dX10_just_22 : decode cX10_just 22 = .ok (.ireturn, 1) := by decide +kernel
theorem dX10_just_23 : decode cX10_just 23 = .ok (.aload_n 0, 1) := by decide +kernel
theorem dX10_just_24 : decode cX10_just 24 = .ok (.invokevirtual 71, 3) := by decide +kernel
theorem dX10_just_27 : decode cX10_just 27 = .ok (.aload_n 0, 1) := by decide +kernel
theorem dX10_just_28 : decode cX10_just 28 = .ok (.getfield 13, 3) := by decide +kernel
theorem dX10_just_31 : decode cX10_just 31 = .ok (.bipush 40, 2) := by decide +kernel
theorem dX10_just_33 : decode cX10_just 33 = .ok (.iaload, 1) := by decide +kernel
theorem dX10_just_34 : decode cX10_just 34 = .ok (.aload_n 0, 1) := by decide +kernel
theorem dX10_just_35 : decode cX10_just 35 = .ok (.invokevirtual 118, 3) := by decide +kernel
theorem dX10_just_38 : decode cX10_just 38 = .ok (.iconst (-1), 1) := by decide +kernel
theorem dX10_just_39 : decode cX10_just 39 = .ok (.ixor, 1) := by decide +kernel
theorem dX10_just_40 : decode cX10_just 40 = .ok (.iand, 1) := by decide +kernel
theorem dX10_just_41 : decode cX10_just 41 = .ok (.istore_n 3, 1) := by decide +kernel
theorem dX10_just_42 : decode cX10_just 42 = .ok (.bipush (-6), 2) := by decide +kernel
theorem dX10_just_44 : decode cX10_just 44 = .ok (.istore 4, 2) := by decide +kernel
theorem dX10_just_46 : decode cX10_just 46 = .ok (.iconst 0, 1) := by decide +kernel
theorem dX10_just_47 : decode cX10_just 47 = .ok (.istore 5, 2) := by decide +kernel
theorem dX10_just_49 : decode cX10_just 49 = .ok (.iload 5, 2) := by decide +kernel
theorem dX10_just_51 : decode cX10_just 51 = .ok (.sipush 256, 3) := by decide +kernel
theorem dX10_just_54 : decode cX10_just 54 = .ok (.if_icmp .ge 141, 3) := by decide +kernel
theorem dX10_just_57 : decode cX10_just 57 = .ok (.iconst 0, 1) := by decide +kernel
theorem dX10_just_58 : decode cX10_just 58 = .ok (.istore 6, 2) := by decide +kernel
theorem dX10_just_60 : decode cX10_just 60 = .ok (.iconst 0, 1) := by decide +kernel
theorem dX10_just_61 : decode cX10_just 61 = .ok (.istore 7, 2) := by decide +kernel
theorem dX10_just_63 : decode cX10_just 63 = .ok (.iload 7, 2) := by decide +kernel
theorem dX10_just_65 : decode cX10_just 65 = .ok (.bipush 8, 2) := by decide +kernel
theorem dX10_just_67 : decode cX10_just 67 = .ok (.if_icmp .ge 68, 3) := by decide +kernel
theorem dX10_just_70 : decode cX10_just 70 = .ok (.iconst 0, 1) := by decide +kernel
theorem dX10_just_71 : decode cX10_just 71 = .ok (.istore 8, 2) := by decide +kernel
theorem dX10_just_73 : decode cX10_just 73 = .ok (.iload 8, 2) := by decide +kernel
theorem dX10_just_75 : decode cX10_just 75 = .ok (.bipush 8, 2) := by decide +kernel
theorem dX10_just_77 : decode cX10_just 77 = .ok (.if_icmp .ge 52, 3) := by decide +kernel
theorem dX10_just_80 : decode cX10_just 80 = .ok (.iload 6, 2) := by decide +kernel
theorem dX10_just_82 : decode cX10_just 82 = .ok (.iload_n 3, 1) := by decide +kernel
theorem dX10_just_83 : decode cX10_just 83 = .ok (.iload 7, 2) := by decide +kernel
theorem dX10_just_85 : decode cX10_just 85 = .ok (.invokestatic 55, 3) := by decide +kernel
theorem dX10_just_88 : decode cX10_just 88 = .ok (.ifCond .eq 31, 3) := by decide +kernel
theorem dX10_just_91 : decode cX10_just 91 = .ok (.iload 5, 2) := by decide +kernel
theorem dX10_just_93 : decode cX10_just 93 = .ok (.iload 8, 2) := by decide +kernel
theorem dX10_just_95 : decode cX10_just 95 = .ok (.invokestatic 55, 3) := by decide +kernel
theorem dX10_just_98 : decode cX10_just 98 = .ok (.ifCond .eq 21, 3) := by decide +kernel
theorem dX10_just_101 : decode cX10_just 101 = .ok (.aload_n 0, 1) := by decide +kernel
theorem dX10_just_102 : decode cX10_just 102 = .ok (.iload 7, 2) := by decide +kernel
theorem dX10_just_104 : decode cX10_just 104 = .ok (.iload 8, 2) := by decide +kernel
theorem dX10_just_106 : decode cX10_just 106 = .ok (.invokevirtual 74, 3) := by decide +kernel
theorem dX10_just_109 : decode cX10_just 109 = .ok (.ifCond .eq 10, 3) := by decide +kernel
theorem dX10_just_112 : decode cX10_just 112 = .ok (.iconst 1, 1) := by decide +kernel
theorem dX10_just_113 : decode cX10_just 113 = .ok (.iload 7, 2) := by decide +kernel
theorem dX10_just_115 : decode cX10_just 115 = .ok (.ishl, 1) := by decide +kernel
theorem dX10_just_116 : decode cX10_just 116 = .ok (.goto 4, 3) := by decide +kernel
theorem dX10_just_119 : decode cX10_just 119 = .ok (.iconst 0, 1) := by decide +kernel
theorem dX10_just_120 : decode cX10_just 120 = .ok (.ior, 1) := by decide +kernel
theorem dX10_just_121 : decode cX10_just 121 = .ok (.istore 6, 2) := by decide +kernel
theorem dX10_just_123 : decode cX10_just 123 = .ok (.iinc 8 1, 3) := by decide +kernel
theorem dX10_just_126 : decode cX10_just 126 = .ok (.goto (-53), 3) := by decide +kernel
theorem dX10_just_129 : decode cX10_just 129 = .ok (.iinc 7 1, 3) := by decide +kernel
theorem dX10_just_132 : decode cX10_just 132 = .ok (.goto (-69), 3) := by decide +kernel
theorem dX10_just_135 : decode cX10_just 135 = .ok (.iload 5, 2) := by decide +kernel
theorem dX10_just_137 : decode cX10_just 137 = .ok (.iload_n 3, 1) := by decide +kernel
theorem dX10_just_138 : decode cX10_just 138 = .ok (.iconst (-1), 1) := by decide +kernel
theorem dX10_just_139 : decode cX10_just 139 = .ok (.ixor, 1) := by decide +kernel
theorem dX10_just_140 : decode cX10_just 140 = .ok (.iand, 1) := by decide +kernel
theorem dX10_just_141 : decode cX10_just 141 = .ok (.ifCond .ne 13, 3) := by decide +kernel
theorem dX10_just_144 : decode cX10_just 144 = .ok (.iload 6, 2) := by decide +kernel
theorem dX10_just_146 : decode cX10_just 146 = .ok (.iload_n 1, 1) := by decide +kernel
theorem dX10_just_147 : decode cX10_just 147 = .ok (.if_icmp .ne 7, 3) := by decide +kernel
theorem dX10_just_150 : decode cX10_just 150 = .ok (.iconst 1, 1) := by decide +kernel
theorem dX10_just_151 : decode cX10_just 151 = .ok (.goto 4, 3) := by decide +kernel
theorem dX10_just_154 : decode cX10_just 154 = .ok (.iconst 0, 1) := by decide +kernel
theorem dX10_just_155 : decode cX10_just 155 = .ok (.istore 7, 2) := by decide +kernel
theorem dX10_just_157 : decode cX10_just 157 = .ok (.iload 7, 2) := by decide +kernel
theorem dX10_just_159 : decode cX10_just 159 = .ok (.ifCond .eq 26, 3) := by decide +kernel
theorem dX10_just_162 : decode cX10_just 162 = .ok (.iload 4, 2) := by decide +kernel
theorem dX10_just_164 : decode cX10_just 164 = .ok (.ifCond .lt 16, 3) := by decide +kernel
theorem dX10_just_167 : decode cX10_just 167 = .ok (.iload 5, 2) := by decide +kernel
theorem dX10_just_169 : decode cX10_just 169 = .ok (.invokestatic 67, 3) := by decide +kernel
theorem dX10_just_172 : decode cX10_just 172 = .ok (.iload 4, 2) := by decide +kernel
theorem dX10_just_174 : decode cX10_just 174 = .ok (.invokestatic 67, 3) := by decide +kernel
theorem dX10_just_177 : decode cX10_just 177 = .ok (.if_icmp .ge 8, 3) := by decide +kernel
theorem dX10_just_180 : decode cX10_just 180 = .ok (.iload 5, 2) := by decide +kernel
theorem dX10_just_182 : decode cX10_just 182 = .ok (.goto 5, 3) := by decide +kernel
theorem dX10_just_185 : decode cX10_just 185 = .ok (.iload 4, 2) := by decide +kernel
theorem dX10_just_187 : decode cX10_just 187 = .ok (.istore 4, 2) := by decide +kernel
theorem dX10_just_189 : decode cX10_just 189 = .ok (.iinc 5 1, 3) := by decide +kernel
theorem dX10_just_192 : decode cX10_just 192 = .ok (.goto (-143), 3) := by decide +kernel
theorem dX10_just_195 : decode cX10_just 195 = .ok (.iload 4, 2) := by decide +kernel
theorem dX10_just_197 : decode cX10_just 197 = .ok (.ifCond .lt 8, 3) := by decide +kernel
theorem dX10_just_200 : decode cX10_just 200 = .ok (.iload_n 2, 1) := by decide +kernel
theorem dX10_just_201 : decode cX10_just 201 = .ok (.iconst 1, 1) := by decide +kernel
theorem dX10_just_202 : decode cX10_just 202 = .ok (.if_icmp .ne 8, 3) := by decide +kernel
theorem dX10_just_205 : decode cX10_just 205 = .ok (.iload 4, 2) := by decide +kernel
theorem dX10_just_207 : decode cX10_just 207 = .ok (.goto 8, 3) := by decide +kernel
theorem dX10_just_210 : decode cX10_just 210 = .ok (.iload 4, 2) := by decide +kernel
theorem dX10_just_212 : decode cX10_just 212 = .ok (.invokestatic 67, 3) := by decide +kernel
theorem dX10_just_215 : decode cX10_just 215 = .ok (.ireturn, 1) := by decide +kernel
set_option maxRecDepth 20000 in
theorem ggX10_fill_X10_in : GoodIn wsX10_fill wsX10_in := goodIn_r _ [6] (by decide +kernel) (by decide +kernel)
set_option maxRecDepth 20000 in
theorem gX10_fill_X10_in : GoodIn wsX10_fill (va_wsS RX10 51 yX10_in wsX10_in) := goodIn_app (goodIn_of _ (by decide +kernel)) ggX10_fill_X10_in
set_option maxRecDepth 20000 in
theorem ggX10_fill_X10_isThere : GoodIn wsX10_fill wsX10_isThere := goodIn_r _ [10, 1, 3, 4, 5, 6, 11, 12, 13, 14, 15, 16, 17, 18, 19, 20, 21, 22, 23, 24, 25, 26, 27, 28, 29, 30, 31, 32, 33] (by decide +kernel) (by decide +kernel)
set_option maxRecDepth 20000 in
theorem gX10_fill_X10_isThere : GoodIn wsX10_fill (wsV RX10 59 RX10 yX10_isThere wsX10_isThere) := goodIn_app (goodIn_of _ (by decide +kernel)) ggX10_fill_X10_isThere
theorem dX10_fill_0 : decode cX10_fill 0 = .ok (.iload_n 1, 1) := by decide +kernel
theorem dX10_fill_1 : decode cX10_fill 1 = .ok (.iconst 0, 1) := by decide +kernel
theorem dX10_fill_2 : decode cX10_fill 2 = .ok (.bipush 99, 2) := by decide +kernel
theorem dX10_fill_4 : decode cX10_fill 4 = .ok (.invokestatic 51, 3) := by decide +kernel
theorem dX10_fill_7 : decode cX10_fill 7 = .ok (.ifCond .ne 6, 3) := by decide +kernel
theorem dX10_fill_10 : decode cX10_fill 10 = .ok (.bipush (-2), 2) := by decide +kernel
theorem dX10_fill_12 : decode cX10_fill 12 = .ok (.ireturn, 1) := by decide +kernel
theorem dX10_fill_13 : decode cX10_fill 13 = .ok (.iconst 0, 1) := by decide +kernel
theorem dX10_fill_14 : decode cX10_fill 14 = .ok (.istore_n 2, 1) := by decide +kernel
theorem dX10_fill_15 : decode cX10_fill 15 = .ok (.iconst 0, 1) := by decide +kernel
theorem dX10_fill_16 : decode cX10_fill 16 = .ok (.istore_n 3, 1) := by decide +kernel
theorem dX10_fill_17 : decode cX10_fill 17 = .ok (.iload_n 3, 1) := by decide +kernel
theorem dX10_fill_18 : decode cX10_fill 18 = .ok (.bipush 8, 2) := by decide +kernel
theorem dX10_fill_20 : decode cX10_fill 20 = .ok (.if_icmp .ge 78, 3) := by decide +kernel
theorem dX10_fill_23 : decode cX10_fill 23 = .ok (.aload_n 0, 1) := by decide +kernel
theorem dX10_fill_24 : decode cX10_fill 24 = .ok (.getfield 7, 3) := by decide +kernel
theorem dX10_fill_27 : decode cX10_fill 27 = .ok (.iload_n 3, 1) := by decide +kernel
theorem dX10_fill_28 : decode cX10_fill 28 = .ok (.iaload, 1) := by decide +kernel
theorem dX10_fill_29 : decode cX10_fill 29 = .ok (.istore 4, 2) := by decide +kernel
theorem dX10_fill_31 : decode cX10_fill 31 = .ok (.iconst 0, 1) := by decide +kernel
theorem dX10_fill_32 : decode cX10_fill 32 = .ok (.istore 5, 2) := by decide +kernel
theorem dX10_fill_34 : decode cX10_fill 34 = .ok (.iload 5, 2) := by decide +kernel
theorem dX10_fill_36 : decode cX10_fill 36 = .ok (.iload_n 1, 1) := by decide +kernel
theorem dX10_fill_37 : decode cX10_fill 37 = .ok (.if_icmp .ge 55, 3) := by decide +kernel
theorem dX10_fill_40 : decode cX10_fill 40 = .ok (.aload_n 0, 1) := by decide +kernel
theorem dX10_fill_41 : decode cX10_fill 41 = .ok (.iload_n 3, 1) := by decide +kernel
theorem dX10_fill_42 : decode cX10_fill 42 = .ok (.invokevirtual 59, 3) := by decide +kernel
theorem dX10_fill_45 : decode cX10_fill 45 = .ok (.ifCond .eq 47, 3) := by decide +kernel
theorem dX10_fill_48 : decode cX10_fill 48 = .ok (.aload_n 0, 1) := by decide +kernel
theorem dX10_fill_49 : decode cX10_fill 49 = .ok (.getfield 7, 3) := by decide +kernel
theorem dX10_fill_52 : decode cX10_fill 52 = .ok (.iload_n 3, 1) := by decide +kernel
theorem dX10_fill_53 : decode cX10_fill 53 = .ok (.iaload, 1) := by decide +kernel
theorem dX10_fill_54 : decode cX10_fill 54 = .ok (.ifCond .le 38, 3) := by decide +kernel
theorem dX10_fill_57 : decode cX10_fill 57 = .ok (.iload 4, 2) := by decide +kernel
theorem dX10_fill_59 : decode cX10_fill 59 = .ok (.aload_n 0, 1) := by decide +kernel
theorem dX10_fill_60 : decode cX10_fill 60 = .ok (.getfield 19, 3) := by decide +kernel
theorem dX10_fill_63 : decode cX10_fill 63 = .ok (.iload_n 3, 1) := by decide +kernel
theorem dX10_fill_64 : decode cX10_fill 64 = .ok (.iaload, 1) := by decide +kernel
theorem dX10_fill_65 : decode cX10_fill 65 = .ok (.if_icmp .gt 10, 3) := by decide +kernel
theorem dX10_fill_68 : decode cX10_fill 68 = .ok (.bipush 99, 2) := by decide +kernel
theorem dX10_fill_70 : decode cX10_fill 70 = .ok (.istore 4, 2) := by decide +kernel
theorem dX10_fill_72 : decode cX10_fill 72 = .ok (.iinc 2 1, 3) := by decide +kernel
theorem dX10_fill_75 : decode cX10_fill 75 = .ok (.iload 4, 2) := by decide +kernel
theorem dX10_fill_77 : decode cX10_fill 77 = .ok (.aload_n 0, 1) := by decide +kernel
theorem dX10_fill_78 : decode cX10_fill 78 = .ok (.getfield 19, 3) := by decide +kernel
theorem dX10_fill_81 : decode cX10_fill 81 = .ok (.iload_n 3, 1) := by decide +kernel
theorem dX10_fill_82 : decode cX10_fill 82 = .ok (.iaload, 1) := by decide +kernel
theorem dX10_fill_83 : decode cX10_fill 83 = .ok (.isub, 1) := by decide +kernel
theorem dX10_fill_84 : decode cX10_fill 84 = .ok (.istore 4, 2) := by decide +kernel
theorem dX10_fill_86 : decode cX10_fill 86 = .ok (.iinc 5 1, 3) := by decide +kernel
theorem dX10_fill_89 : decode cX10_fill 89 = .ok (.goto (-55), 3) := by decide +kernel
theorem dX10_fill_92 : decode cX10_fill 92 = .ok (.iinc 3 1, 3) := by decide +kernel
theorem dX10_fill_95 : decode cX10_fill 95 = .ok (.goto (-78), 3) := by decide +kernel
theorem dX10_fill_98 : decode cX10_fill 98 = .ok (.iload_n 2, 1) := by decide +kernel
theorem dX10_fill_99 : decode cX10_fill 99 = .ok (.ireturn, 1) := by decide +kernel
theorem dX10_digit_0 : decode cX10_digit 0 = .ok (.iload_n 0, 1) := by decide +kernel
theorem dX10_digit_1 : decode cX10_digit 1 = .ok (.istore_n 3, 1) := by decide +kernel
theorem dX10_digit_2 : decode cX10_digit 2 = .ok (.iload_n 2, 1) := by decide +kernel
theorem dX10_digit_3 : decode cX10_digit 3 = .ok (.iconst 1, 1) := by decide +kernel
theorem dX10_digit_4 : decode cX10_digit 4 = .ok (.isub, 1) := by decide +kernel
theorem dX10_digit_5 : decode cX10_digit 5 = .ok (.istore 4, 2) := by decide +kernel
theorem dX10_digit_7 : decode cX10_digit 7 = .ok (.iload 4, 2) := by decide +kernel
theorem dX10_digit_9 : decode cX10_digit 9 = .ok (.iload_n 1, 1) := by decide +kernel
theorem dX10_digit_10 : decode cX10_digit 10 = .ok (.if_icmp .le 14, 3) := by decide +kernel
theorem dX10_digit_13 : decode cX10_digit 13 = .ok (.iload_n 3, 1) := by decide +kernel
theorem dX10_digit_14 : decode cX10_digit 14 = .ok (.bipush 10, 2) := by decide +kernel
theorem dX10_digit_16 : decode cX10_digit 16 = .ok (.idiv, 1) := by decide +kernel
theorem dX10_digit_17 : decode cX10_digit 17 = .ok (.istore_n 3, 1) := by decide +kernel
theorem dX10_digit_18 : decode cX10_digit 18 = .ok (.iinc 4 (-1), 3) := by decide +kernel
theorem dX10_digit_21 : decode cX10_digit 21 = .ok (.goto (-14), 3) := by decide +kernel
theorem dX10_digit_24 : decode cX10_digit 24 = .ok (.iload_n 3, 1) := by decide +kernel
theorem dX10_digit_25 : decode cX10_digit 25 = .ok (.bipush 10, 2) := by decide +kernel
theorem dX10_digit_27 : decode cX10_digit 27 = .ok (.irem, 1) := by decide +kernel
theorem dX10_digit_28 : decode cX10_digit 28 = .ok (.ireturn, 1) := by decide +kernel
set_option maxRecDepth 20000 in
theorem ggX10_vote_X10_in : GoodIn wsX10_vote wsX10_in := goodIn_r _ [6] (by decide +kernel) (by decide +kernel)
set_option maxRecDepth 20000 in
theorem gX10_vote_X10_in : GoodIn wsX10_vote (va_wsS RX10 51 yX10_in wsX10_in) := goodIn_app (goodIn_of _ (by decide +kernel)) ggX10_vote_X10_in
