theorem dX5_init_0 : decode cX5_init 0 = .ok (.aload_n 0, 1) := by decide +kernel
theorem dX5_init_1 : decode cX5_init 1 = .ok (.invokespecial 1, 3) := by decide +kernel
theorem dX5_init_4 : decode cX5_init 4 = .ok (.aload_n 0, 1) := by decide +kernel
theorem dX5_init_5 : decode cX5_init 5 = .ok (.bipush 8, 2) := by decide +kernel
theorem dX5_init_7 : decode cX5_init 7 = .ok (.newarray .int, 2) := by decide +kernel
theorem dX5_init_9 : decode cX5_init 9 = .ok (.putfield 7, 3) := by decide +kernel
theorem dX5_init_12 : decode cX5_init 12 = .ok (.aload_n 0, 1) := by decide +kernel
theorem dX5_init_13 : decode cX5_init 13 = .ok (.bipush 8, 2) := by decide +kernel
theorem dX5_init_15 : decode cX5_init 15 = .ok (.newarray .int, 2) := by decide +kernel
theorem dX5_init_17 : decode cX5_init 17 = .ok (.putfield 13, 3) := by decide +kernel
theorem dX5_init_20 : decode cX5_init 20 = .ok (.aload_n 0, 1) := by decide +kernel
theorem dX5_init_21 : decode cX5_init 21 = .ok (.bipush 8, 2) := by decide +kernel
theorem dX5_init_23 : decode cX5_init 23 = .ok (.newarray .int, 2) := by decide +kernel
theorem dX5_init_25 : decode cX5_init 25 = .ok (.putfield 16, 3) := by decide +kernel
theorem dX5_init_28 : decode cX5_init 28 = .ok (.aload_n 0, 1) := by decide +kernel
theorem dX5_init_29 : decode cX5_init 29 = .ok (.bipush 8, 2) := by decide +kernel
theorem dX5_init_31 : decode cX5_init 31 = .ok (.newarray .int, 2) := by decide +kernel
theorem dX5_init_33 : decode cX5_init 33 = .ok (.putfield 19, 3) := by decide +kernel
theorem dX5_init_36 : decode cX5_init 36 = .ok (.aload_n 0, 1) := by decide +kernel
theorem dX5_init_37 : decode cX5_init 37 = .ok (.bipush 6, 2) := by decide +kernel
theorem dX5_init_39 : decode cX5_init 39 = .ok (.newarray .int, 2) := by decide +kernel
theorem dX5_init_41 : decode cX5_init 41 = .ok (.putfield 22, 3) := by decide +kernel
theorem dX5_init_44 : decode cX5_init 44 = .ok (.aload_n 0, 1) := by decide +kernel
theorem dX5_init_45 : decode cX5_init 45 = .ok (.bipush 6, 2) := by decide +kernel
theorem dX5_init_47 : decode cX5_init 47 = .ok (.newarray .int, 2) := by decide +kernel
theorem dX5_init_49 : decode cX5_init 49 = .ok (.putfield 25, 3) := by decide +kernel
theorem dX5_init_52 : decode cX5_init 52 = .ok (.aload_n 0, 1) := by decide +kernel
theorem dX5_init_53 : decode cX5_init 53 = .ok (.bipush 6, 2) := by decide +kernel
theorem dX5_init_55 : decode cX5_init 55 = .ok (.newarray .int, 2) := by decide +kernel
theorem dX5_init_57 : decode cX5_init 57 = .ok (.putfield 28, 3) := by decide +kernel
theorem dX5_init_60 : decode cX5_init 60 = .ok (.aload_n 0, 1) := by decide +kernel
theorem dX5_init_61 : decode cX5_init 61 = .ok (.bipush 40, 2) := by decide +kernel
theorem dX5_init_63 : decode cX5_init 63 = .ok (.newarray .int, 2) := by decide +kernel
theorem dX5_init_65 : decode cX5_init 65 = .ok (.putfield 31, 3) := by decide +kernel
theorem dX5_init_68 : decode cX5_init 68 = .ok (.aload_n 0, 1) := by decide +kernel
theorem dX5_init_69 : decode cX5_init 69 = .ok (.bipush 40, 2) := by decide +kernel
theorem dX5_init_71 : decode cX5_init 71 = .ok (.newarray .int, 2) := by decide +kernel
theorem dX5_init_73 : decode cX5_init 73 = .ok (.putfield 34, 3) := by decide +kernel
theorem dX5_init_76 : decode cX5_init 76 = .ok (.aload_n 0, 1) := by decide +kernel
theorem dX5_init_77 : decode cX5_init 77 = .ok (.bipush 40, 2) := by decide +kernel
theorem dX5_init_79 : decode cX5_init 79 = .ok (.newarray .int, 2) := by decide +kernel
theorem dX5_init_81 : decode cX5_init 81 = .ok (.putfield 37, 3) := by decide +kernel
theorem dX5_init_84 : decode cX5_init 84 = .ok (.aload_n 0, 1) := by decide +kernel
theorem dX5_init_85 : decode cX5_init 85 = .ok (.bipush 40, 2) := by decide +kernel
theorem dX5_init_87 : decode cX5_init 87 = .ok (.newarray .int, 2) := by decide +kernel
theorem dX5_init_89 : decode cX5_init 89 = .ok (.putfield 40, 3) := by decide +kernel
theorem dX5_init_92 : decode cX5_init 92 = .ok (.aload_n 0, 1) := by decide +kernel
theorem dX5_init_93 : decode cX5_init 93 = .ok (.bipush 40, 2) := by decide +kernel
theorem dX5_init_95 : decode cX5_init 95 = .ok (.newarray .int, 2) := by decide +kernel
theorem dX5_init_97 : decode cX5_init 97 = .ok (.putfield 43, 3) := by decide +kernel
theorem dX5_init_100 : decode cX5_init 100 = .ok (.aload_n 0, 1) := by decide +kernel
theorem dX5_init_101 : decode cX5_init 101 = .ok (.bipush 40, 2) := by decide +kernel
theorem dX5_init_103 : decode cX5_init 103 = .ok (.newarray .boolean, 2) := by decide +kernel
theorem dX5_init_105 : decode cX5_init 105 = .ok (.putfield 46, 3) := by decide +kernel
theorem dX5_init_108 : decode cX5_init 108 = .ok (.aload_n 0, 1) := by decide +kernel
theorem dX5_init_109 : decode cX5_init 109 = .ok (.bipush 40, 2) := by decide +kernel
theorem dX5_init_111 : decode cX5_init 111 = .ok (.newarray .int, 2) := by decide +kernel
theorem dX5_init_113 : decode cX5_init 113 = .ok (.putfield 50, 3) := by decide +kernel
theorem dX5_init_116 : decode cX5_init 116 = .ok (.aload_n 0, 1) := by decide +kernel
theorem dX5_init_117 : decode cX5_init 117 = .ok (.bipush 40, 2) := by decide +kernel
theorem dX5_init_119 : decode cX5_init 119 = .ok (.newarray .int, 2) := by decide +kernel
theorem dX5_init_121 : decode cX5_init 121 = .ok (.putfield 53, 3) := by decide +kernel
theorem dX5_init_124 : decode cX5_init 124 = .ok (.aload_n 0, 1) := by decide +kernel
theorem dX5_init_125 : decode cX5_init 125 = .ok (.bipush 40, 2) := by decide +kernel
theorem dX5_init_127 : decode cX5_init 127 = .ok (.newarray .int, 2) := by decide +kernel
theorem dX5_init_129 : decode cX5_init 129 = .ok (.putfield 56, 3) := by decide +kernel
theorem dX5_init_132 : decode cX5_init 132 = .ok (.aload_n 0, 1) := by decide +kernel
theorem dX5_init_133 : decode cX5_init 133 = .ok (.bipush 40, 2) := by decide +kernel
theorem dX5_init_135 : decode cX5_init 135 = .ok (.newarray .boolean, 2) := by decide +kernel
theorem dX5_init_137 : decode cX5_init 137 = .ok (.putfield 59, 3) := by decide +kernel
theorem dX5_init_140 : decode cX5_init 140 = .ok (.aload_n 0, 1) := by decide +kernel
theorem dX5_init_141 : decode cX5_init 141 = .ok (.bipush 48, 2) := by decide +kernel
theorem dX5_init_143 : decode cX5_init 143 = .ok (.newarray .int, 2) := by decide +kernel
theorem dX5_init_145 : decode cX5_init 145 = .ok (.putfield 62, 3) := by decide +kernel
theorem dX5_init_148 : decode cX5_init 148 = .ok (.aload_n 0, 1) := by decide +kernel
theorem dX5_init_149 : decode cX5_init 149 = .ok (.bipush 48, 2) := by decide +kernel
theorem dX5_init_151 : decode cX5_init 151 = .ok (.newarray .int, 2) := by decide +kernel
theorem dX5_init_153 : decode cX5_init 153 = .ok (.putfield 65, 3) := by decide +kernel
theorem dX5_init_156 : decode cX5_init 156 = .ok (.aload_n 0, 1) := by decide +kernel
theorem dX5_init_157 : decode cX5_init 157 = .ok (.bipush 48, 2) := by decide +kernel
theorem dX5_init_159 : decode cX5_init 159 = .ok (.newarray .int, 2) := by decide +kernel
theorem dX5_init_161 : decode cX5_init 161 = .ok (.putfield 68, 3) := by decide +kernel
theorem dX5_init_164 : decode cX5_init 164 = .ok (.aload_n 0, 1) := by decide +kernel
theorem dX5_init_165 : decode cX5_init 165 = .ok (.bipush 48, 2) := by decide +kernel
theorem dX5_init_167 : decode cX5_init 167 = .ok (.newarray .boolean, 2) := by decide +kernel
theorem dX5_init_169 : decode cX5_init 169 = .ok (.putfield 71, 3) := by decide +kernel
theorem dX5_init_172 : decode cX5_init 172 = .ok (.aload_n 0, 1) := by decide +kernel
theorem dX5_init_173 : decode cX5_init 173 = .ok (.bipush 48, 2) := by decide +kernel
theorem dX5_init_175 : decode cX5_init 175 = .ok (.newarray .boolean, 2) := by decide +kernel
theorem dX5_init_177 : decode cX5_init 177 = .ok (.putfield 74, 3) := by decide +kernel
theorem dX5_init_180 : decode cX5_init 180 = .ok (.aload_n 0, 1) := by decide +kernel
theorem dX5_init_181 : decode cX5_init 181 = .ok (.bipush 48, 2) := by decide +kernel
theorem dX5_init_183 : decode cX5_init 183 = .ok (.newarray .int, 2) := by decide +kernel
theorem dX5_init_185 : decode cX5_init 185 = .ok (.putfield 77, 3) := by decide +kernel
theorem dX5_init_188 : decode cX5_init 188 = .ok (.aload_n 0, 1) := by decide +kernel
theorem dX5_init_189 : decode cX5_init 189 = .ok (.bipush 48, 2) := by decide +kernel
theorem dX5_init_191 : decode cX5_init 191 = .ok (.newarray .int, 2) := by decide +kernel
theorem dX5_init_193 : decode cX5_init 193 = .ok (.putfield 80, 3) := by decide +kernel
theorem dX5_init_196 : decode cX5_init 196 = .ok (.aload_n 0, 1) := by decide +kernel
theorem dX5_init_197 : decode cX5_init 197 = .ok (.bipush 48, 2) := by decide +kernel
theorem dX5_init_199 : decode cX5_init 199 = .ok (.newarray .int, 2) := by decide +kernel
theorem dX5_init_201 : decode cX5_init 201 = .ok (.putfield 83, 3) := by decide +kernel
theorem dX5_init_204 : decode cX5_init 204 = .ok (.aload_n 0, 1) := by decide +kernel
theorem dX5_init_205 : decode cX5_init 205 = .ok (.bipush 48, 2) := by decide +kernel
theorem dX5_init_207 : decode cX5_init 207 = .ok (.newarray .int, 2) := by decide +kernel
theorem dX5_init_209 : decode cX5_init 209 = .ok (.putfield 86, 3) := by decide +kernel
theorem dX5_init_212 : decode cX5_init 212 = .ok (.aload_n 0, 1) := by decide +kernel
theorem dX5_init_213 : decode cX5_init 213 = .ok (.bipush 48, 2) := by decide +kernel
theorem dX5_init_215 : decode cX5_init 215 = .ok (.newarray .int, 2) := by decide +kernel
theorem dX5_init_217 : decode cX5_init 217 = .ok (.putfield 89, 3) := by decide +kernel
theorem dX5_init_220 : decode cX5_init 220 = .ok (.aload_n 0, 1) := by decide +kernel
theorem dX5_init_221 : decode cX5_init 221 = .ok (.bipush 48, 2) := by decide +kernel
theorem dX5_init_223 : decode cX5_init 223 = .ok (.newarray .int, 2) := by decide +kernel
theorem dX5_init_225 : decode cX5_init 225 = .ok (.putfield 92, 3) := by decide +kernel
theorem dX5_init_228 : decode cX5_init 228 = .ok (.aload_n 0, 1) := by decide +kernel
theorem dX5_init_229 : decode cX5_init 229 = .ok (.sipush 600, 3) := by decide +kernel
theorem dX5_init_232 : decode cX5_init 232 = .ok (.newarray .int, 2) := by decide +kernel
theorem dX5_init_234 : decode cX5_init 234 = .ok (.putfield 95, 3) := by decide +kernel
theorem dX5_init_237 : decode cX5_init 237 = .ok (.aload_n 0, 1) := by decide +kernel
theorem dX5_init_238 : decode cX5_init 238 = .ok (.sipush 600, 3) := by decide +kernel
theorem dX5_init_241 : decode cX5_init 241 = .ok (.newarray .int, 2) := by decide +kernel
theorem dX5_init_243 : decode cX5_init 243 = .ok (.putfield 98, 3) := by decide +kernel
theorem dX5_init_246 : decode cX5_init 246 = .ok (.aload_n 0, 1) := by decide +kernel
theorem dX5_init_247 : decode cX5_init 247 = .ok (.sipush 600, 3) := by decide +kernel
theorem dX5_init_250 : decode cX5_init 250 = .ok (.newarray .int, 2) := by decide +kernel
theorem dX5_init_252 : decode cX5_init 252 = .ok (.putfield 101, 3) := by decide +kernel
theorem dX5_init_255 : decode cX5_init 255 = .ok (.aload_n 0, 1) := by decide +kernel
theorem dX5_init_256 : decode cX5_init 256 = .ok (.bipush 6, 2) := by decide +kernel
theorem dX5_init_258 : decode cX5_init 258 = .ok (.newarray .int, 2) := by decide +kernel
theorem dX5_init_260 : decode cX5_init 260 = .ok (.putfield 104, 3) := by decide +kernel
theorem dX5_init_263 : decode cX5_init 263 = .ok (.iconst 0, 1) := by decide +kernel
theorem dX5_init_264 : decode cX5_init 264 = .ok (.istore_n 1, 1) := by decide +kernel
theorem dX5_init_265 : decode cX5_init 265 = .ok (.iload_n 1, 1) := by decide +kernel
theorem dX5_init_266 : decode cX5_init 266 = .ok (.bipush 48, 2) := by decide +kernel
theorem dX5_init_268 : decode cX5_init 268 = .ok (.if_icmp .ge 16, 3) := by decide +kernel
theorem dX5_init_271 : decode cX5_init 271 = .ok (.aload_n 0, 1) := by decide +kernel
theorem dX5_init_272 : decode cX5_init 272 = .ok (.getfield 83, 3) := by decide +kernel
theorem dX5_init_275 : decode cX5_init 275 = .ok (.iload_n 1, 1) := by decide +kernel
theorem dX5_init_276 : decode cX5_init 276 = .ok (.iconst 4, 1) := by decide +kernel
theorem dX5_init_277 : decode cX5_init 277 = .ok (.iastore, 1) := by decide +kernel
theorem dX5_init_278 : decode cX5_init 278 = .ok (.iinc 1 1, 3) := by decide +kernel
theorem dX5_init_281 : decode cX5_init 281 = .ok (.goto (-16), 3) := by decide +kernel
theorem dX5_init_284 : decode cX5_init 284 = .ok (.return_, 1) := by decide +kernel
theorem dX5_thrown_0 : decode cX5_thrown 0 = .ok (.aload_n 0, 1) := by decide +kernel
theorem dX5_thrown_1 : decode cX5_thrown 1 = .ok (.getfield 107, 3) := by decide +kernel
theorem dX5_thrown_4 : decode cX5_thrown 4 = .ok (.ireturn, 1) := by decide +kernel
theorem dX5_in_0 : decode cX5_in 0 = .ok (.iload_n 0, 1) := by decide +kernel
theorem dX5_in_1 : decode cX5_in 1 = .ok (.iload_n 1, 1) := by decide +kernel
theorem dX5_in_2 : decode cX5_in 2 = .ok (.if_icmp .lt 12, 3) := by decide +kernel
theorem dX5_in_5 : decode cX5_in 5 = .ok (.iload_n 0, 1) := by decide +kernel
theorem dX5_in_6 : decode cX5_in 6 = .ok (.iload_n 2, 1) := by decide +kernel
theorem dX5_in_7 : decode cX5_in 7 = .ok (.if_icmp .gt 7, 3) := by decide +kernel
theorem dX5_in_10 : decode cX5_in 10 = .ok (.iconst 1, 1) := by decide +kernel
theorem dX5_in_11 : decode cX5_in 11 = .ok (.goto 4, 3) := by decide +kernel
theorem dX5_in_14 : decode cX5_in 14 = .ok (.iconst 0, 1) := by decide +kernel
theorem dX5_in_15 : decode cX5_in 15 = .ok (.ireturn, 1) := by decide +kernel
theorem dX5_refused_0 : decode cX5_refused 0 = .ok (.aload_n 0, 1) := by decide +kernel
theorem dX5_refused_1 : decode cX5_refused 1 = .ok (.iload_n 1, 1) := by decide +kernel
theorem dX5_refused_2 : decode cX5_refused 2 = .ok (.putfield 107, 3) := by decide +kernel
theorem dX5_refused_5 : decode cX5_refused 5 = .ok (.iload_n 1, 1) := by decide +kernel
theorem dX5_refused_6 : decode cX5_refused 6 = .ok (.ifCond .eq 7, 3) := by decide +kernel
theorem dX5_refused_9 : decode cX5_refused 9 = .ok (.iconst 1, 1) := by decide +kernel
theorem dX5_refused_10 : decode cX5_refused 10 = .ok (.goto 4, 3) := by decide +kernel
theorem dX5_refused_13 : decode cX5_refused 13 = .ok (.iconst 0, 1) := by decide +kernel
theorem dX5_refused_14 : decode cX5_refused 14 = .ok (.ireturn, 1) := by decide +kernel
theorem dX5_has_0 : decode cX5_has 0 = .ok (.iload_n 0, 1) := by decide +kernel
theorem dX5_has_1 : decode cX5_has 1 = .ok (.iload_n 1, 1) := by decide +kernel
theorem dX5_has_2 : decode cX5_has 2 = .ok (.ishr, 1) := by decide +kernel
theorem dX5_has_3 : decode cX5_has 3 = .ok (.iconst 1, 1) := by decide +kernel
theorem dX5_has_4 : decode cX5_has 4 = .ok (.iand, 1) := by decide +kernel
theorem dX5_has_5 : decode cX5_has 5 = .ok (.iconst 1, 1) := by decide +kernel
theorem dX5_has_6 : decode cX5_has 6 = .ok (.if_icmp .ne 7, 3) := by decide +kernel
theorem dX5_has_9 : decode cX5_has 9 = .ok (.iconst 1, 1) := by decide +kernel
theorem dX5_has_10 : decode cX5_has 10 = .ok (.goto 4, 3) := by decide +kernel
theorem dX5_has_13 : decode cX5_has 13 = .ok (.iconst 0, 1) := by decide +kernel
theorem dX5_has_14 : decode cX5_has 14 = .ok (.ireturn, 1) := by decide +kernel
theorem dX5_size_0 : decode cX5_size 0 = .ok (.iconst 0, 1) := by decide +kernel
theorem dX5_size_1 : decode cX5_size 1 = .ok (.istore_n 1, 1) := by decide +kernel
theorem dX5_size_2 : decode cX5_size 2 = .ok (.iload_n 0, 1) := by decide +kernel
theorem dX5_size_3 : decode cX5_size 3 = .ok (.istore_n 2, 1) := by decide +kernel
theorem dX5_size_4 : decode cX5_size 4 = .ok (.iload_n 2, 1) := by decide +kernel
theorem dX5_size_5 : decode cX5_size 5 = .ok (.ifCond .le 16, 3) := by decide +kernel
theorem dX5_size_8 : decode cX5_size 8 = .ok (.iload_n 1, 1) := by decide +kernel
theorem dX5_size_9 : decode cX5_size 9 = .ok (.iload_n 2, 1) := by decide +kernel
theorem dX5_size_10 : decode cX5_size 10 = .ok (.iconst 2, 1) := by decide +kernel
theorem dX5_size_11 : decode cX5_size 11 = .ok (.irem, 1) := by decide +kernel
theorem dX5_size_12 : decode cX5_size 12 = .ok (.iadd, 1) := by decide +kernel
theorem dX5_size_13 : decode cX5_size 13 = .ok (.istore_n 1, 1) := by decide +kernel
theorem dX5_size_14 : decode cX5_size 14 = .ok (.iload_n 2, 1) := by decide +kernel
theorem dX5_size_15 : decode cX5_size 15 = .ok (.iconst 2, 1) := by decide +kernel
theorem dX5_size_16 : decode cX5_size 16 = .ok (.idiv, 1) := by decide +kernel
theorem dX5_size_17 : decode cX5_size 17 = .ok (.istore_n 2, 1) := by decide +kernel
theorem dX5_size_18 : decode cX5_size 18 = .ok (.goto (-14), 3) := by decide +kernel
theorem dX5_size_21 : decode cX5_size 21 = .ok (.iload_n 1, 1) := by decide +kernel
theorem dX5_size_22 : decode cX5_size 22 = .ok (.ireturn, 1) := by decide +kernel
set_option maxRecDepth 20000 in
theorem ggX5_isOffence_X5_in : GoodIn wsX5_isOffence wsX5_in := goodIn_r _ [5] (by decide +kernel) (by decide +kernel)
set_option maxRecDepth 20000 in
theorem gX5_isOffence_X5_in : GoodIn wsX5_isOffence (va_wsS RX5 114 yX5_in wsX5_in) := goodIn_app (goodIn_of _ (by decide +kernel)) ggX5_isOffence_X5_in
theorem dX5_isOffence_0 : decode cX5_isOffence 0 = .ok (.iload_n 1, 1) := by decide +kernel
theorem dX5_isOffence_1 : decode cX5_isOffence 1 = .ok (.iconst 0, 1) := by decide +kernel
theorem dX5_isOffence_2 : decode cX5_isOffence 2 = .ok (.aload_n 0, 1) := by decide +kernel
theorem dX5_isOffence_3 : decode cX5_isOffence 3 = .ok (.getfield 111, 3) := by decide +kernel
theorem dX5_isOffence_6 : decode cX5_isOffence 6 = .ok (.iconst 1, 1) := by decide +kernel
theorem dX5_isOffence_7 : decode cX5_isOffence 7 = .ok (.isub, 1) := by decide +kernel
theorem dX5_isOffence_8 : decode cX5_isOffence 8 = .ok (.invokestatic 114, 3) := by decide +kernel
theorem dX5_isOffence_11 : decode cX5_isOffence 11 = .ok (.ireturn, 1) := by decide +kernel
set_option maxRecDepth 20000 in
theorem ggX5_isItem_X5_in : GoodIn wsX5_isItem wsX5_in := goodIn_r _ [5] (by decide +kernel) (by decide +kernel)
set_option maxRecDepth 20000 in
theorem gX5_isItem_X5_in : GoodIn wsX5_isItem (va_wsS RX5 114 yX5_in wsX5_in) := goodIn_app (goodIn_of _ (by decide +kernel)) ggX5_isItem_X5_in
theorem dX5_isItem_0 : decode cX5_isItem 0 = .ok (.iload_n 1, 1) := by decide +kernel
theorem dX5_isItem_1 : decode cX5_isItem 1 = .ok (.iconst 0, 1) := by decide +kernel
theorem dX5_isItem_2 : decode cX5_isItem 2 = .ok (.aload_n 0, 1) := by decide +kernel
theorem dX5_isItem_3 : decode cX5_isItem 3 = .ok (.getfield 118, 3) := by decide +kernel
theorem dX5_isItem_6 : decode cX5_isItem 6 = .ok (.iconst 1, 1) := by decide +kernel
theorem dX5_isItem_7 : decode cX5_isItem 7 = .ok (.isub, 1) := by decide +kernel
theorem dX5_isItem_8 : decode cX5_isItem 8 = .ok (.invokestatic 114, 3) := by decide +kernel
theorem dX5_isItem_11 : decode cX5_isItem 11 = .ok (.ireturn, 1) := by decide +kernel
set_option maxRecDepth 20000 in
theorem ggX5_isIn_X5_in : GoodIn wsX5_isIn wsX5_in := goodIn_r _ [6] (by decide +kernel) (by decide +kernel)
set_option maxRecDepth 20000 in
theorem gX5_isIn_X5_in : GoodIn wsX5_isIn (va_wsS RX5 114 yX5_in wsX5_in) := goodIn_app (goodIn_of _ (by decide +kernel)) ggX5_isIn_X5_in
set_option maxRecDepth 20000 in
theorem ggX5_isIn_X5_has : GoodIn wsX5_isIn wsX5_has := goodIn_r _ [9] (by decide +kernel) (by decide +kernel)
set_option maxRecDepth 20000 in
theorem gX5_isIn_X5_has : GoodIn wsX5_isIn (va_wsS RX5 124 yX5_has wsX5_has) := goodIn_app (goodIn_of _ (by decide +kernel)) ggX5_isIn_X5_has
theorem dX5_isIn_0 : decode cX5_isIn 0 = .ok (.iload_n 1, 1) := by decide +kernel
theorem dX5_isIn_1 : decode cX5_isIn 1 = .ok (.iconst 0, 1) := by decide +kernel
theorem dX5_isIn_2 : decode cX5_isIn 2 = .ok (.aload_n 0, 1) := by decide +kernel
theorem dX5_isIn_3 : decode cX5_isIn 3 = .ok (.getfield 121, 3) := by decide +kernel
theorem dX5_isIn_6 : decode cX5_isIn 6 = .ok (.iconst 1, 1) := by decide +kernel
theorem dX5_isIn_7 : decode cX5_isIn 7 = .ok (.isub, 1) := by decide +kernel
theorem dX5_isIn_8 : decode cX5_isIn 8 = .ok (.invokestatic 114, 3) := by decide +kernel
theorem dX5_isIn_11 : decode cX5_isIn 11 = .ok (.ifCond .eq 30, 3) := by decide +kernel
theorem dX5_isIn_14 : decode cX5_isIn 14 = .ok (.iload_n 2, 1) := by decide +kernel
theorem dX5_isIn_15 : decode cX5_isIn 15 = .ok (.iconst 0, 1) := by decide +kernel
theorem dX5_isIn_16 : decode cX5_isIn 16 = .ok (.bipush 7, 2) := by decide +kernel
theorem dX5_isIn_18 : decode cX5_isIn 18 = .ok (.invokestatic 114, 3) := by decide +kernel
theorem dX5_isIn_21 : decode cX5_isIn 21 = .ok (.ifCond .eq 20, 3) := by decide +kernel
theorem dX5_isIn_24 : decode cX5_isIn 24 = .ok (.aload_n 0, 1) := by decide +kernel
theorem dX5_isIn_25 : decode cX5_isIn 25 = .ok (.getfield 25, 3) := by decide +kernel
theorem dX5_isIn_28 : decode cX5_isIn 28 = .ok (.iload_n 1, 1) := by decide +kernel
theorem dX5_isIn_29 : decode cX5_isIn 29 = .ok (.iaload, 1) := by decide +kernel
theorem dX5_isIn_30 : decode cX5_isIn 30 = .ok (.iload_n 2, 1) := by decide +kernel
theorem dX5_isIn_31 : decode cX5_isIn 31 = .ok (.invokestatic 124, 3) := by decide +kernel
theorem dX5_isIn_34 : decode cX5_isIn 34 = .ok (.ifCond .eq 7, 3) := by decide +kernel
theorem dX5_isIn_37 : decode cX5_isIn 37 = .ok (.iconst 1, 1) := by decide +kernel
theorem dX5_isIn_38 : decode cX5_isIn 38 = .ok (.goto 4, 3) := by decide +kernel
theorem dX5_isIn_41 : decode cX5_isIn 41 = .ok (.iconst 0, 1) := by decide +kernel
theorem dX5_isIn_42 : decode cX5_isIn 42 = .ok (.ireturn, 1) := by decide +kernel
theorem dX5_areThere_0 : decode cX5_areThere 0 = .ok (.iload_n 1, 1) := by decide +kernel
theorem dX5_areThere_1 : decode cX5_areThere 1 = .ok (.ifCond .lt 17, 3) := by decide +kernel
theorem dX5_areThere_4 : decode cX5_areThere 4 = .ok (.iload_n 1, 1) := by decide +kernel
theorem dX5_areThere_5 : decode cX5_areThere 5 = .ok (.iconst 1, 1) := by decide +kernel
theorem dX5_areThere_6 : decode cX5_areThere 6 = .ok (.aload_n 0, 1) := by decide +kernel
theorem dX5_areThere_7 : decode cX5_areThere 7 = .ok (.getfield 111, 3) := by decide +kernel
theorem dX5_areThere_10 : decode cX5_areThere 10 = .ok (.ishl, 1) := by decide +kernel
theorem dX5_areThere_11 : decode cX5_areThere 11 = .ok (.if_icmp .ge 7, 3) := by decide +kernel
theorem dX5_areThere_14 : decode cX5_areThere 14 = .ok (.iconst 1, 1) := by decide +kernel
theorem dX5_areThere_15 : decode cX5_areThere 15 = .ok (.goto 4, 3) := by decide +kernel
theorem dX5_areThere_18 : decode cX5_areThere 18 = .ok (.iconst 0, 1) := by decide +kernel
theorem dX5_areThere_19 : decode cX5_areThere 19 = .ok (.ireturn, 1) := by decide +kernel
set_option maxRecDepth 20000 in
theorem ggX5_offence_X5_in : GoodIn wsX5_offence wsX5_in := goodIn_r _ [8] (by decide +kernel) (by decide +kernel)
set_option maxRecDepth 20000 in
theorem gX5_offence_X5_in : GoodIn wsX5_offence (va_wsS RX5 114 yX5_in wsX5_in) := goodIn_app (goodIn_of _ (by decide +kernel)) ggX5_offence_X5_in
set_option maxRecDepth 20000 in
theorem ggX5_offence_X5_refused : GoodIn wsX5_offence wsX5_refused := goodIn_r _ [12, 13, 14, 15, 16, 17, 18, 19, 20, 21, 22, 23, 24, 25, 26, 27, 28, 29, 30, 31, 32, 33, 34, 35, 36, 37, 38, 39, 40, 41, 42, 43, 44, 45, 46, 47, 48, 49, 50, 51] (by decide +kernel) (by decide +kernel)
set_option maxRecDepth 20000 in
theorem gX5_offence_X5_refused : GoodIn wsX5_offence (wsV RX5 128 RX5 yX5_refused wsX5_refused) := goodIn_app (goodIn_of _ (by decide +kernel)) ggX5_offence_X5_refused
theorem dX5_offence_0 : decode cX5_offence 0 = .ok (.iload_n 1, 1) := by decide +kernel
theorem dX5_offence_1 : decode cX5_offence 1 = .ok (.iconst 1, 1) := by decide +kernel
theorem dX5_offence_2 : decode cX5_offence 2 = .ok (.sipush 1023, 3) := by decide +kernel
theorem dX5_offence_5 : decode cX5_offence 5 = .ok (.invokestatic 114, 3) := by decide +kernel
theorem dX5_offence_8 : decode cX5_offence 8 = .ok (.ifCond .eq 28, 3) := by decide +kernel
theorem dX5_offence_11 : decode cX5_offence 11 = .ok (.iload_n 2, 1) := by decide +kernel
theorem dX5_offence_12 : decode cX5_offence 12 = .ok (.iconst 1, 1) := by decide +kernel
theorem dX5_offence_13 : decode cX5_offence 13 = .ok (.bipush 9, 2) := by decide +kernel
theorem dX5_offence_15 : decode cX5_offence 15 = .ok (.invokestatic 114, 3) := by decide +kernel
theorem dX5_offence_18 : decode cX5_offence 18 = .ok (.ifCond .eq 18, 3) := by decide +kernel
theorem dX5_offence_21 : decode cX5_offence 21 = .ok (.iload_n 3, 1) := by decide +kernel
theorem dX5_offence_22 : decode cX5_offence 22 = .ok (.iconst 1, 1) := by decide +kernel
theorem dX5_offence_23 : decode cX5_offence 23 = .ok (.sipush 2000, 3) := by decide +kernel
theorem dX5_offence_26 : decode cX5_offence 26 = .ok (.invokestatic 114, 3) := by decide +kernel
theorem dX5_offence_29 : decode cX5_offence 29 = .ok (.ifCond .eq 7, 3) := by decide +kernel
theorem dX5_offence_32 : decode cX5_offence 32 = .ok (.iconst 1, 1) := by decide +kernel
theorem dX5_offence_33 : decode cX5_offence 33 = .ok (.goto 4, 3) := by decide +kernel
theorem dX5_offence_36 : decode cX5_offence 36 = .ok (.iconst 0, 1) := by decide +kernel
theorem dX5_offence_37 : decode cX5_offence 37 = .ok (.istore 4, 2) := by decide +kernel
theorem dX5_offence_39 : decode cX5_offence 39 = .ok (.aload_n 0, 1) := by decide +kernel
theorem dX5_offence_40 : decode cX5_offence 40 = .ok (.iload 4, 2) := by decide +kernel
theorem dX5_offence_42 : decode cX5_offence 42 = .ok (.ifCond .ne 7, 3) := by decide +kernel
theorem dX5_offence_45 : decode cX5_offence 45 = .ok (.iconst 1, 1) := by decide +kernel
theorem dX5_offence_46 : decode cX5_offence 46 = .ok (.goto 17, 3) := by decide +kernel
theorem dX5_offence_49 : decode cX5_offence 49 = .ok (.aload_n 0, 1) := by decide +kernel
theorem dX5_offence_50 : decode cX5_offence 50 = .ok (.getfield 111, 3) := by decide +kernel
theorem dX5_offence_53 : decode cX5_offence 53 = .ok (.bipush 8, 2) := by decide +kernel
theorem dX5_offence_55 : decode cX5_offence 55 = .ok (.if_icmp .ne 7, 3) := by decide +kernel
theorem dX5_offence_58 : decode cX5_offence 58 = .ok (.iconst 2, 1) := by decide +kernel
theorem dX5_offence_59 : decode cX5_offence 59 = .ok (.goto 4, 3) := by decide +kernel
theorem dX5_offence_62 : decode cX5_offence 62 = .ok (.iconst 0, 1) := by decide +kernel
theorem dX5_offence_63 : decode cX5_offence 63 = .ok (.invokevirtual 128, 3) := by decide +kernel
theorem dX5_offence_66 : decode cX5_offence 66 = .ok (.ifCond .eq 5, 3) := by decide +kernel
theorem dX5_offence_69 : decode cX5_offence 69 = .ok (.iconst 0, 1) := by decide +kernel
theorem dX5_offence_70 : decode cX5_offence 70 = .ok (.ireturn, 1) := by decide +kernel
theorem dX5_offence_71 : decode cX5_offence 71 = .ok (.aload_n 0, 1) := by decide +kernel
theorem dX5_offence_72 : decode cX5_offence 72 = .ok (.getfield 7, 3) := by decide +kernel
theorem dX5_offence_75 : decode cX5_offence 75 = .ok (.aload_n 0, 1) := by decide +kernel
theorem dX5_offence_76 : decode cX5_offence 76 = .ok (.getfield 111, 3) := by decide +kernel
theorem dX5_offence_79 : decode cX5_offence 79 = .ok (.iload_n 1, 1) := by decide +kernel
theorem dX5_offence_80 : decode cX5_offence 80 = .ok (.iastore, 1) := by decide +kernel
theorem dX5_offence_81 : decode cX5_offence 81 = .ok (.aload_n 0, 1) := by decide +kernel
theorem dX5_offence_82 : decode cX5_offence 82 = .ok (.getfield 13, 3) := by decide +kernel
theorem dX5_offence_85 : decode cX5_offence 85 = .ok (.aload_n 0, 1) := by decide +kernel
theorem dX5_offence_86 : decode cX5_offence 86 = .ok (.getfield 111, 3) := by decide +kernel
theorem dX5_offence_89 : decode cX5_offence 89 = .ok (.iload_n 2, 1) := by decide +kernel
theorem dX5_offence_90 : decode cX5_offence 90 = .ok (.iastore, 1) := by decide +kernel
theorem dX5_offence_91 : decode cX5_offence 91 = .ok (.aload_n 0, 1) := by decide +kernel
theorem dX5_offence_92 : decode cX5_offence 92 = .ok (.getfield 16, 3) := by decide +kernel
theorem dX5_offence_95 : decode cX5_offence 95 = .ok (.aload_n 0, 1) := by decide +kernel
theorem dX5_offence_96 : decode cX5_offence 96 = .ok (.getfield 111, 3) := by decide +kernel
theorem dX5_offence_99 : decode cX5_offence 99 = .ok (.iload_n 3, 1) := by decide +kernel
theorem dX5_offence_100 : decode cX5_offence 100 = .ok (.iastore, 1) := by decide +kernel
theorem dX5_offence_101 : decode cX5_offence 101 = .ok (.aload_n 0, 1) := by decide +kernel
theorem dX5_offence_102 : decode cX5_offence 102 = .ok (.dup, 1) := by decide +kernel
theorem dX5_offence_103 : decode cX5_offence 103 = .ok (.getfield 111, 3) := by decide +kernel
theorem dX5_offence_106 : decode cX5_offence 106 = .ok (.iconst 1, 1) := by decide +kernel
theorem dX5_offence_107 : decode cX5_offence 107 = .ok (.iadd, 1) := by decide +kernel
theorem dX5_offence_108 : decode cX5_offence 108 = .ok (.putfield 111, 3) := by decide +kernel
theorem dX5_offence_111 : decode cX5_offence 111 = .ok (.aload_n 0, 1) := by decide +kernel
theorem dX5_offence_112 : decode cX5_offence 112 = .ok (.getfield 111, 3) := by decide +kernel
theorem dX5_offence_115 : decode cX5_offence 115 = .ok (.iconst 1, 1) := by decide +kernel
theorem dX5_offence_116 : decode cX5_offence 116 = .ok (.isub, 1) := by decide +kernel
theorem dX5_offence_117 : decode cX5_offence 117 = .ok (.ireturn, 1) := by decide +kernel
set_option maxRecDepth 20000 in
theorem ggX5_exclude_X5_isOffence : GoodIn wsX5_exclude wsX5_isOffence := goodIn_r _ [6, 7, 8, 9, 5, 10, 19, 20, 21, 22, 23, 24, 25, 26, 27, 28, 29, 30, 31, 32, 33, 34, 35, 36, 37, 38, 39, 40, 41, 42, 43, 44, 45, 46, 47, 48, 49, 50, 51, 52, 53, 54, 55, 56] (by decide +kernel) (by decide +kernel)
set_option maxRecDepth 20000 in
theorem gX5_exclude_X5_isOffence : GoodIn wsX5_exclude (wsV RX5 132 RX5 yX5_isOffence wsX5_isOffence) := goodIn_app (goodIn_of _ (by decide +kernel)) ggX5_exclude_X5_isOffence
set_option maxRecDepth 20000 in
theorem ggX5_exclude_X5_refused : GoodIn wsX5_exclude wsX5_refused := goodIn_r _ [14, 15, 19, 20, 21, 22, 23, 24, 25, 26, 27, 28, 29, 30, 31, 32, 33, 34, 35, 36, 37, 38, 39, 40, 41, 42, 43, 44, 45, 46, 47, 48, 49, 50, 51, 52, 53, 54, 55, 56] (by decide +kernel) (by decide +kernel)
set_option maxRecDepth 20000 in
theorem gX5_exclude_X5_refused : GoodIn wsX5_exclude (wsV RX5 128 RX5 yX5_refused wsX5_refused) := goodIn_app (goodIn_of _ (by decide +kernel)) ggX5_exclude_X5_refused
set_option maxRecDepth 20000 in
theorem ggX5_exclude_X5_has : GoodIn wsX5_exclude wsX5_has := goodIn_r _ [18] (by decide +kernel) (by decide +kernel)
set_option maxRecDepth 20000 in
theorem gX5_exclude_X5_has : GoodIn wsX5_exclude (va_wsS RX5 124 yX5_has wsX5_has) := goodIn_app (goodIn_of _ (by decide +kernel)) ggX5_exclude_X5_has
theorem dX5_exclude_0 : decode cX5_exclude 0 = .ok (.aload_n 0, 1) := by decide +kernel
theorem dX5_exclude_1 : decode cX5_exclude 1 = .ok (.aload_n 0, 1) := by decide +kernel
theorem dX5_exclude_2 : decode cX5_exclude 2 = .ok (.iload_n 1, 1) := by decide +kernel
theorem dX5_exclude_3 : decode cX5_exclude 3 = .ok (.invokevirtual 132, 3) := by decide +kernel
theorem dX5_exclude_6 : decode cX5_exclude 6 = .ok (.ifCond .eq 11, 3) := by decide +kernel
theorem dX5_exclude_9 : decode cX5_exclude 9 = .ok (.aload_n 0, 1) := by decide +kernel
theorem dX5_exclude_10 : decode cX5_exclude 10 = .ok (.iload_n 2, 1) := by decide +kernel
theorem dX5_exclude_11 : decode cX5_exclude 11 = .ok (.invokevirtual 132, 3) := by decide +kernel
theorem dX5_exclude_14 : decode cX5_exclude 14 = .ok (.ifCond .ne 7, 3) := by decide +kernel
theorem dX5_exclude_17 : decode cX5_exclude 17 = .ok (.iconst 1, 1) := by decide +kernel
theorem dX5_exclude_18 : decode cX5_exclude 18 = .ok (.goto 13, 3) := by decide +kernel
theorem dX5_exclude_21 : decode cX5_exclude 21 = .ok (.iload_n 1, 1) := by decide +kernel
theorem dX5_exclude_22 : decode cX5_exclude 22 = .ok (.iload_n 2, 1) := by decide +kernel
theorem dX5_exclude_23 : decode cX5_exclude 23 = .ok (.if_icmp .ne 7, 3) := by decide +kernel
theorem dX5_exclude_26 : decode cX5_exclude 26 = .ok (.iconst 2, 1) := by decide +kernel
theorem dX5_exclude_27 : decode cX5_exclude 27 = .ok (.goto 4, 3) := by decide +kernel
theorem dX5_exclude_30 : decode cX5_exclude 30 = .ok (.iconst 0, 1) := by decide +kernel
theorem dX5_exclude_31 : decode cX5_exclude 31 = .ok (.invokevirtual 128, 3) := by decide +kernel
theorem dX5_exclude_34 : decode cX5_exclude 34 = .ok (.ifCond .eq 5, 3) := by decide +kernel
theorem dX5_exclude_37 : decode cX5_exclude 37 = .ok (.iconst 0, 1) := by decide +kernel
theorem dX5_exclude_38 : decode cX5_exclude 38 = .ok (.ireturn, 1) := by decide +kernel
theorem dX5_exclude_39 : decode cX5_exclude 39 = .ok (.aload_n 0, 1) := by decide +kernel
theorem dX5_exclude_40 : decode cX5_exclude 40 = .ok (.getfield 19, 3) := by decide +kernel
theorem dX5_exclude_43 : decode cX5_exclude 43 = .ok (.iload_n 1, 1) := by decide +kernel
theorem dX5_exclude_44 : decode cX5_exclude 44 = .ok (.iaload, 1) := by decide +kernel
theorem dX5_exclude_45 : decode cX5_exclude 45 = .ok (.iload_n 2, 1) := by decide +kernel
theorem dX5_exclude_46 : decode cX5_exclude 46 = .ok (.invokestatic 124, 3) := by decide +kernel
theorem dX5_exclude_49 : decode cX5_exclude 49 = .ok (.istore_n 3, 1) := by decide +kernel
theorem dX5_exclude_50 : decode cX5_exclude 50 = .ok (.aload_n 0, 1) := by decide +kernel
theorem dX5_exclude_51 : decode cX5_exclude 51 = .ok (.getfield 19, 3) := by decide +kernel
theorem dX5_exclude_54 : decode cX5_exclude 54 = .ok (.iload_n 1, 1) := by decide +kernel
theorem dX5_exclude_55 : decode cX5_exclude 55 = .ok (.dup2, 1) := by decide +kernel
theorem dX5_exclude_56 : decode cX5_exclude 56 = .ok (.iaload, 1) := by decide +kernel
theorem dX5_exclude_57 : decode cX5_exclude 57 = .ok (.iconst 1, 1) := by decide +kernel
theorem dX5_exclude_58 : decode cX5_exclude 58 = .ok (.iload_n 2, 1) := by decide +kernel
theorem dX5_exclude_59 : decode cX5_exclude 59 = .ok (.ishl, 1) := by decide +kernel
theorem dX5_exclude_60 : decode cX5_exclude 60 = .ok (.ior, 1) := by decide +kernel
theorem dX5_exclude_61 : decode cX5_exclude 61 = .ok (.iastore, 1) := by decide +kernel
theorem dX5_exclude_62 : decode cX5_exclude 62 = .ok (.aload_n 0, 1) := by decide +kernel
theorem dX5_exclude_63 : decode cX5_exclude 63 = .ok (.getfield 19, 3) := by decide +kernel
theorem dX5_exclude_66 : decode cX5_exclude 66 = .ok (.iload_n 2, 1) := by decide +kernel
theorem dX5_exclude_67 : decode cX5_exclude 67 = .ok (.dup2, 1) := by decide +kernel
theorem dX5_exclude_68 : decode cX5_exclude 68 = .ok (.iaload, 1) := by decide +kernel
theorem dX5_exclude_69 : decode cX5_exclude 69 = .ok (.iconst 1, 1) := by decide +kernel
theorem dX5_exclude_70 : decode cX5_exclude 70 = .ok (.iload_n 1, 1) := by decide +kernel
theorem dX5_exclude_71 : decode cX5_exclude 71 = .ok (.ishl, 1) := by decide +kernel
theorem dX5_exclude_72 : decode cX5_exclude 72 = .ok (.ior, 1) := by decide +kernel
theorem dX5_exclude_73 : decode cX5_exclude 73 = .ok (.iastore, 1) := by decide +kernel
theorem dX5_exclude_74 : decode cX5_exclude 74 = .ok (.iload_n 3, 1) := by decide +kernel
theorem dX5_exclude_75 : decode cX5_exclude 75 = .ok (.ireturn, 1) := by decide +kernel
set_option maxRecDepth 20000 in
theorem ggX5_pass_X5_in : GoodIn wsX5_pass wsX5_in := goodIn_r _ [6] (by decide +kernel) (by decide +kernel)
set_option maxRecDepth 20000 in
theorem gX5_pass_X5_in : GoodIn wsX5_pass (va_wsS RX5 114 yX5_in wsX5_in) := goodIn_app (goodIn_of _ (by decide +kernel)) ggX5_pass_X5_in
set_option maxRecDepth 20000 in
theorem ggX5_pass_X5_refused : GoodIn wsX5_pass wsX5_refused := goodIn_r _ [10, 11, 21, 22, 23, 24, 25, 26, 27, 28, 29, 30, 31, 32, 33, 34, 35, 36, 37, 38, 39, 40, 41, 42, 43, 44, 45, 46, 47, 48, 49, 50, 51, 52, 53, 54, 55, 56, 57, 58] (by decide +kernel) (by decide +kernel)
set_option maxRecDepth 20000 in
theorem gX5_pass_X5_refused : GoodIn wsX5_pass (wsV RX5 128 RX5 yX5_refused wsX5_refused) := goodIn_app (goodIn_of _ (by decide +kernel)) ggX5_pass_X5_refused
set_option maxRecDepth 20000 in
theorem ggX5_pass_X5_holds : GoodIn wsX5_pass wsX5_holds := goodIn_r _ [15, 16, 17, 18, 19, 2, 20, 21, 22, 23, 24, 25, 26, 27, 28, 29, 30, 31, 32, 33, 34, 35, 36, 37, 38, 39, 40, 41, 42, 43, 44, 45, 46, 47, 48, 49, 50, 51, 52, 53, 54, 55, 56, 57, 58] (by decide +kernel) (by decide +kernel)
set_option maxRecDepth 20000 in
theorem gX5_pass_X5_holds : GoodIn wsX5_pass (wsV RX5 138 RX5 yX5_holds wsX5_holds) := goodIn_app (goodIn_of _ (by decide +kernel)) ggX5_pass_X5_holds
theorem dX5_pass_0 : decode cX5_pass 0 = .ok (.aload_n 0, 1) := by decide +kernel
theorem dX5_pass_1 : decode cX5_pass 1 = .ok (.iload_n 1, 1) := by decide +kernel
theorem dX5_pass_2 : decode cX5_pass 2 = .ok (.iconst 1, 1) := by decide +kernel
theorem dX5_pass_3 : decode cX5_pass 3 = .ok (.bipush 100, 2) := by decide +kernel
theorem dX5_pass_5 : decode cX5_pass 5 = .ok (.invokestatic 114, 3) := by decide +kernel
theorem dX5_pass_8 : decode cX5_pass 8 = .ok (.ifCond .ne 7, 3) := by decide +kernel
theorem dX5_pass_11 : decode cX5_pass 11 = .ok (.iconst 1, 1) := by decide +kernel
theorem dX5_pass_12 : decode cX5_pass 12 = .ok (.goto 20, 3) := by decide +kernel
theorem dX5_pass_15 : decode cX5_pass 15 = .ok (.aload_n 0, 1) := by decide +kernel
theorem dX5_pass_16 : decode cX5_pass 16 = .ok (.getfield 135, 3) := by decide +kernel
theorem dX5_pass_19 : decode cX5_pass 19 = .ok (.iload_n 1, 1) := by decide +kernel
theorem dX5_pass_20 : decode cX5_pass 20 = .ok (.iadd, 1) := by decide +kernel
theorem dX5_pass_21 : decode cX5_pass 21 = .ok (.sipush 5000, 3) := by decide +kernel
theorem dX5_pass_24 : decode cX5_pass 24 = .ok (.if_icmp .le 7, 3) := by decide +kernel
theorem dX5_pass_27 : decode cX5_pass 27 = .ok (.iconst 2, 1) := by decide +kernel
theorem dX5_pass_28 : decode cX5_pass 28 = .ok (.goto 4, 3) := by decide +kernel
theorem dX5_pass_31 : decode cX5_pass 31 = .ok (.iconst 0, 1) := by decide +kernel
theorem dX5_pass_32 : decode cX5_pass 32 = .ok (.invokevirtual 128, 3) := by decide +kernel
theorem dX5_pass_35 : decode cX5_pass 35 = .ok (.ifCond .eq 5, 3) := by decide +kernel
theorem dX5_pass_38 : decode cX5_pass 38 = .ok (.iconst 0, 1) := by decide +kernel
theorem dX5_pass_39 : decode cX5_pass 39 = .ok (.ireturn, 1) := by decide +kernel
theorem dX5_pass_40 : decode cX5_pass 40 = .ok (.iconst 0, 1) := by decide +kernel
theorem dX5_pass_41 : decode cX5_pass 41 = .ok (.istore_n 2, 1) := by decide +kernel
theorem dX5_pass_42 : decode cX5_pass 42 = .ok (.iload_n 2, 1) := by decide +kernel
theorem dX5_pass_43 : decode cX5_pass 43 = .ok (.iload_n 1, 1) := by decide +kernel
theorem dX5_pass_44 : decode cX5_pass 44 = .ok (.if_icmp .ge 37, 3) := by decide +kernel
theorem dX5_pass_47 : decode cX5_pass 47 = .ok (.iconst 0, 1) := by decide +kernel
theorem dX5_pass_48 : decode cX5_pass 48 = .ok (.istore_n 3, 1) := by decide +kernel
theorem dX5_pass_49 : decode cX5_pass 49 = .ok (.iload_n 3, 1) := by decide +kernel
theorem dX5_pass_50 : decode cX5_pass 50 = .ok (.bipush 48, 2) := by decide +kernel
theorem dX5_pass_52 : decode cX5_pass 52 = .ok (.if_icmp .ge 23, 3) := by decide +kernel
theorem dX5_pass_55 : decode cX5_pass 55 = .ok (.aload_n 0, 1) := by decide +kernel
theorem dX5_pass_56 : decode cX5_pass 56 = .ok (.getfield 74, 3) := by decide +kernel
theorem dX5_pass_59 : decode cX5_pass 59 = .ok (.iload_n 3, 1) := by decide +kernel
theorem dX5_pass_60 : decode cX5_pass 60 = .ok (.baload, 1) := by decide +kernel
theorem dX5_pass_61 : decode cX5_pass 61 = .ok (.ifCond .eq 8, 3) := by decide +kernel
theorem dX5_pass_64 : decode cX5_pass 64 = .ok (.aload_n 0, 1) := by decide +kernel
theorem dX5_pass_65 : decode cX5_pass 65 = .ok (.iload_n 3, 1) := by decide +kernel
theorem dX5_pass_66 : decode cX5_pass 66 = .ok (.invokevirtual 138, 3) := by decide +kernel
theorem dX5_pass_69 : decode cX5_pass 69 = .ok (.iinc 3 1, 3) := by decide +kernel
theorem dX5_pass_72 : decode cX5_pass 72 = .ok (.goto (-23), 3) := by decide +kernel
theorem dX5_pass_75 : decode cX5_pass 75 = .ok (.iinc 2 1, 3) := by decide +kernel
theorem dX5_pass_78 : decode cX5_pass 78 = .ok (.goto (-36), 3) := by decide +kernel
theorem dX5_pass_81 : decode cX5_pass 81 = .ok (.aload_n 0, 1) := by decide +kernel
theorem dX5_pass_82 : decode cX5_pass 82 = .ok (.dup, 1) := by decide +kernel
theorem dX5_pass_83 : decode cX5_pass 83 = .ok (.getfield 135, 3) := by decide +kernel
theorem dX5_pass_86 : decode cX5_pass 86 = .ok (.iload_n 1, 1) := by decide +kernel
theorem dX5_pass_87 : decode cX5_pass 87 = .ok (.iadd, 1) := by decide +kernel
theorem dX5_pass_88 : decode cX5_pass 88 = .ok (.putfield 135, 3) := by decide +kernel
theorem dX5_pass_91 : decode cX5_pass 91 = .ok (.aload_n 0, 1) := by decide +kernel
theorem dX5_pass_92 : decode cX5_pass 92 = .ok (.getfield 135, 3) := by decide +kernel
theorem dX5_pass_95 : decode cX5_pass 95 = .ok (.ireturn, 1) := by decide +kernel
theorem dX5_holds_0 : decode cX5_holds 0 = .ok (.aload_n 0, 1) := by decide +kernel
theorem dX5_holds_1 : decode cX5_holds 1 = .ok (.getfield 62, 3) := by decide +kernel
theorem dX5_holds_4 : decode cX5_holds 4 = .ok (.iload_n 1, 1) := by decide +kernel
theorem dX5_holds_5 : decode cX5_holds 5 = .ok (.iaload, 1) := by decide +kernel
theorem dX5_holds_6 : decode cX5_holds 6 = .ok (.iconst 2, 1) := by decide +kernel
theorem dX5_holds_7 : decode cX5_holds 7 = .ok (.if_icmp .ne 7, 3) := by decide +kernel
theorem dX5_holds_10 : decode cX5_holds 10 = .ok (.iconst 1, 1) := by decide +kernel
theorem dX5_holds_11 : decode cX5_holds 11 = .ok (.goto 4, 3) := by decide +kernel
theorem dX5_holds_14 : decode cX5_holds 14 = .ok (.iconst 0, 1) := by decide +kernel
theorem dX5_holds_15 : decode cX5_holds 15 = .ok (.istore_n 2, 1) := by decide +kernel
theorem dX5_holds_16 : decode cX5_holds 16 = .ok (.aload_n 0, 1) := by decide +kernel
theorem dX5_holds_17 : decode cX5_holds 17 = .ok (.getfield 77, 3) := by decide +kernel
theorem dX5_holds_20 : decode cX5_holds 20 = .ok (.iload_n 1, 1) := by decide +kernel
theorem dX5_holds_21 : decode cX5_holds 21 = .ok (.dup2, 1) := by decide +kernel
theorem dX5_holds_22 : decode cX5_holds 22 = .ok (.iaload, 1) := by decide +kernel
theorem dX5_holds_23 : decode cX5_holds 23 = .ok (.iload_n 2, 1) := by decide +kernel
theorem dX5_holds_24 : decode cX5_holds 24 = .ok (.ifCond .eq 7, 3) := by decide +kernel
theorem dX5_holds_27 : decode cX5_holds 27 = .ok (.iconst 0, 1) := by decide +kernel
theorem dX5_holds_28 : decode cX5_holds 28 = .ok (.goto 4, 3) := by decide +kernel
theorem dX5_holds_31 : decode cX5_holds 31 = .ok (.iconst 1, 1) := by decide +kernel
theorem dX5_holds_32 : decode cX5_holds 32 = .ok (.iadd, 1) := by decide +kernel
theorem dX5_holds_33 : decode cX5_holds 33 = .ok (.iastore, 1) := by decide +kernel
theorem dX5_holds_34 : decode cX5_holds 34 = .ok (.aload_n 0, 1) := by decide +kernel
theorem dX5_holds_35 : decode cX5_holds 35 = .ok (.getfield 80, 3) := by decide +kernel
theorem dX5_holds_38 : decode cX5_holds 38 = .ok (.iload_n 1, 1) := by decide +kernel
theorem dX5_holds_39 : decode cX5_holds 39 = .ok (.dup2, 1) := by decide +kernel
theorem dX5_holds_40 : decode cX5_holds 40 = .ok (.iaload, 1) := by decide +kernel
theorem dX5_holds_41 : decode cX5_holds 41 = .ok (.iload_n 2, 1) := by decide +kernel
theorem dX5_holds_42 : decode cX5_holds 42 = .ok (.ifCond .eq 7, 3) := by decide +kernel
theorem dX5_holds_45 : decode cX5_holds 45 = .ok (.iconst 1, 1) := by decide +kernel
theorem dX5_holds_46 : decode cX5_holds 46 = .ok (.goto 4, 3) := by decide +kernel
theorem dX5_holds_49 : decode cX5_holds 49 = .ok (.iconst 0, 1) := by decide +kernel
theorem dX5_holds_50 : decode cX5_holds 50 = .ok (.iadd, 1) := by decide +kernel
theorem dX5_holds_51 : decode cX5_holds 51 = .ok (.iastore, 1) := by decide +kernel
theorem dX5_holds_52 : decode cX5_holds 52 = .ok (.iload_n 2, 1) := by decide +kernel
theorem dX5_holds_53 : decode cX5_holds 53 = .ok (.ifCond .eq 17, 3) := by decide +kernel
theorem dX5_holds_56 : decode cX5_holds 56 = .ok (.aload_n 0, 1) := by decide +kernel
theorem dX5_holds_57 : decode cX5_holds 57 = .ok (.getfield 80, 3) := by decide +kernel
theorem dX5_holds_60 : decode cX5_holds 60 = .ok (.iload_n 1, 1) := by decide +kernel
theorem dX5_holds_61 : decode cX5_holds 61 = .ok (.iaload, 1) := by decide +kernel
theorem dX5_holds_62 : decode cX5_holds 62 = .ok (.bipush 60, 2) := by decide +kernel
theorem dX5_holds_64 : decode cX5_holds 64 = .ok (.if_icmp .ne 38, 3) := by decide +kernel
theorem dX5_holds_67 : decode cX5_holds 67 = .ok (.goto 18, 3) := by decide +kernel
theorem dX5_holds_70 : decode cX5_holds 70 = .ok (.aload_n 0, 1) := by decide +kernel
theorem dX5_holds_71 : decode cX5_holds 71 = .ok (.getfield 77, 3) := by decide +kernel
theorem dX5_holds_74 : decode cX5_holds 74 = .ok (.iload_n 1, 1) := by decide +kernel
theorem dX5_holds_75 : decode cX5_holds 75 = .ok (.iaload, 1) := by decide +kernel
theorem dX5_holds_76 : decode cX5_holds 76 = .ok (.aload_n 0, 1) := by decide +kernel
theorem dX5_holds_77 : decode cX5_holds 77 = .ok (.getfield 83, 3) := by decide +kernel
theorem dX5_holds_80 : decode cX5_holds 80 = .ok (.iload_n 1, 1) := by decide +kernel
theorem dX5_holds_81 : decode cX5_holds 81 = .ok (.iaload, 1) := by decide +kernel
theorem dX5_holds_82 : decode cX5_holds 82 = .ok (.if_icmp .ne 20, 3) := by decide +kernel
theorem dX5_holds_85 : decode cX5_holds 85 = .ok (.aload_n 0, 1) := by decide +kernel
theorem dX5_holds_86 : decode cX5_holds 86 = .ok (.getfield 74, 3) := by decide +kernel
theorem dX5_holds_89 : decode cX5_holds 89 = .ok (.iload_n 1, 1) := by decide +kernel
theorem dX5_holds_90 : decode cX5_holds 90 = .ok (.iconst 0, 1) := by decide +kernel
theorem dX5_holds_91 : decode cX5_holds 91 = .ok (.bastore, 1) := by decide +kernel
theorem dX5_holds_92 : decode cX5_holds 92 = .ok (.aload_n 0, 1) := by decide +kernel
theorem dX5_holds_93 : decode cX5_holds 93 = .ok (.getfield 104, 3) := by decide +kernel
theorem dX5_holds_96 : decode cX5_holds 96 = .ok (.iconst 5, 1) := by decide +kernel
theorem dX5_holds_97 : decode cX5_holds 97 = .ok (.dup2, 1) := by decide +kernel
theorem dX5_holds_98 : decode cX5_holds 98 = .ok (.iaload, 1) := by decide +kernel
theorem dX5_holds_99 : decode cX5_holds 99 = .ok (.iconst 1, 1) := by decide +kernel
theorem dX5_holds_100 : decode cX5_holds 100 = .ok (.iadd, 1) := by decide +kernel
theorem dX5_holds_101 : decode cX5_holds 101 = .ok (.iastore, 1) := by decide +kernel
theorem dX5_holds_102 : decode cX5_holds 102 = .ok (.return_, 1) := by decide +kernel
set_option maxRecDepth 20000 in
theorem ggX5_file_X5_in : GoodIn wsX5_file wsX5_in := goodIn_r _ [9] (by decide +kernel) (by decide +kernel)
set_option maxRecDepth 20000 in
theorem gX5_file_X5_in : GoodIn wsX5_file (va_wsS RX5 114 yX5_in wsX5_in) := goodIn_app (goodIn_of _ (by decide +kernel)) ggX5_file_X5_in
set_option maxRecDepth 20000 in
theorem ggX5_file_X5_refused : GoodIn wsX5_file wsX5_refused := goodIn_r _ [13, 14, 15, 16, 17, 18, 19, 20, 21, 22, 23, 24, 25, 26, 27, 28, 29, 30, 31, 32, 33, 34, 35, 36, 37, 38, 39, 40, 41, 42, 43, 44, 45, 46, 47, 48, 49, 50, 51, 52] (by decide +kernel) (by decide +kernel)
set_option maxRecDepth 20000 in
theorem gX5_file_X5_refused : GoodIn wsX5_file (wsV RX5 128 RX5 yX5_refused wsX5_refused) := goodIn_app (goodIn_of _ (by decide +kernel)) ggX5_file_X5_refused
theorem dX5_file_0 : decode cX5_file 0 = .ok (.iload_n 1, 1) := by decide +kernel
theorem dX5_file_1 : decode cX5_file 1 = .ok (.iconst 0, 1) := by decide +kernel
theorem dX5_file_2 : decode cX5_file 2 = .ok (.aload_n 0, 1) := by decide +kernel
theorem dX5_file_3 : decode cX5_file 3 = .ok (.getfield 135, 3) := by decide +kernel
theorem dX5_file_6 : decode cX5_file 6 = .ok (.invokestatic 114, 3) := by decide +kernel
theorem dX5_file_9 : decode cX5_file 9 = .ok (.ifCond .eq 29, 3) := by decide +kernel
theorem dX5_file_12 : decode cX5_file 12 = .ok (.iload_n 2, 1) := by decide +kernel
theorem dX5_file_13 : decode cX5_file 13 = .ok (.iconst 1, 1) := by decide +kernel
theorem dX5_file_14 : decode cX5_file 14 = .ok (.sipush 255, 3) := by decide +kernel
theorem dX5_file_17 : decode cX5_file 17 = .ok (.invokestatic 114, 3) := by decide +kernel
theorem dX5_file_20 : decode cX5_file 20 = .ok (.ifCond .eq 18, 3) := by decide +kernel
theorem dX5_file_23 : decode cX5_file 23 = .ok (.iload_n 3, 1) := by decide +kernel
theorem dX5_file_24 : decode cX5_file 24 = .ok (.bipush (-9), 2) := by decide +kernel
theorem dX5_file_26 : decode cX5_file 26 = .ok (.bipush 9, 2) := by decide +kernel
theorem dX5_file_28 : decode cX5_file 28 = .ok (.invokestatic 114, 3) := by decide +kernel
theorem dX5_file_31 : decode cX5_file 31 = .ok (.ifCond .eq 7, 3) := by decide +kernel
theorem dX5_file_34 : decode cX5_file 34 = .ok (.iconst 1, 1) := by decide +kernel
theorem dX5_file_35 : decode cX5_file 35 = .ok (.goto 4, 3) := by decide +kernel
theorem dX5_file_38 : decode cX5_file 38 = .ok (.iconst 0, 1) := by decide +kernel
theorem dX5_file_39 : decode cX5_file 39 = .ok (.istore 4, 2) := by decide +kernel
theorem dX5_file_41 : decode cX5_file 41 = .ok (.aload_n 0, 1) := by decide +kernel
theorem dX5_file_42 : decode cX5_file 42 = .ok (.iload 4, 2) := by decide +kernel
theorem dX5_file_44 : decode cX5_file 44 = .ok (.ifCond .ne 7, 3) := by decide +kernel
theorem dX5_file_47 : decode cX5_file 47 = .ok (.iconst 1, 1) := by decide +kernel
theorem dX5_file_48 : decode cX5_file 48 = .ok (.goto 17, 3) := by decide +kernel
theorem dX5_file_51 : decode cX5_file 51 = .ok (.aload_n 0, 1) := by decide +kernel
theorem dX5_file_52 : decode cX5_file 52 = .ok (.getfield 121, 3) := by decide +kernel
theorem dX5_file_55 : decode cX5_file 55 = .ok (.bipush 6, 2) := by decide +kernel
theorem dX5_file_57 : decode cX5_file 57 = .ok (.if_icmp .ne 7, 3) := by decide +kernel
theorem dX5_file_60 : decode cX5_file 60 = .ok (.iconst 2, 1) := by decide +kernel
theorem dX5_file_61 : decode cX5_file 61 = .ok (.goto 4, 3) := by decide +kernel
theorem dX5_file_64 : decode cX5_file 64 = .ok (.iconst 0, 1) := by decide +kernel
theorem dX5_file_65 : decode cX5_file 65 = .ok (.invokevirtual 128, 3) := by decide +kernel
theorem dX5_file_68 : decode cX5_file 68 = .ok (.ifCond .eq 5, 3) := by decide +kernel
theorem dX5_file_71 : decode cX5_file 71 = .ok (.iconst 0, 1) := by decide +kernel
theorem dX5_file_72 : decode cX5_file 72 = .ok (.ireturn, 1) := by decide +kernel
theorem dX5_file_73 : decode cX5_file 73 = .ok (.aload_n 0, 1) := by decide +kernel
theorem dX5_file_74 : decode cX5_file 74 = .ok (.getfield 22, 3) := by decide +kernel
theorem dX5_file_77 : decode cX5_file 77 = .ok (.aload_n 0, 1) := by decide +kernel
theorem dX5_file_78 : decode cX5_file 78 = .ok (.getfield 121, 3) := by decide +kernel
theorem dX5_file_81 : decode cX5_file 81 = .ok (.iload_n 1, 1) := by decide +kernel
theorem dX5_file_82 : decode cX5_file 82 = .ok (.iastore, 1) := by decide +kernel
theorem dX5_file_83 : decode cX5_file 83 = .ok (.aload_n 0, 1) := by decide +kernel
theorem dX5_file_84 : decode cX5_file 84 = .ok (.getfield 25, 3) := by decide +kernel
theorem dX5_file_87 : decode cX5_file 87 = .ok (.aload_n 0, 1) := by decide +kernel
theorem dX5_file_88 : decode cX5_file 88 = .ok (.getfield 121, 3) := by decide +kernel
theorem dX5_file_91 : decode cX5_file 91 = .ok (.iload_n 2, 1) := by decide +kernel
theorem dX5_file_92 : decode cX5_file 92 = .ok (.iastore, 1) := by decide +kernel
theorem dX5_file_93 : decode cX5_file 93 = .ok (.aload_n 0, 1) := by decide +kernel
theorem dX5_file_94 : decode cX5_file 94 = .ok (.getfield 28, 3) := by decide +kernel
theorem dX5_file_97 : decode cX5_file 97 = .ok (.aload_n 0, 1) := by decide +kernel
theorem dX5_file_98 : decode cX5_file 98 = .ok (.getfield 121, 3) := by decide +kernel
theorem dX5_file_101 : decode cX5_file 101 = .ok (.iload_n 3, 1) := by decide +kernel
theorem dX5_file_102 : decode cX5_file 102 = .ok (.iastore, 1) := by decide +kernel
theorem dX5_file_103 : decode cX5_file 103 = .ok (.aload_n 0, 1) := by decide +kernel
theorem dX5_file_104 : decode cX5_file 104 = .ok (.dup, 1) := by decide +kernel
theorem dX5_file_105 : decode cX5_file 105 = .ok (.getfield 121, 3) := by decide +kernel
theorem dX5_file_108 : decode cX5_file 108 = .ok (.iconst 1, 1) := by decide +kernel
theorem dX5_file_109 : decode cX5_file 109 = .ok (.iadd, 1) := by decide +kernel
theorem dX5_file_110 : decode cX5_file 110 = .ok (.putfield 121, 3) := by decide +kernel
theorem dX5_file_113 : decode cX5_file 113 = .ok (.aload_n 0, 1) := by decide +kernel
theorem dX5_file_114 : decode cX5_file 114 = .ok (.getfield 121, 3) := by decide +kernel
theorem dX5_file_117 : decode cX5_file 117 = .ok (.iconst 1, 1) := by decide +kernel
theorem dX5_file_118 : decode cX5_file 118 = .ok (.isub, 1) := by decide +kernel
theorem dX5_file_119 : decode cX5_file 119 = .ok (.ireturn, 1) := by decide +kernel
set_option maxRecDepth 20000 in
theorem ggX5_item_X5_in : GoodIn wsX5_item wsX5_in := goodIn_r _ [16] (by decide +kernel) (by decide +kernel)
set_option maxRecDepth 20000 in
theorem gX5_item_X5_in : GoodIn wsX5_item (va_wsS RX5 114 yX5_in wsX5_in) := goodIn_app (goodIn_of _ (by decide +kernel)) ggX5_item_X5_in
set_option maxRecDepth 20000 in
theorem ggX5_item_X5_refused : GoodIn wsX5_item wsX5_refused := goodIn_r _ [20, 21, 22, 23, 24, 25, 26, 27, 28, 29, 30, 31, 32, 33, 34, 35, 36, 37, 38, 39, 40, 41, 42, 43, 44, 45, 46, 47, 48, 49, 50, 51, 52, 53, 54, 55, 56, 57, 58, 59] (by decide +kernel) (by decide +kernel)
set_option maxRecDepth 20000 in
theorem gX5_item_X5_refused : GoodIn wsX5_item (wsV RX5 128 RX5 yX5_refused wsX5_refused) := goodIn_app (goodIn_of _ (by decide +kernel)) ggX5_item_X5_refused
theorem dX5_item_0 : decode cX5_item 0 = .ok (.iload_n 1, 1) := by decide +kernel
theorem dX5_item_1 : decode cX5_item 1 = .ok (.iconst 0, 1) := by decide +kernel
theorem dX5_item_2 : decode cX5_item 2 = .ok (.aload_n 0, 1) := by decide +kernel
theorem dX5_item_3 : decode cX5_item 3 = .ok (.getfield 121, 3) := by decide +kernel
theorem dX5_item_6 : decode cX5_item 6 = .ok (.iconst 1, 1) := by decide +kernel
theorem dX5_item_7 : decode cX5_item 7 = .ok (.isub, 1) := by decide +kernel
theorem dX5_item_8 : decode cX5_item 8 = .ok (.invokestatic 114, 3) := by decide +kernel
theorem dX5_item_11 : decode cX5_item 11 = .ok (.ifCond .eq 17, 3) := by decide +kernel
theorem dX5_item_14 : decode cX5_item 14 = .ok (.iload_n 2, 1) := by decide +kernel
theorem dX5_item_15 : decode cX5_item 15 = .ok (.iconst 0, 1) := by decide +kernel
theorem dX5_item_16 : decode cX5_item 16 = .ok (.bipush 9, 2) := by decide +kernel
theorem dX5_item_18 : decode cX5_item 18 = .ok (.invokestatic 114, 3) := by decide +kernel
theorem dX5_item_21 : decode cX5_item 21 = .ok (.ifCond .eq 7, 3) := by decide +kernel
theorem dX5_item_24 : decode cX5_item 24 = .ok (.iconst 1, 1) := by decide +kernel
theorem dX5_item_25 : decode cX5_item 25 = .ok (.goto 4, 3) := by decide +kernel
theorem dX5_item_28 : decode cX5_item 28 = .ok (.iconst 0, 1) := by decide +kernel
theorem dX5_item_29 : decode cX5_item 29 = .ok (.istore 7, 2) := by decide +kernel
theorem dX5_item_31 : decode cX5_item 31 = .ok (.iload 7, 2) := by decide +kernel
theorem dX5_item_33 : decode cX5_item 33 = .ok (.ifCond .eq 51, 3) := by decide +kernel
theorem dX5_item_36 : decode cX5_item 36 = .ok (.iload_n 3, 1) := by decide +kernel
theorem dX5_item_37 : decode cX5_item 37 = .ok (.bipush (-9), 2) := by decide +kernel
theorem dX5_item_39 : decode cX5_item 39 = .ok (.bipush 9, 2) := by decide +kernel
theorem dX5_item_41 : decode cX5_item 41 = .ok (.invokestatic 114, 3) := by decide +kernel
theorem dX5_item_44 : decode cX5_item 44 = .ok (.ifCond .eq 40, 3) := by decide +kernel
theorem dX5_item_47 : decode cX5_item 47 = .ok (.iload_n 3, 1) := by decide +kernel
theorem dX5_item_48 : decode cX5_item 48 = .ok (.ifCond .eq 36, 3) := by decide +kernel
theorem dX5_item_51 : decode cX5_item 51 = .ok (.iload 4, 2) := by decide +kernel
theorem dX5_item_53 : decode cX5_item 53 = .ok (.ifCond .le 31, 3) := by decide +kernel
theorem dX5_item_56 : decode cX5_item 56 = .ok (.iload 4, 2) := by decide +kernel
theorem dX5_item_58 : decode cX5_item 58 = .ok (.aload_n 0, 1) := by decide +kernel
theorem dX5_item_59 : decode cX5_item 59 = .ok (.getfield 25, 3) := by decide +kernel
theorem dX5_item_62 : decode cX5_item 62 = .ok (.iload_n 1, 1) := by decide +kernel
theorem dX5_item_63 : decode cX5_item 63 = .ok (.iaload, 1) := by decide +kernel
theorem dX5_item_64 : decode cX5_item 64 = .ok (.iconst (-1), 1) := by decide +kernel
theorem dX5_item_65 : decode cX5_item 65 = .ok (.ixor, 1) := by decide +kernel
theorem dX5_item_66 : decode cX5_item 66 = .ok (.iand, 1) := by decide +kernel
theorem dX5_item_67 : decode cX5_item 67 = .ok (.ifCond .ne 17, 3) := by decide +kernel
theorem dX5_item_70 : decode cX5_item 70 = .ok (.iload 5, 2) := by decide +kernel
theorem dX5_item_72 : decode cX5_item 72 = .ok (.iconst 0, 1) := by decide +kernel
theorem dX5_item_73 : decode cX5_item 73 = .ok (.iconst 2, 1) := by decide +kernel
theorem dX5_item_74 : decode cX5_item 74 = .ok (.invokestatic 114, 3) := by decide +kernel
theorem dX5_item_77 : decode cX5_item 77 = .ok (.ifCond .eq 7, 3) := by decide +kernel
theorem dX5_item_80 : decode cX5_item 80 = .ok (.iconst 1, 1) := by decide +kernel
theorem dX5_item_81 : decode cX5_item 81 = .ok (.goto 4, 3) := by decide +kernel
theorem dX5_item_84 : decode cX5_item 84 = .ok (.iconst 0, 1) := by decide +kernel
theorem dX5_item_85 : decode cX5_item 85 = .ok (.istore 8, 2) := by decide +kernel
theorem dX5_item_87 : decode cX5_item 87 = .ok (.aload_n 0, 1) := by decide +kernel
theorem dX5_item_88 : decode cX5_item 88 = .ok (.iload 7, 2) := by decide +kernel
theorem dX5_item_90 : decode cX5_item 90 = .ok (.ifCond .ne 7, 3) := by decide +kernel
theorem dX5_item_93 : decode cX5_item 93 = .ok (.iconst 1, 1) := by decide +kernel
theorem dX5_item_94 : decode cX5_item 94 = .ok (.goto 26, 3) := by decide +kernel
theorem dX5_item_97 : decode cX5_item 97 = .ok (.iload 8, 2) := by decide +kernel
theorem dX5_item_99 : decode cX5_item 99 = .ok (.ifCond .ne 7, 3) := by decide +kernel
theorem dX5_item_102 : decode cX5_item 102 = .ok (.iconst 2, 1) := by decide +kernel
theorem dX5_item_103 : decode cX5_item 103 = .ok (.goto 17, 3) := by decide +kernel
theorem dX5_item_106 : decode cX5_item 106 = .ok (.aload_n 0, 1) := by decide +kernel
theorem dX5_item_107 : decode cX5_item 107 = .ok (.getfield 118, 3) := by decide +kernel
theorem dX5_item_110 : decode cX5_item 110 = .ok (.bipush 40, 2) := by decide +kernel
theorem dX5_item_112 : decode cX5_item 112 = .ok (.if_icmp .ne 7, 3) := by decide +kernel
theorem dX5_item_115 : decode cX5_item 115 = .ok (.iconst 3, 1) := by decide +kernel
theorem dX5_item_116 : decode cX5_item 116 = .ok (.goto 4, 3) := by decide +kernel
theorem dX5_item_119 : decode cX5_item 119 = .ok (.iconst 0, 1) := by decide +kernel
theorem dX5_item_120 : decode cX5_item 120 = .ok (.invokevirtual 128, 3) := by decide +kernel
theorem dX5_item_123 : decode cX5_item 123 = .ok (.ifCond .eq 5, 3) := by decide +kernel
theorem dX5_item_126 : decode cX5_item 126 = .ok (.iconst 0, 1) := by decide +kernel
theorem dX5_item_127 : decode cX5_item 127 = .ok (.ireturn, 1) := by decide +kernel
theorem dX5_item_128 : decode cX5_item 128 = .ok (.aload_n 0, 1) := by decide +kernel
theorem dX5_item_129 : decode cX5_item 129 = .ok (.getfield 31, 3) := by decide +kernel
theorem dX5_item_132 : decode cX5_item 132 = .ok (.aload_n 0, 1) := by decide +kernel
theorem dX5_item_133 : decode cX5_item 133 = .ok (.getfield 118, 3) := by decide +kernel
theorem dX5_item_136 : decode cX5_item 136 = .ok (.iload_n 1, 1) := by decide +kernel
theorem dX5_item_137 : decode cX5_item 137 = .ok (.iastore, 1) := by decide +kernel
theorem dX5_item_138 : decode cX5_item 138 = .ok (.aload_n 0, 1) := by decide +kernel
theorem dX5_item_139 : decode cX5_item 139 = .ok (.getfield 34, 3) := by decide +kernel
theorem dX5_item_142 : decode cX5_item 142 = .ok (.aload_n 0, 1) := by decide +kernel
theorem dX5_item_143 : decode cX5_item 143 = .ok (.getfield 118, 3) := by decide +kernel
theorem dX5_item_146 : decode cX5_item 146 = .ok (.iload_n 2, 1) := by decide +kernel
theorem dX5_item_147 : decode cX5_item 147 = .ok (.iastore, 1) := by decide +kernel
theorem dX5_item_148 : decode cX5_item 148 = .ok (.aload_n 0, 1) := by decide +kernel
theorem dX5_item_149 : decode cX5_item 149 = .ok (.getfield 37, 3) := by decide +kernel
theorem dX5_item_152 : decode cX5_item 152 = .ok (.aload_n 0, 1) := by decide +kernel
theorem dX5_item_153 : decode cX5_item 153 = .ok (.getfield 118, 3) := by decide +kernel
theorem dX5_item_156 : decode cX5_item 156 = .ok (.iload_n 3, 1) := by decide +kernel
theorem dX5_item_157 : decode cX5_item 157 = .ok (.iastore, 1) := by decide +kernel
theorem dX5_item_158 : decode cX5_item 158 = .ok (.aload_n 0, 1) := by decide +kernel
theorem dX5_item_159 : decode cX5_item 159 = .ok (.getfield 40, 3) := by decide +kernel
theorem dX5_item_162 : decode cX5_item 162 = .ok (.aload_n 0, 1) := by decide +kernel
theorem dX5_item_163 : decode cX5_item 163 = .ok (.getfield 118, 3) := by decide +kernel
theorem dX5_item_166 : decode cX5_item 166 = .ok (.iload 4, 2) := by decide +kernel
theorem dX5_item_168 : decode cX5_item 168 = .ok (.iastore, 1) := by decide +kernel
theorem dX5_item_169 : decode cX5_item 169 = .ok (.aload_n 0, 1) := by decide +kernel
theorem dX5_item_170 : decode cX5_item 170 = .ok (.getfield 43, 3) := by decide +kernel
theorem dX5_item_173 : decode cX5_item 173 = .ok (.aload_n 0, 1) := by decide +kernel
theorem dX5_item_174 : decode cX5_item 174 = .ok (.getfield 118, 3) := by decide +kernel
theorem dX5_item_177 : decode cX5_item 177 = .ok (.iload 5, 2) := by decide +kernel
theorem dX5_item_179 : decode cX5_item 179 = .ok (.iastore, 1) := by decide +kernel
theorem dX5_item_180 : decode cX5_item 180 = .ok (.aload_n 0, 1) := by decide +kernel
theorem dX5_item_181 : decode cX5_item 181 = .ok (.getfield 46, 3) := by decide +kernel
theorem dX5_item_184 : decode cX5_item 184 = .ok (.aload_n 0, 1) := by decide +kernel
theorem dX5_item_185 : decode cX5_item 185 = .ok (.getfield 118, 3) := by decide +kernel
theorem dX5_item_188 : decode cX5_item 188 = .ok (.iload 6, 2) := by decide +kernel
theorem dX5_item_190 : decode cX5_item 190 = .ok (.bastore, 1) := by decide +kernel
theorem dX5_item_191 : decode cX5_item 191 = .ok (.aload_n 0, 1) := by decide +kernel
theorem dX5_item_192 : decode cX5_item 192 = .ok (.getfield 50, 3) := by decide +kernel
theorem dX5_item_195 : decode cX5_item 195 = .ok (.aload_n 0, 1) := by decide +kernel
theorem dX5_item_196 : decode cX5_item 196 = .ok (.getfield 118, 3) := by decide +kernel
theorem dX5_item_199 : decode cX5_item 199 = .ok (.aload_n 0, 1) := by decide +kernel
theorem dX5_item_200 : decode cX5_item 200 = .ok (.getfield 135, 3) := by decide +kernel
theorem dX5_item_203 : decode cX5_item 203 = .ok (.iastore, 1) := by decide +kernel
theorem dX5_item_204 : decode cX5_item 204 = .ok (.aload_n 0, 1) := by decide +kernel
theorem dX5_item_205 : decode cX5_item 205 = .ok (.getfield 53, 3) := by decide +kernel
theorem dX5_item_208 : decode cX5_item 208 = .ok (.aload_n 0, 1) := by decide +kernel
theorem dX5_item_209 : decode cX5_item 209 = .ok (.getfield 118, 3) := by decide +kernel
theorem dX5_item_212 : decode cX5_item 212 = .ok (.iconst (-1), 1) := by decide +kernel
theorem dX5_item_213 : decode cX5_item 213 = .ok (.iastore, 1) := by decide +kernel
theorem dX5_item_214 : decode cX5_item 214 = .ok (.aload_n 0, 1) := by decide +kernel
theorem dX5_item_215 : decode cX5_item 215 = .ok (.dup, 1) := by decide +kernel
theorem dX5_item_216 : decode cX5_item 216 = .ok (.getfield 118, 3) := by decide +kernel
theorem dX5_item_219 : decode cX5_item 219 = .ok (.iconst 1, 1) := by decide +kernel
theorem dX5_item_220 : decode cX5_item 220 = .ok (.iadd, 1) := by decide +kernel
theorem dX5_item_221 : decode cX5_item 221 = .ok (.putfield 118, 3) := by decide +kernel
theorem dX5_item_224 : decode cX5_item 224 = .ok (.aload_n 0, 1) := by decide +kernel
theorem dX5_item_225 : decode cX5_item 225 = .ok (.getfield 118, 3) := by decide +kernel
theorem dX5_item_228 : decode cX5_item 228 = .ok (.iconst 1, 1) := by decide +kernel
theorem dX5_item_229 : decode cX5_item 229 = .ok (.isub, 1) := by decide +kernel
theorem dX5_item_230 : decode cX5_item 230 = .ok (.ireturn, 1) := by decide +kernel
set_option maxRecDepth 20000 in
theorem ggX5_admit_X5_isItem : GoodIn wsX5_admit wsX5_isItem := goodIn_r _ [8, 9, 10, 11, 7, 12, 18, 19, 20, 21, 22, 23, 24, 25, 26, 27, 28, 29, 30, 31, 32, 33, 34, 35, 36, 37, 38, 39, 40, 41, 42, 43, 44, 45, 46, 47, 48, 49, 50, 51, 52, 53, 54, 55] (by decide +kernel) (by decide +kernel)
set_option maxRecDepth 20000 in
theorem gX5_admit_X5_isItem : GoodIn wsX5_admit (wsV RX5 142 RX5 yX5_isItem wsX5_isItem) := goodIn_app (goodIn_of _ (by decide +kernel)) ggX5_admit_X5_isItem
set_option maxRecDepth 20000 in
theorem ggX5_admit_X5_refused : GoodIn wsX5_admit wsX5_refused := goodIn_r _ [16, 17, 18, 19, 20, 21, 22, 23, 24, 25, 26, 27, 28, 29, 30, 31, 32, 33, 34, 35, 36, 37, 38, 39, 40, 41, 42, 43, 44, 45, 46, 47, 48, 49, 50, 51, 52, 53, 54, 55] (by decide +kernel) (by decide +kernel)
set_option maxRecDepth 20000 in
theorem gX5_admit_X5_refused : GoodIn wsX5_admit (wsV RX5 128 RX5 yX5_refused wsX5_refused) := goodIn_app (goodIn_of _ (by decide +kernel)) ggX5_admit_X5_refused
theorem dX5_admit_0 : decode cX5_admit 0 = .ok (.aload_n 0, 1) := by decide +kernel
theorem dX5_admit_1 : decode cX5_admit 1 = .ok (.iload_n 1, 1) := by decide +kernel
theorem dX5_admit_2 : decode cX5_admit 2 = .ok (.invokevirtual 142, 3) := by decide +kernel
theorem dX5_admit_5 : decode cX5_admit 5 = .ok (.istore_n 2, 1) := by decide +kernel
theorem dX5_admit_6 : decode cX5_admit 6 = .ok (.aload_n 0, 1) := by decide +kernel
theorem dX5_admit_7 : decode cX5_admit 7 = .ok (.iload_n 2, 1) := by decide +kernel
theorem dX5_admit_8 : decode cX5_admit 8 = .ok (.ifCond .ne 7, 3) := by decide +kernel
theorem dX5_admit_11 : decode cX5_admit 11 = .ok (.iconst 1, 1) := by decide +kernel
theorem dX5_admit_12 : decode cX5_admit 12 = .ok (.goto 28, 3) := by decide +kernel
theorem dX5_admit_15 : decode cX5_admit 15 = .ok (.aload_n 0, 1) := by decide +kernel
theorem dX5_admit_16 : decode cX5_admit 16 = .ok (.getfield 43, 3) := by decide +kernel
theorem dX5_admit_19 : decode cX5_admit 19 = .ok (.iload_n 1, 1) := by decide +kernel
theorem dX5_admit_20 : decode cX5_admit 20 = .ok (.iaload, 1) := by decide +kernel
theorem dX5_admit_21 : decode cX5_admit 21 = .ok (.iconst 1, 1) := by decide +kernel
theorem dX5_admit_22 : decode cX5_admit 22 = .ok (.if_icmp .ne 13, 3) := by decide +kernel
theorem dX5_admit_25 : decode cX5_admit 25 = .ok (.aload_n 0, 1) := by decide +kernel
theorem dX5_admit_26 : decode cX5_admit 26 = .ok (.getfield 53, 3) := by decide +kernel
theorem dX5_admit_29 : decode cX5_admit 29 = .ok (.iload_n 1, 1) := by decide +kernel
theorem dX5_admit_30 : decode cX5_admit 30 = .ok (.iaload, 1) := by decide +kernel
theorem dX5_admit_31 : decode cX5_admit 31 = .ok (.iconst (-1), 1) := by decide +kernel
theorem dX5_admit_32 : decode cX5_admit 32 = .ok (.if_icmp .eq 7, 3) := by decide +kernel
theorem dX5_admit_35 : decode cX5_admit 35 = .ok (.iconst 2, 1) := by decide +kernel
theorem dX5_admit_36 : decode cX5_admit 36 = .ok (.goto 4, 3) := by decide +kernel
theorem dX5_admit_39 : decode cX5_admit 39 = .ok (.iconst 0, 1) := by decide +kernel
theorem dX5_admit_40 : decode cX5_admit 40 = .ok (.invokevirtual 128, 3) := by decide +kernel
theorem dX5_admit_43 : decode cX5_admit 43 = .ok (.ifCond .eq 4, 3) := by decide +kernel
theorem dX5_admit_46 : decode cX5_admit 46 = .ok (.return_, 1) := by decide +kernel
theorem dX5_admit_47 : decode cX5_admit 47 = .ok (.aload_n 0, 1) := by decide +kernel
theorem dX5_admit_48 : decode cX5_admit 48 = .ok (.getfield 53, 3) := by decide +kernel
theorem dX5_admit_51 : decode cX5_admit 51 = .ok (.iload_n 1, 1) := by decide +kernel
theorem dX5_admit_52 : decode cX5_admit 52 = .ok (.aload_n 0, 1) := by decide +kernel
theorem dX5_admit_53 : decode cX5_admit 53 = .ok (.getfield 135, 3) := by decide +kernel
theorem dX5_admit_56 : decode cX5_admit 56 = .ok (.iastore, 1) := by decide +kernel
theorem dX5_admit_57 : decode cX5_admit 57 = .ok (.return_, 1) := by decide +kernel
set_option maxRecDepth 20000 in
theorem ggX5_lacking_X5_has : GoodIn wsX5_lacking wsX5_has := goodIn_r _ [10] (by decide +kernel) (by decide +kernel)
set_option maxRecDepth 20000 in
theorem gX5_lacking_X5_has : GoodIn wsX5_lacking (va_wsS RX5 124 yX5_has wsX5_has) := goodIn_app (goodIn_of _ (by decide +kernel)) ggX5_lacking_X5_has
theorem dX5_lacking_0 : decode cX5_lacking 0 = .ok (.iconst 0, 1) := by decide +kernel
theorem dX5_lacking_1 : decode cX5_lacking 1 = .ok (.istore_n 3, 1) := by decide +kernel
theorem dX5_lacking_2 : decode cX5_lacking 2 = .ok (.iconst 0, 1) := by decide +kernel
theorem dX5_lacking_3 : decode cX5_lacking 3 = .ok (.istore 4, 2) := by decide +kernel
theorem dX5_lacking_5 : decode cX5_lacking 5 = .ok (.iload 4, 2) := by decide +kernel
theorem dX5_lacking_7 : decode cX5_lacking 7 = .ok (.aload_n 0, 1) := by decide +kernel
theorem dX5_lacking_8 : decode cX5_lacking 8 = .ok (.getfield 118, 3) := by decide +kernel
theorem dX5_lacking_11 : decode cX5_lacking 11 = .ok (.if_icmp .ge 88, 3) := by decide +kernel
theorem dX5_lacking_14 : decode cX5_lacking 14 = .ok (.aload_n 0, 1) := by decide +kernel
theorem dX5_lacking_15 : decode cX5_lacking 15 = .ok (.getfield 31, 3) := by decide +kernel
theorem dX5_lacking_18 : decode cX5_lacking 18 = .ok (.iload 4, 2) := by decide +kernel
theorem dX5_lacking_20 : decode cX5_lacking 20 = .ok (.iaload, 1) := by decide +kernel
theorem dX5_lacking_21 : decode cX5_lacking 21 = .ok (.iload_n 1, 1) := by decide +kernel
theorem dX5_lacking_22 : decode cX5_lacking 22 = .ok (.if_icmp .ne 31, 3) := by decide +kernel
theorem dX5_lacking_25 : decode cX5_lacking 25 = .ok (.aload_n 0, 1) := by decide +kernel
theorem dX5_lacking_26 : decode cX5_lacking 26 = .ok (.getfield 37, 3) := by decide +kernel
theorem dX5_lacking_29 : decode cX5_lacking 29 = .ok (.iload 4, 2) := by decide +kernel
theorem dX5_lacking_31 : decode cX5_lacking 31 = .ok (.iaload, 1) := by decide +kernel
theorem dX5_lacking_32 : decode cX5_lacking 32 = .ok (.ifCond .ge 21, 3) := by decide +kernel
theorem dX5_lacking_35 : decode cX5_lacking 35 = .ok (.aload_n 0, 1) := by decide +kernel
theorem dX5_lacking_36 : decode cX5_lacking 36 = .ok (.getfield 40, 3) := by decide +kernel
theorem dX5_lacking_39 : decode cX5_lacking 39 = .ok (.iload 4, 2) := by decide +kernel
theorem dX5_lacking_41 : decode cX5_lacking 41 = .ok (.iaload, 1) := by decide +kernel
theorem dX5_lacking_42 : decode cX5_lacking 42 = .ok (.iload_n 2, 1) := by decide +kernel
theorem dX5_lacking_43 : decode cX5_lacking 43 = .ok (.invokestatic 124, 3) := by decide +kernel
theorem dX5_lacking_46 : decode cX5_lacking 46 = .ok (.ifCond .eq 7, 3) := by decide +kernel
theorem dX5_lacking_49 : decode cX5_lacking 49 = .ok (.iconst 1, 1) := by decide +kernel
theorem dX5_lacking_50 : decode cX5_lacking 50 = .ok (.goto 4, 3) := by decide +kernel
theorem dX5_lacking_53 : decode cX5_lacking 53 = .ok (.iconst 0, 1) := by decide +kernel
theorem dX5_lacking_54 : decode cX5_lacking 54 = .ok (.istore 5, 2) := by decide +kernel
theorem dX5_lacking_56 : decode cX5_lacking 56 = .ok (.iload_n 3, 1) := by decide +kernel
theorem dX5_lacking_57 : decode cX5_lacking 57 = .ok (.iload 5, 2) := by decide +kernel
theorem dX5_lacking_59 : decode cX5_lacking 59 = .ok (.ifCond .eq 31, 3) := by decide +kernel
theorem dX5_lacking_62 : decode cX5_lacking 62 = .ok (.aload_n 0, 1) := by decide +kernel
theorem dX5_lacking_63 : decode cX5_lacking 63 = .ok (.getfield 56, 3) := by decide +kernel
theorem dX5_lacking_66 : decode cX5_lacking 66 = .ok (.iload 4, 2) := by decide +kernel
theorem dX5_lacking_68 : decode cX5_lacking 68 = .ok (.iaload, 1) := by decide +kernel
theorem dX5_lacking_69 : decode cX5_lacking 69 = .ok (.iload_n 2, 1) := by decide +kernel
theorem dX5_lacking_70 : decode cX5_lacking 70 = .ok (.invokestatic 124, 3) := by decide +kernel
theorem dX5_lacking_73 : decode cX5_lacking 73 = .ok (.ifCond .ne 17, 3) := by decide +kernel
theorem dX5_lacking_76 : decode cX5_lacking 76 = .ok (.aload_n 0, 1) := by decide +kernel
theorem dX5_lacking_77 : decode cX5_lacking 77 = .ok (.getfield 59, 3) := by decide +kernel
theorem dX5_lacking_80 : decode cX5_lacking 80 = .ok (.iload 4, 2) := by decide +kernel
theorem dX5_lacking_82 : decode cX5_lacking 82 = .ok (.baload, 1) := by decide +kernel
theorem dX5_lacking_83 : decode cX5_lacking 83 = .ok (.ifCond .ne 7, 3) := by decide +kernel
theorem dX5_lacking_86 : decode cX5_lacking 86 = .ok (.iconst 1, 1) := by decide +kernel
theorem dX5_lacking_87 : decode cX5_lacking 87 = .ok (.goto 4, 3) := by decide +kernel
theorem dX5_lacking_90 : decode cX5_lacking 90 = .ok (.iconst 0, 1) := by decide +kernel
theorem dX5_lacking_91 : decode cX5_lacking 91 = .ok (.iadd, 1) := by decide +kernel
theorem dX5_lacking_92 : decode cX5_lacking 92 = .ok (.istore_n 3, 1) := by decide +kernel
theorem dX5_lacking_93 : decode cX5_lacking 93 = .ok (.iinc 4 1, 3) := by decide +kernel
theorem dX5_lacking_96 : decode cX5_lacking 96 = .ok (.goto (-91), 3) := by decide +kernel
theorem dX5_lacking_99 : decode cX5_lacking 99 = .ok (.iload_n 3, 1) := by decide +kernel
theorem dX5_lacking_100 : decode cX5_lacking 100 = .ok (.ireturn, 1) := by decide +kernel
set_option maxRecDepth 20000 in
theorem ggX5_show_X5_isItem : GoodIn wsX5_show wsX5_isItem := goodIn_r _ [8, 9, 10, 11, 7, 12, 27, 28, 29, 30, 31, 32, 33, 34, 35, 36, 37, 38, 39, 40, 41, 42, 43, 44, 45, 46, 47, 48, 49, 50, 51, 52, 53, 54, 55, 56, 57, 58, 59, 60, 61, 62, 63, 64] (by decide +kernel) (by decide +kernel)
set_option maxRecDepth 20000 in
theorem gX5_show_X5_isItem : GoodIn wsX5_show (wsV RX5 142 RX5 yX5_isItem wsX5_isItem) := goodIn_app (goodIn_of _ (by decide +kernel)) ggX5_show_X5_isItem
set_option maxRecDepth 20000 in
theorem ggX5_show_X5_in : GoodIn wsX5_show wsX5_in := goodIn_r _ [12] (by decide +kernel) (by decide +kernel)
set_option maxRecDepth 20000 in
theorem gX5_show_X5_in : GoodIn wsX5_show (va_wsS RX5 114 yX5_in wsX5_in) := goodIn_app (goodIn_of _ (by decide +kernel)) ggX5_show_X5_in
set_option maxRecDepth 20000 in
theorem ggX5_show_X5_has : GoodIn wsX5_show wsX5_has := goodIn_r _ [15] (by decide +kernel) (by decide +kernel)
set_option maxRecDepth 20000 in
theorem gX5_show_X5_has : GoodIn wsX5_show (va_wsS RX5 124 yX5_has wsX5_has) := goodIn_app (goodIn_of _ (by decide +kernel)) ggX5_show_X5_has
set_option maxRecDepth 20000 in
theorem ggX5_show_X5_refused : GoodIn wsX5_show wsX5_refused := goodIn_r _ [19, 20, 27, 28, 29, 30, 31, 32, 33, 34, 35, 36, 37, 38, 39, 40, 41, 42, 43, 44, 45, 46, 47, 48, 49, 50, 51, 52, 53, 54, 55, 56, 57, 58, 59, 60, 61, 62, 63, 64] (by decide +kernel) (by decide +kernel)
set_option maxRecDepth 20000 in
theorem gX5_show_X5_refused : GoodIn wsX5_show (wsV RX5 128 RX5 yX5_refused wsX5_refused) := goodIn_app (goodIn_of _ (by decide +kernel)) ggX5_show_X5_refused
set_option maxRecDepth 20000 in
theorem ggX5_show_X5_lacking : GoodIn wsX5_show wsX5_lacking := goodIn_r _ [24, 9, 3, 25, 1, 2, 26, 13, 14, 7, 15, 27, 28, 29, 30, 31, 32, 33, 34, 35, 36, 37, 38, 39, 40, 41, 42, 43, 44, 45, 46, 47, 48, 49, 50, 51, 52, 53, 54, 55, 56, 57, 58, 59, 60, 61, 62, 63, 64] (by decide +kernel) (by decide +kernel)
set_option maxRecDepth 20000 in
theorem gX5_show_X5_lacking : GoodIn wsX5_show (wsV RX5 145 RX5 yX5_lacking wsX5_lacking) := goodIn_app (goodIn_of _ (by decide +kernel)) ggX5_show_X5_lacking
theorem dX5_show_0 : decode cX5_show 0 = .ok (.aload_n 0, 1) := by decide +kernel
theorem dX5_show_1 : decode cX5_show 1 = .ok (.iload_n 1, 1) := by decide +kernel
theorem dX5_show_2 : decode cX5_show 2 = .ok (.invokevirtual 142, 3) := by decide +kernel
theorem dX5_show_5 : decode cX5_show 5 = .ok (.ifCond .eq 17, 3) := by decide +kernel
theorem dX5_show_8 : decode cX5_show 8 = .ok (.iload_n 2, 1) := by decide +kernel
theorem dX5_show_9 : decode cX5_show 9 = .ok (.iconst 0, 1) := by decide +kernel
theorem dX5_show_10 : decode cX5_show 10 = .ok (.bipush 7, 2) := by decide +kernel
theorem dX5_show_12 : decode cX5_show 12 = .ok (.invokestatic 114, 3) := by decide +kernel
theorem dX5_show_15 : decode cX5_show 15 = .ok (.ifCond .eq 7, 3) := by decide +kernel
theorem dX5_show_18 : decode cX5_show 18 = .ok (.iconst 1, 1) := by decide +kernel
theorem dX5_show_19 : decode cX5_show 19 = .ok (.goto 4, 3) := by decide +kernel
theorem dX5_show_22 : decode cX5_show 22 = .ok (.iconst 0, 1) := by decide +kernel
theorem dX5_show_23 : decode cX5_show 23 = .ok (.istore_n 3, 1) := by decide +kernel
theorem dX5_show_24 : decode cX5_show 24 = .ok (.aload_n 0, 1) := by decide +kernel
theorem dX5_show_25 : decode cX5_show 25 = .ok (.iload_n 3, 1) := by decide +kernel
theorem dX5_show_26 : decode cX5_show 26 = .ok (.ifCond .ne 7, 3) := by decide +kernel
theorem dX5_show_29 : decode cX5_show 29 = .ok (.iconst 1, 1) := by decide +kernel
theorem dX5_show_30 : decode cX5_show 30 = .ok (.goto 34, 3) := by decide +kernel
theorem dX5_show_33 : decode cX5_show 33 = .ok (.aload_n 0, 1) := by decide +kernel
theorem dX5_show_34 : decode cX5_show 34 = .ok (.getfield 40, 3) := by decide +kernel
theorem dX5_show_37 : decode cX5_show 37 = .ok (.iload_n 1, 1) := by decide +kernel
theorem dX5_show_38 : decode cX5_show 38 = .ok (.iaload, 1) := by decide +kernel
theorem dX5_show_39 : decode cX5_show 39 = .ok (.iload_n 2, 1) := by decide +kernel
theorem dX5_show_40 : decode cX5_show 40 = .ok (.invokestatic 124, 3) := by decide +kernel
theorem dX5_show_43 : decode cX5_show 43 = .ok (.ifCond .eq 16, 3) := by decide +kernel
theorem dX5_show_46 : decode cX5_show 46 = .ok (.aload_n 0, 1) := by decide +kernel
theorem dX5_show_47 : decode cX5_show 47 = .ok (.getfield 56, 3) := by decide +kernel
theorem dX5_show_50 : decode cX5_show 50 = .ok (.iload_n 1, 1) := by decide +kernel
theorem dX5_show_51 : decode cX5_show 51 = .ok (.iaload, 1) := by decide +kernel
theorem dX5_show_52 : decode cX5_show 52 = .ok (.iload_n 2, 1) := by decide +kernel
theorem dX5_show_53 : decode cX5_show 53 = .ok (.invokestatic 124, 3) := by decide +kernel
theorem dX5_show_56 : decode cX5_show 56 = .ok (.ifCond .eq 7, 3) := by decide +kernel
theorem dX5_show_59 : decode cX5_show 59 = .ok (.iconst 2, 1) := by decide +kernel
theorem dX5_show_60 : decode cX5_show 60 = .ok (.goto 4, 3) := by decide +kernel
theorem dX5_show_63 : decode cX5_show 63 = .ok (.iconst 0, 1) := by decide +kernel
theorem dX5_show_64 : decode cX5_show 64 = .ok (.invokevirtual 128, 3) := by decide +kernel
theorem dX5_show_67 : decode cX5_show 67 = .ok (.ifCond .eq 5, 3) := by decide +kernel
theorem dX5_show_70 : decode cX5_show 70 = .ok (.iconst 0, 1) := by decide +kernel
theorem dX5_show_71 : decode cX5_show 71 = .ok (.ireturn, 1) := by decide +kernel
theorem dX5_show_72 : decode cX5_show 72 = .ok (.aload_n 0, 1) := by decide +kernel
theorem dX5_show_73 : decode cX5_show 73 = .ok (.getfield 56, 3) := by decide +kernel
theorem dX5_show_76 : decode cX5_show 76 = .ok (.iload_n 1, 1) := by decide +kernel
theorem dX5_show_77 : decode cX5_show 77 = .ok (.dup2, 1) := by decide +kernel
theorem dX5_show_78 : decode cX5_show 78 = .ok (.iaload, 1) := by decide +kernel
theorem dX5_show_79 : decode cX5_show 79 = .ok (.iconst 1, 1) := by decide +kernel
theorem dX5_show_80 : decode cX5_show 80 = .ok (.iload_n 2, 1) := by decide +kernel
theorem dX5_show_81 : decode cX5_show 81 = .ok (.ishl, 1) := by decide +kernel
theorem dX5_show_82 : decode cX5_show 82 = .ok (.ior, 1) := by decide +kernel
theorem dX5_show_83 : decode cX5_show 83 = .ok (.iastore, 1) := by decide +kernel
theorem dX5_show_84 : decode cX5_show 84 = .ok (.aload_n 0, 1) := by decide +kernel
theorem dX5_show_85 : decode cX5_show 85 = .ok (.aload_n 0, 1) := by decide +kernel
theorem dX5_show_86 : decode cX5_show 86 = .ok (.getfield 31, 3) := by decide +kernel
theorem dX5_show_89 : decode cX5_show 89 = .ok (.iload_n 1, 1) := by decide +kernel
theorem dX5_show_90 : decode cX5_show 90 = .ok (.iaload, 1) := by decide +kernel
theorem dX5_show_91 : decode cX5_show 91 = .ok (.iload_n 2, 1) := by decide +kernel
theorem dX5_show_92 : decode cX5_show 92 = .ok (.invokevirtual 145, 3) := by decide +kernel
theorem dX5_show_95 : decode cX5_show 95 = .ok (.ireturn, 1) := by decide +kernel
set_option maxRecDepth 20000 in
theorem ggX5_withhold_X5_isItem : GoodIn wsX5_withhold wsX5_isItem := goodIn_r _ [7, 8, 9, 10, 6, 11, 17, 18, 19, 20, 21, 22, 23, 24, 25, 26, 27, 28, 29, 30, 31, 32, 33, 34, 35, 36, 37, 38, 39, 40, 41, 42, 43, 44, 45, 46, 47, 48, 49, 50, 51, 52, 53, 54] (by decide +kernel) (by decide +kernel)
set_option maxRecDepth 20000 in
theorem gX5_withhold_X5_isItem : GoodIn wsX5_withhold (wsV RX5 142 RX5 yX5_isItem wsX5_isItem) := goodIn_app (goodIn_of _ (by decide +kernel)) ggX5_withhold_X5_isItem
set_option maxRecDepth 20000 in
theorem ggX5_withhold_X5_refused : GoodIn wsX5_withhold wsX5_refused := goodIn_r _ [15, 16, 17, 18, 19, 20, 21, 22, 23, 24, 25, 26, 27, 28, 29, 30, 31, 32, 33, 34, 35, 36, 37, 38, 39, 40, 41, 42, 43, 44, 45, 46, 47, 48, 49, 50, 51, 52, 53, 54] (by decide +kernel) (by decide +kernel)
set_option maxRecDepth 20000 in
theorem gX5_withhold_X5_refused : GoodIn wsX5_withhold (wsV RX5 128 RX5 yX5_refused wsX5_refused) := goodIn_app (goodIn_of _ (by decide +kernel)) ggX5_withhold_X5_refused
theorem dX5_withhold_0 : decode cX5_withhold 0 = .ok (.aload_n 0, 1) := by decide +kernel
theorem dX5_withhold_1 : decode cX5_withhold 1 = .ok (.iload_n 1, 1) := by decide +kernel
theorem dX5_withhold_2 : decode cX5_withhold 2 = .ok (.invokevirtual 142, 3) := by decide +kernel
theorem dX5_withhold_5 : decode cX5_withhold 5 = .ok (.istore_n 2, 1) := by decide +kernel
theorem dX5_withhold_6 : decode cX5_withhold 6 = .ok (.aload_n 0, 1) := by decide +kernel
theorem dX5_withhold_7 : decode cX5_withhold 7 = .ok (.iload_n 2, 1) := by decide +kernel
theorem dX5_withhold_8 : decode cX5_withhold 8 = .ok (.ifCond .ne 7, 3) := by decide +kernel
theorem dX5_withhold_11 : decode cX5_withhold 11 = .ok (.iconst 1, 1) := by decide +kernel
theorem dX5_withhold_12 : decode cX5_withhold 12 = .ok (.goto 26, 3) := by decide +kernel
theorem dX5_withhold_15 : decode cX5_withhold 15 = .ok (.aload_n 0, 1) := by decide +kernel
theorem dX5_withhold_16 : decode cX5_withhold 16 = .ok (.getfield 46, 3) := by decide +kernel
theorem dX5_withhold_19 : decode cX5_withhold 19 = .ok (.iload_n 1, 1) := by decide +kernel
theorem dX5_withhold_20 : decode cX5_withhold 20 = .ok (.baload, 1) := by decide +kernel
theorem dX5_withhold_21 : decode cX5_withhold 21 = .ok (.ifCond .eq 12, 3) := by decide +kernel
theorem dX5_withhold_24 : decode cX5_withhold 24 = .ok (.aload_n 0, 1) := by decide +kernel
theorem dX5_withhold_25 : decode cX5_withhold 25 = .ok (.getfield 59, 3) := by decide +kernel
theorem dX5_withhold_28 : decode cX5_withhold 28 = .ok (.iload_n 1, 1) := by decide +kernel
theorem dX5_withhold_29 : decode cX5_withhold 29 = .ok (.baload, 1) := by decide +kernel
theorem dX5_withhold_30 : decode cX5_withhold 30 = .ok (.ifCond .eq 7, 3) := by decide +kernel
theorem dX5_withhold_33 : decode cX5_withhold 33 = .ok (.iconst 2, 1) := by decide +kernel
theorem dX5_withhold_34 : decode cX5_withhold 34 = .ok (.goto 4, 3) := by decide +kernel
theorem dX5_withhold_37 : decode cX5_withhold 37 = .ok (.iconst 0, 1) := by decide +kernel
theorem dX5_withhold_38 : decode cX5_withhold 38 = .ok (.invokevirtual 128, 3) := by decide +kernel
theorem dX5_withhold_41 : decode cX5_withhold 41 = .ok (.ifCond .eq 4, 3) := by decide +kernel
theorem dX5_withhold_44 : decode cX5_withhold 44 = .ok (.return_, 1) := by decide +kernel
theorem dX5_withhold_45 : decode cX5_withhold 45 = .ok (.aload_n 0, 1) := by decide +kernel
theorem dX5_withhold_46 : decode cX5_withhold 46 = .ok (.getfield 59, 3) := by decide +kernel
theorem dX5_withhold_49 : decode cX5_withhold 49 = .ok (.iload_n 1, 1) := by decide +kernel
theorem dX5_withhold_50 : decode cX5_withhold 50 = .ok (.iconst 1, 1) := by decide +kernel
theorem dX5_withhold_51 : decode cX5_withhold 51 = .ok (.bastore, 1) := by decide +kernel
theorem dX5_withhold_52 : decode cX5_withhold 52 = .ok (.return_, 1) := by decide +kernel
set_option maxRecDepth 20000 in
theorem ggX5_strengthOf_X5_has : GoodIn wsX5_strengthOf wsX5_has := goodIn_r _ [12] (by decide +kernel) (by decide +kernel)
set_option maxRecDepth 20000 in
theorem gX5_strengthOf_X5_has : GoodIn wsX5_strengthOf (va_wsS RX5 124 yX5_has wsX5_has) := goodIn_app (goodIn_of _ (by decide +kernel)) ggX5_strengthOf_X5_has
theorem dX5_strengthOf_0 : decode cX5_strengthOf 0 = .ok (.iconst 0, 1) := by decide +kernel
theorem dX5_strengthOf_1 : decode cX5_strengthOf 1 = .ok (.istore 4, 2) := by decide +kernel
theorem dX5_strengthOf_3 : decode cX5_strengthOf 3 = .ok (.iconst 0, 1) := by decide +kernel
theorem dX5_strengthOf_4 : decode cX5_strengthOf 4 = .ok (.istore 5, 2) := by decide +kernel
theorem dX5_strengthOf_6 : decode cX5_strengthOf 6 = .ok (.iload 5, 2) := by decide +kernel
theorem dX5_strengthOf_8 : decode cX5_strengthOf 8 = .ok (.aload_n 0, 1) := by decide +kernel
theorem dX5_strengthOf_9 : decode cX5_strengthOf 9 = .ok (.getfield 118, 3) := by decide +kernel
theorem dX5_strengthOf_12 : decode cX5_strengthOf 12 = .ok (.if_icmp .ge 134, 3) := by decide +kernel
theorem dX5_strengthOf_15 : decode cX5_strengthOf 15 = .ok (.aload_n 0, 1) := by decide +kernel
theorem dX5_strengthOf_16 : decode cX5_strengthOf 16 = .ok (.getfield 31, 3) := by decide +kernel
theorem dX5_strengthOf_19 : decode cX5_strengthOf 19 = .ok (.iload 5, 2) := by decide +kernel
theorem dX5_strengthOf_21 : decode cX5_strengthOf 21 = .ok (.iaload, 1) := by decide +kernel
theorem dX5_strengthOf_22 : decode cX5_strengthOf 22 = .ok (.iload_n 1, 1) := by decide +kernel
theorem dX5_strengthOf_23 : decode cX5_strengthOf 23 = .ok (.bipush 8, 2) := by decide +kernel
theorem dX5_strengthOf_25 : decode cX5_strengthOf 25 = .ok (.idiv, 1) := by decide +kernel
theorem dX5_strengthOf_26 : decode cX5_strengthOf 26 = .ok (.if_icmp .ne 35, 3) := by decide +kernel
theorem dX5_strengthOf_29 : decode cX5_strengthOf 29 = .ok (.aload_n 0, 1) := by decide +kernel
theorem dX5_strengthOf_30 : decode cX5_strengthOf 30 = .ok (.getfield 34, 3) := by decide +kernel
theorem dX5_strengthOf_33 : decode cX5_strengthOf 33 = .ok (.iload 5, 2) := by decide +kernel
theorem dX5_strengthOf_35 : decode cX5_strengthOf 35 = .ok (.iaload, 1) := by decide +kernel
theorem dX5_strengthOf_36 : decode cX5_strengthOf 36 = .ok (.iload_n 2, 1) := by decide +kernel
theorem dX5_strengthOf_37 : decode cX5_strengthOf 37 = .ok (.if_icmp .ne 24, 3) := by decide +kernel
theorem dX5_strengthOf_40 : decode cX5_strengthOf 40 = .ok (.aload_n 0, 1) := by decide +kernel
theorem dX5_strengthOf_41 : decode cX5_strengthOf 41 = .ok (.getfield 40, 3) := by decide +kernel
theorem dX5_strengthOf_44 : decode cX5_strengthOf 44 = .ok (.iload 5, 2) := by decide +kernel
theorem dX5_strengthOf_46 : decode cX5_strengthOf 46 = .ok (.iaload, 1) := by decide +kernel
theorem dX5_strengthOf_47 : decode cX5_strengthOf 47 = .ok (.iload_n 1, 1) := by decide +kernel
theorem dX5_strengthOf_48 : decode cX5_strengthOf 48 = .ok (.bipush 8, 2) := by decide +kernel
theorem dX5_strengthOf_50 : decode cX5_strengthOf 50 = .ok (.irem, 1) := by decide +kernel
theorem dX5_strengthOf_51 : decode cX5_strengthOf 51 = .ok (.invokestatic 124, 3) := by decide +kernel
theorem dX5_strengthOf_54 : decode cX5_strengthOf 54 = .ok (.ifCond .eq 7, 3) := by decide +kernel
theorem dX5_strengthOf_57 : decode cX5_strengthOf 57 = .ok (.iconst 1, 1) := by decide +kernel
theorem dX5_strengthOf_58 : decode cX5_strengthOf 58 = .ok (.goto 4, 3) := by decide +kernel
theorem dX5_strengthOf_61 : decode cX5_strengthOf 61 = .ok (.iconst 0, 1) := by decide +kernel
theorem dX5_strengthOf_62 : decode cX5_strengthOf 62 = .ok (.istore 6, 2) := by decide +kernel
theorem dX5_strengthOf_64 : decode cX5_strengthOf 64 = .ok (.aload_n 0, 1) := by decide +kernel
theorem dX5_strengthOf_65 : decode cX5_strengthOf 65 = .ok (.getfield 43, 3) := by decide +kernel
theorem dX5_strengthOf_68 : decode cX5_strengthOf 68 = .ok (.iload 5, 2) := by decide +kernel
theorem dX5_strengthOf_70 : decode cX5_strengthOf 70 = .ok (.iaload, 1) := by decide +kernel
theorem dX5_strengthOf_71 : decode cX5_strengthOf 71 = .ok (.ifCond .eq 25, 3) := by decide +kernel
theorem dX5_strengthOf_74 : decode cX5_strengthOf 74 = .ok (.aload_n 0, 1) := by decide +kernel
theorem dX5_strengthOf_75 : decode cX5_strengthOf 75 = .ok (.getfield 53, 3) := by decide +kernel
theorem dX5_strengthOf_78 : decode cX5_strengthOf 78 = .ok (.iload 5, 2) := by decide +kernel
theorem dX5_strengthOf_80 : decode cX5_strengthOf 80 = .ok (.iaload, 1) := by decide +kernel
theorem dX5_strengthOf_81 : decode cX5_strengthOf 81 = .ok (.iconst (-1), 1) := by decide +kernel
theorem dX5_strengthOf_82 : decode cX5_strengthOf 82 = .ok (.if_icmp .eq 18, 3) := by decide +kernel
theorem dX5_strengthOf_85 : decode cX5_strengthOf 85 = .ok (.aload_n 0, 1) := by decide +kernel
theorem dX5_strengthOf_86 : decode cX5_strengthOf 86 = .ok (.getfield 53, 3) := by decide +kernel
theorem dX5_strengthOf_89 : decode cX5_strengthOf 89 = .ok (.iload 5, 2) := by decide +kernel
theorem dX5_strengthOf_91 : decode cX5_strengthOf 91 = .ok (.iaload, 1) := by decide +kernel
theorem dX5_strengthOf_92 : decode cX5_strengthOf 92 = .ok (.iload_n 3, 1) := by decide +kernel
theorem dX5_strengthOf_93 : decode cX5_strengthOf 93 = .ok (.if_icmp .gt 7, 3) := by decide +kernel
theorem dX5_strengthOf_96 : decode cX5_strengthOf 96 = .ok (.iconst 1, 1) := by decide +kernel
theorem dX5_strengthOf_97 : decode cX5_strengthOf 97 = .ok (.goto 4, 3) := by decide +kernel
theorem dX5_strengthOf_100 : decode cX5_strengthOf 100 = .ok (.iconst 0, 1) := by decide +kernel
theorem dX5_strengthOf_101 : decode cX5_strengthOf 101 = .ok (.istore 7, 2) := by decide +kernel
theorem dX5_strengthOf_103 : decode cX5_strengthOf 103 = .ok (.iload 4, 2) := by decide +kernel
theorem dX5_strengthOf_105 : decode cX5_strengthOf 105 = .ok (.iload 6, 2) := by decide +kernel
theorem dX5_strengthOf_107 : decode cX5_strengthOf 107 = .ok (.ifCond .eq 29, 3) := by decide +kernel
theorem dX5_strengthOf_110 : decode cX5_strengthOf 110 = .ok (.aload_n 0, 1) := by decide +kernel
theorem dX5_strengthOf_111 : decode cX5_strengthOf 111 = .ok (.getfield 50, 3) := by decide +kernel
theorem dX5_strengthOf_114 : decode cX5_strengthOf 114 = .ok (.iload 5, 2) := by decide +kernel
theorem dX5_strengthOf_116 : decode cX5_strengthOf 116 = .ok (.iaload, 1) := by decide +kernel
theorem dX5_strengthOf_117 : decode cX5_strengthOf 117 = .ok (.iload_n 3, 1) := by decide +kernel
theorem dX5_strengthOf_118 : decode cX5_strengthOf 118 = .ok (.if_icmp .gt 18, 3) := by decide +kernel
theorem dX5_strengthOf_121 : decode cX5_strengthOf 121 = .ok (.iload 7, 2) := by decide +kernel
theorem dX5_strengthOf_123 : decode cX5_strengthOf 123 = .ok (.ifCond .eq 13, 3) := by decide +kernel
theorem dX5_strengthOf_126 : decode cX5_strengthOf 126 = .ok (.aload_n 0, 1) := by decide +kernel
theorem dX5_strengthOf_127 : decode cX5_strengthOf 127 = .ok (.getfield 37, 3) := by decide +kernel
theorem dX5_strengthOf_130 : decode cX5_strengthOf 130 = .ok (.iload 5, 2) := by decide +kernel
theorem dX5_strengthOf_132 : decode cX5_strengthOf 132 = .ok (.iaload, 1) := by decide +kernel
theorem dX5_strengthOf_133 : decode cX5_strengthOf 133 = .ok (.goto 4, 3) := by decide +kernel
theorem dX5_strengthOf_136 : decode cX5_strengthOf 136 = .ok (.iconst 0, 1) := by decide +kernel
theorem dX5_strengthOf_137 : decode cX5_strengthOf 137 = .ok (.iadd, 1) := by decide +kernel
theorem dX5_strengthOf_138 : decode cX5_strengthOf 138 = .ok (.istore 4, 2) := by decide +kernel
theorem dX5_strengthOf_140 : decode cX5_strengthOf 140 = .ok (.iinc 5 1, 3) := by decide +kernel
theorem dX5_strengthOf_143 : decode cX5_strengthOf 143 = .ok (.goto (-137), 3) := by decide +kernel
theorem dX5_strengthOf_146 : decode cX5_strengthOf 146 = .ok (.iload 4, 2) := by decide +kernel
theorem dX5_strengthOf_148 : decode cX5_strengthOf 148 = .ok (.ireturn, 1) := by decide +kernel
set_option maxRecDepth 20000 in
theorem ggX5_areStrong_X5_has : GoodIn wsX5_areStrong wsX5_has := goodIn_r _ [5] (by decide +kernel) (by decide +kernel)
set_option maxRecDepth 20000 in
theorem gX5_areStrong_X5_has : GoodIn wsX5_areStrong (va_wsS RX5 124 yX5_has wsX5_has) := goodIn_app (goodIn_of _ (by decide +kernel)) ggX5_areStrong_X5_has
set_option maxRecDepth 20000 in
theorem ggX5_areStrong_X5_strengthOf : GoodIn wsX5_areStrong wsX5_strengthOf := goodIn_r _ [9, 10, 11, 12, 13, 14, 15, 16, 17, 2, 3, 4, 5, 18, 19, 20, 21, 22, 23, 24, 25, 26, 27, 28, 29, 30, 31, 32, 33, 34, 35, 36, 37, 38, 39, 40, 41, 42, 43, 44, 45, 46, 47, 48, 49, 50, 51, 52, 53, 54, 55] (by decide +kernel) (by decide +kernel)
set_option maxRecDepth 20000 in
theorem gX5_areStrong_X5_strengthOf : GoodIn wsX5_areStrong (wsV RX5 149 RX5 yX5_strengthOf wsX5_strengthOf) := goodIn_app (goodIn_of _ (by decide +kernel)) ggX5_areStrong_X5_strengthOf
theorem dX5_areStrong_0 : decode cX5_areStrong 0 = .ok (.iconst 1, 1) := by decide +kernel
theorem dX5_areStrong_1 : decode cX5_areStrong 1 = .ok (.istore 5, 2) := by decide +kernel
theorem dX5_areStrong_3 : decode cX5_areStrong 3 = .ok (.iconst 0, 1) := by decide +kernel
theorem dX5_areStrong_4 : decode cX5_areStrong 4 = .ok (.istore 6, 2) := by decide +kernel
theorem dX5_areStrong_6 : decode cX5_areStrong 6 = .ok (.iload 6, 2) := by decide +kernel
theorem dX5_areStrong_8 : decode cX5_areStrong 8 = .ok (.bipush 10, 2) := by decide +kernel
theorem dX5_areStrong_10 : decode cX5_areStrong 10 = .ok (.if_icmp .ge 48, 3) := by decide +kernel
theorem dX5_areStrong_13 : decode cX5_areStrong 13 = .ok (.iload 5, 2) := by decide +kernel
theorem dX5_areStrong_15 : decode cX5_areStrong 15 = .ok (.ifCond .eq 34, 3) := by decide +kernel
theorem dX5_areStrong_18 : decode cX5_areStrong 18 = .ok (.aload_n 0, 1) := by decide +kernel
theorem dX5_areStrong_19 : decode cX5_areStrong 19 = .ok (.getfield 7, 3) := by decide +kernel
theorem dX5_areStrong_22 : decode cX5_areStrong 22 = .ok (.iload_n 2, 1) := by decide +kernel
theorem dX5_areStrong_23 : decode cX5_areStrong 23 = .ok (.iaload, 1) := by decide +kernel
theorem dX5_areStrong_24 : decode cX5_areStrong 24 = .ok (.iload 6, 2) := by decide +kernel
theorem dX5_areStrong_26 : decode cX5_areStrong 26 = .ok (.invokestatic 124, 3) := by decide +kernel
theorem dX5_areStrong_29 : decode cX5_areStrong 29 = .ok (.ifCond .eq 16, 3) := by decide +kernel
theorem dX5_areStrong_32 : decode cX5_areStrong 32 = .ok (.aload_n 0, 1) := by decide +kernel
theorem dX5_areStrong_33 : decode cX5_areStrong 33 = .ok (.iload_n 1, 1) := by decide +kernel
theorem dX5_areStrong_34 : decode cX5_areStrong 34 = .ok (.iload 6, 2) := by decide +kernel
theorem dX5_areStrong_36 : decode cX5_areStrong 36 = .ok (.iload 4, 2) := by decide +kernel
theorem dX5_areStrong_38 : decode cX5_areStrong 38 = .ok (.invokevirtual 149, 3) := by decide +kernel
theorem dX5_areStrong_41 : decode cX5_areStrong 41 = .ok (.iload_n 3, 1) := by decide +kernel
theorem dX5_areStrong_42 : decode cX5_areStrong 42 = .ok (.if_icmp .lt 7, 3) := by decide +kernel
theorem dX5_areStrong_45 : decode cX5_areStrong 45 = .ok (.iconst 1, 1) := by decide +kernel
theorem dX5_areStrong_46 : decode cX5_areStrong 46 = .ok (.goto 4, 3) := by decide +kernel
theorem dX5_areStrong_49 : decode cX5_areStrong 49 = .ok (.iconst 0, 1) := by decide +kernel
theorem dX5_areStrong_50 : decode cX5_areStrong 50 = .ok (.istore 5, 2) := by decide +kernel
theorem dX5_areStrong_52 : decode cX5_areStrong 52 = .ok (.iinc 6 1, 3) := by decide +kernel
theorem dX5_areStrong_55 : decode cX5_areStrong 55 = .ok (.goto (-49), 3) := by decide +kernel
theorem dX5_areStrong_58 : decode cX5_areStrong 58 = .ok (.iload 5, 2) := by decide +kernel
theorem dX5_areStrong_60 : decode cX5_areStrong 60 = .ok (.ireturn, 1) := by decide +kernel
theorem dX5_areOver_0 : decode cX5_areOver 0 = .ok (.aload_n 0, 1) := by decide +kernel
theorem dX5_areOver_1 : decode cX5_areOver 1 = .ok (.getfield 7, 3) := by decide +kernel
theorem dX5_areOver_4 : decode cX5_areOver 4 = .ok (.iload_n 1, 1) := by decide +kernel
theorem dX5_areOver_5 : decode cX5_areOver 5 = .ok (.iaload, 1) := by decide +kernel
theorem dX5_areOver_6 : decode cX5_areOver 6 = .ok (.aload_n 0, 1) := by decide +kernel
theorem dX5_areOver_7 : decode cX5_areOver 7 = .ok (.getfield 7, 3) := by decide +kernel
theorem dX5_areOver_10 : decode cX5_areOver 10 = .ok (.iload_n 2, 1) := by decide +kernel
theorem dX5_areOver_11 : decode cX5_areOver 11 = .ok (.iaload, 1) := by decide +kernel
theorem dX5_areOver_12 : decode cX5_areOver 12 = .ok (.iand, 1) := by decide +kernel
theorem dX5_areOver_13 : decode cX5_areOver 13 = .ok (.istore_n 3, 1) := by decide +kernel
theorem dX5_areOver_14 : decode cX5_areOver 14 = .ok (.iload_n 3, 1) := by decide +kernel
theorem dX5_areOver_15 : decode cX5_areOver 15 = .ok (.aload_n 0, 1) := by decide +kernel
theorem dX5_areOver_16 : decode cX5_areOver 16 = .ok (.getfield 7, 3) := by decide +kernel
theorem dX5_areOver_19 : decode cX5_areOver 19 = .ok (.iload_n 1, 1) := by decide +kernel
theorem dX5_areOver_20 : decode cX5_areOver 20 = .ok (.iaload, 1) := by decide +kernel
theorem dX5_areOver_21 : decode cX5_areOver 21 = .ok (.if_icmp .eq 13, 3) := by decide +kernel
theorem dX5_areOver_24 : decode cX5_areOver 24 = .ok (.iload_n 3, 1) := by decide +kernel
theorem dX5_areOver_25 : decode cX5_areOver 25 = .ok (.aload_n 0, 1) := by decide +kernel
theorem dX5_areOver_26 : decode cX5_areOver 26 = .ok (.getfield 7, 3) := by decide +kernel
theorem dX5_areOver_29 : decode cX5_areOver 29 = .ok (.iload_n 2, 1) := by decide +kernel
theorem dX5_areOver_30 : decode cX5_areOver 30 = .ok (.iaload, 1) := by decide +kernel
theorem dX5_areOver_31 : decode cX5_areOver 31 = .ok (.if_icmp .ne 7, 3) := by decide +kernel
theorem dX5_areOver_34 : decode cX5_areOver 34 = .ok (.iconst 1, 1) := by decide +kernel
theorem dX5_areOver_35 : decode cX5_areOver 35 = .ok (.goto 4, 3) := by decide +kernel
theorem dX5_areOver_38 : decode cX5_areOver 38 = .ok (.iconst 0, 1) := by decide +kernel
theorem dX5_areOver_39 : decode cX5_areOver 39 = .ok (.ireturn, 1) := by decide +kernel
set_option maxRecDepth 20000 in
theorem ggX5_isSpent_X5_has : GoodIn wsX5_isSpent wsX5_has := goodIn_r _ [9] (by decide +kernel) (by decide +kernel)
set_option maxRecDepth 20000 in
theorem gX5_isSpent_X5_has : GoodIn wsX5_isSpent (va_wsS RX5 124 yX5_has wsX5_has) := goodIn_app (goodIn_of _ (by decide +kernel)) ggX5_isSpent_X5_has
set_option maxRecDepth 20000 in
theorem ggX5_isSpent_X5_areOver : GoodIn wsX5_isSpent wsX5_areOver := goodIn_r _ [13, 14, 15, 16, 17, 18, 19, 20, 21, 22, 23, 24, 25, 26, 27, 28, 29, 30, 31, 32, 33, 34, 35, 36, 37, 38, 39, 40, 41, 42, 43, 44, 45, 46, 47, 48, 49, 50, 51, 52] (by decide +kernel) (by decide +kernel)
set_option maxRecDepth 20000 in
theorem gX5_isSpent_X5_areOver : GoodIn wsX5_isSpent (wsV RX5 156 RX5 yX5_areOver wsX5_areOver) := goodIn_app (goodIn_of _ (by decide +kernel)) ggX5_isSpent_X5_areOver
theorem dX5_isSpent_0 : decode cX5_isSpent 0 = .ok (.iconst 0, 1) := by decide +kernel
theorem dX5_isSpent_1 : decode cX5_isSpent 1 = .ok (.istore 4, 2) := by decide +kernel
theorem dX5_isSpent_3 : decode cX5_isSpent 3 = .ok (.iconst 0, 1) := by decide +kernel
theorem dX5_isSpent_4 : decode cX5_isSpent 4 = .ok (.istore 5, 2) := by decide +kernel
theorem dX5_isSpent_6 : decode cX5_isSpent 6 = .ok (.iload 5, 2) := by decide +kernel
theorem dX5_isSpent_8 : decode cX5_isSpent 8 = .ok (.aload_n 0, 1) := by decide +kernel
theorem dX5_isSpent_9 : decode cX5_isSpent 9 = .ok (.getfield 153, 3) := by decide +kernel
theorem dX5_isSpent_12 : decode cX5_isSpent 12 = .ok (.if_icmp .ge 86, 3) := by decide +kernel
theorem dX5_isSpent_15 : decode cX5_isSpent 15 = .ok (.iconst 0, 1) := by decide +kernel
theorem dX5_isSpent_16 : decode cX5_isSpent 16 = .ok (.istore 6, 2) := by decide +kernel
theorem dX5_isSpent_18 : decode cX5_isSpent 18 = .ok (.iload 6, 2) := by decide +kernel
theorem dX5_isSpent_20 : decode cX5_isSpent 20 = .ok (.aload_n 0, 1) := by decide +kernel
theorem dX5_isSpent_21 : decode cX5_isSpent 21 = .ok (.getfield 111, 3) := by decide +kernel
theorem dX5_isSpent_24 : decode cX5_isSpent 24 = .ok (.if_icmp .ge 68, 3) := by decide +kernel
theorem dX5_isSpent_27 : decode cX5_isSpent 27 = .ok (.iload 4, 2) := by decide +kernel
theorem dX5_isSpent_29 : decode cX5_isSpent 29 = .ok (.ifCond .ne 50, 3) := by decide +kernel
theorem dX5_isSpent_32 : decode cX5_isSpent 32 = .ok (.aload_n 0, 1) := by decide +kernel
theorem dX5_isSpent_33 : decode cX5_isSpent 33 = .ok (.getfield 95, 3) := by decide +kernel
theorem dX5_isSpent_36 : decode cX5_isSpent 36 = .ok (.iload 5, 2) := by decide +kernel
theorem dX5_isSpent_38 : decode cX5_isSpent 38 = .ok (.iaload, 1) := by decide +kernel
theorem dX5_isSpent_39 : decode cX5_isSpent 39 = .ok (.iload_n 1, 1) := by decide +kernel
theorem dX5_isSpent_40 : decode cX5_isSpent 40 = .ok (.if_icmp .ne 43, 3) := by decide +kernel
theorem dX5_isSpent_43 : decode cX5_isSpent 43 = .ok (.aload_n 0, 1) := by decide +kernel
theorem dX5_isSpent_44 : decode cX5_isSpent 44 = .ok (.getfield 98, 3) := by decide +kernel
theorem dX5_isSpent_47 : decode cX5_isSpent 47 = .ok (.iload 5, 2) := by decide +kernel
theorem dX5_isSpent_49 : decode cX5_isSpent 49 = .ok (.iaload, 1) := by decide +kernel
theorem dX5_isSpent_50 : decode cX5_isSpent 50 = .ok (.iload_n 3, 1) := by decide +kernel
theorem dX5_isSpent_51 : decode cX5_isSpent 51 = .ok (.if_icmp .gt 32, 3) := by decide +kernel
theorem dX5_isSpent_54 : decode cX5_isSpent 54 = .ok (.aload_n 0, 1) := by decide +kernel
theorem dX5_isSpent_55 : decode cX5_isSpent 55 = .ok (.getfield 101, 3) := by decide +kernel
theorem dX5_isSpent_58 : decode cX5_isSpent 58 = .ok (.iload 5, 2) := by decide +kernel
theorem dX5_isSpent_60 : decode cX5_isSpent 60 = .ok (.iaload, 1) := by decide +kernel
theorem dX5_isSpent_61 : decode cX5_isSpent 61 = .ok (.iload 6, 2) := by decide +kernel
theorem dX5_isSpent_63 : decode cX5_isSpent 63 = .ok (.invokestatic 124, 3) := by decide +kernel
theorem dX5_isSpent_66 : decode cX5_isSpent 66 = .ok (.ifCond .eq 17, 3) := by decide +kernel
theorem dX5_isSpent_69 : decode cX5_isSpent 69 = .ok (.aload_n 0, 1) := by decide +kernel
theorem dX5_isSpent_70 : decode cX5_isSpent 70 = .ok (.iload_n 2, 1) := by decide +kernel
theorem dX5_isSpent_71 : decode cX5_isSpent 71 = .ok (.iload 6, 2) := by decide +kernel
theorem dX5_isSpent_73 : decode cX5_isSpent 73 = .ok (.invokevirtual 156, 3) := by decide +kernel
theorem dX5_isSpent_76 : decode cX5_isSpent 76 = .ok (.ifCond .eq 7, 3) := by decide +kernel
theorem dX5_isSpent_79 : decode cX5_isSpent 79 = .ok (.iconst 1, 1) := by decide +kernel
theorem dX5_isSpent_80 : decode cX5_isSpent 80 = .ok (.goto 4, 3) := by decide +kernel
theorem dX5_isSpent_83 : decode cX5_isSpent 83 = .ok (.iconst 0, 1) := by decide +kernel
theorem dX5_isSpent_84 : decode cX5_isSpent 84 = .ok (.istore 4, 2) := by decide +kernel
theorem dX5_isSpent_86 : decode cX5_isSpent 86 = .ok (.iinc 6 1, 3) := by decide +kernel
theorem dX5_isSpent_89 : decode cX5_isSpent 89 = .ok (.goto (-71), 3) := by decide +kernel
theorem dX5_isSpent_92 : decode cX5_isSpent 92 = .ok (.iinc 5 1, 3) := by decide +kernel
theorem dX5_isSpent_95 : decode cX5_isSpent 95 = .ok (.goto (-89), 3) := by decide +kernel
theorem dX5_isSpent_98 : decode cX5_isSpent 98 = .ok (.iload 4, 2) := by decide +kernel
theorem dX5_isSpent_100 : decode cX5_isSpent 100 = .ok (.ireturn, 1) := by decide +kernel
set_option maxRecDepth 20000 in
theorem ggX5_why_X5_isSpent : GoodIn wsX5_why wsX5_isSpent := goodIn_r _ [9, 10, 11, 12, 13, 14, 15, 16, 8, 17, 18, 19, 20, 21, 22, 39, 40, 41, 42, 43, 44, 45, 46, 47, 48, 49, 50, 51, 52, 53, 54, 55, 56, 57, 58, 59, 60, 61, 62, 63, 64, 65, 66, 67, 68, 69, 70, 71, 72, 73, 74, 75, 76] (by decide +kernel) (by decide +kernel)
set_option maxRecDepth 20000 in
theorem gX5_why_X5_isSpent : GoodIn wsX5_why (wsV RX5 159 RX5 yX5_isSpent wsX5_isSpent) := goodIn_app (goodIn_of _ (by decide +kernel)) ggX5_why_X5_isSpent
set_option maxRecDepth 20000 in
theorem ggX5_why_X5_areStrong : GoodIn wsX5_why wsX5_areStrong := goodIn_r _ [26, 22, 15, 16, 8, 17, 27, 28, 29, 30, 31, 32, 33, 34, 35, 36, 37, 38, 39, 40, 41, 42, 43, 44, 45, 46, 47, 48, 49, 50, 51, 52, 53, 54, 55, 56, 57, 58, 59, 60, 61, 62, 63, 64, 65, 66, 67, 68, 69, 70, 71, 72, 73, 74, 75, 76] (by decide +kernel) (by decide +kernel)
set_option maxRecDepth 20000 in
theorem gX5_why_X5_areStrong : GoodIn wsX5_why (wsV RX5 162 RX5 yX5_areStrong wsX5_areStrong) := goodIn_app (goodIn_of _ (by decide +kernel)) ggX5_why_X5_areStrong
