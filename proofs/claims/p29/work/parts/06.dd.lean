theorem dL_isHeld_0 : decode cL_isHeld 0 = .ok (.iload_n 1, 1) := by decide +kernel
theorem dL_isHeld_1 : decode cL_isHeld 1 = .ok (.bipush 8, 2) := by decide +kernel
theorem dL_isHeld_3 : decode cL_isHeld 3 = .ok (.idiv, 1) := by decide +kernel
theorem dL_isHeld_4 : decode cL_isHeld 4 = .ok (.istore 4, 2) := by decide +kernel
theorem dL_isHeld_6 : decode cL_isHeld 6 = .ok (.iload_n 1, 1) := by decide +kernel
theorem dL_isHeld_7 : decode cL_isHeld 7 = .ok (.bipush 8, 2) := by decide +kernel
theorem dL_isHeld_9 : decode cL_isHeld 9 = .ok (.irem, 1) := by decide +kernel
theorem dL_isHeld_10 : decode cL_isHeld 10 = .ok (.istore 5, 2) := by decide +kernel
theorem dL_isHeld_12 : decode cL_isHeld 12 = .ok (.aload_n 0, 1) := by decide +kernel
theorem dL_isHeld_13 : decode cL_isHeld 13 = .ok (.iload 4, 2) := by decide +kernel
theorem dL_isHeld_15 : decode cL_isHeld 15 = .ok (.iload 5, 2) := by decide +kernel
theorem dL_isHeld_17 : decode cL_isHeld 17 = .ok (.iconst 0, 1) := by decide +kernel
theorem dL_isHeld_18 : decode cL_isHeld 18 = .ok (.invokestatic 116, 3) := by decide +kernel
theorem dL_isHeld_21 : decode cL_isHeld 21 = .ok (.istore 6, 2) := by decide +kernel
theorem dL_isHeld_23 : decode cL_isHeld 23 = .ok (.aload_n 0, 1) := by decide +kernel
theorem dL_isHeld_24 : decode cL_isHeld 24 = .ok (.iload 4, 2) := by decide +kernel
theorem dL_isHeld_26 : decode cL_isHeld 26 = .ok (.iload 5, 2) := by decide +kernel
theorem dL_isHeld_28 : decode cL_isHeld 28 = .ok (.bipush 7, 2) := by decide +kernel
theorem dL_isHeld_30 : decode cL_isHeld 30 = .ok (.invokestatic 116, 3) := by decide +kernel
theorem dL_isHeld_33 : decode cL_isHeld 33 = .ok (.istore 7, 2) := by decide +kernel
theorem dL_isHeld_35 : decode cL_isHeld 35 = .ok (.aload_n 0, 1) := by decide +kernel
theorem dL_isHeld_36 : decode cL_isHeld 36 = .ok (.iload 4, 2) := by decide +kernel
theorem dL_isHeld_38 : decode cL_isHeld 38 = .ok (.iload 5, 2) := by decide +kernel
theorem dL_isHeld_40 : decode cL_isHeld 40 = .ok (.bipush 6, 2) := by decide +kernel
theorem dL_isHeld_42 : decode cL_isHeld 42 = .ok (.invokestatic 116, 3) := by decide +kernel
theorem dL_isHeld_45 : decode cL_isHeld 45 = .ok (.istore 8, 2) := by decide +kernel
theorem dL_isHeld_47 : decode cL_isHeld 47 = .ok (.aload_n 0, 1) := by decide +kernel
theorem dL_isHeld_48 : decode cL_isHeld 48 = .ok (.iload 4, 2) := by decide +kernel
theorem dL_isHeld_50 : decode cL_isHeld 50 = .ok (.iload 5, 2) := by decide +kernel
theorem dL_isHeld_52 : decode cL_isHeld 52 = .ok (.iconst 3, 1) := by decide +kernel
theorem dL_isHeld_53 : decode cL_isHeld 53 = .ok (.invokestatic 116, 3) := by decide +kernel
theorem dL_isHeld_56 : decode cL_isHeld 56 = .ok (.istore 9, 2) := by decide +kernel
theorem dL_isHeld_58 : decode cL_isHeld 58 = .ok (.aload_n 2, 1) := by decide +kernel
theorem dL_isHeld_59 : decode cL_isHeld 59 = .ok (.iload_n 3, 1) := by decide +kernel
theorem dL_isHeld_60 : decode cL_isHeld 60 = .ok (.iaload, 1) := by decide +kernel
theorem dL_isHeld_61 : decode cL_isHeld 61 = .ok (.iload 7, 2) := by decide +kernel
theorem dL_isHeld_63 : decode cL_isHeld 63 = .ok (.iconst (-1), 1) := by decide +kernel
theorem dL_isHeld_64 : decode cL_isHeld 64 = .ok (.ixor, 1) := by decide +kernel
theorem dL_isHeld_65 : decode cL_isHeld 65 = .ok (.iand, 1) := by decide +kernel
theorem dL_isHeld_66 : decode cL_isHeld 66 = .ok (.ifCond .ne 164, 3) := by decide +kernel
theorem dL_isHeld_69 : decode cL_isHeld 69 = .ok (.aload_n 2, 1) := by decide +kernel
theorem dL_isHeld_70 : decode cL_isHeld 70 = .ok (.iload_n 3, 1) := by decide +kernel
theorem dL_isHeld_71 : decode cL_isHeld 71 = .ok (.iconst 1, 1) := by decide +kernel
theorem dL_isHeld_72 : decode cL_isHeld 72 = .ok (.iadd, 1) := by decide +kernel
theorem dL_isHeld_73 : decode cL_isHeld 73 = .ok (.iaload, 1) := by decide +kernel
theorem dL_isHeld_74 : decode cL_isHeld 74 = .ok (.iload 8, 2) := by decide +kernel
theorem dL_isHeld_76 : decode cL_isHeld 76 = .ok (.iconst (-1), 1) := by decide +kernel
theorem dL_isHeld_77 : decode cL_isHeld 77 = .ok (.ixor, 1) := by decide +kernel
theorem dL_isHeld_78 : decode cL_isHeld 78 = .ok (.iand, 1) := by decide +kernel
theorem dL_isHeld_79 : decode cL_isHeld 79 = .ok (.ifCond .ne 151, 3) := by decide +kernel
theorem dL_isHeld_82 : decode cL_isHeld 82 = .ok (.iload 8, 2) := by decide +kernel
theorem dL_isHeld_84 : decode cL_isHeld 84 = .ok (.iload 7, 2) := by decide +kernel
theorem dL_isHeld_86 : decode cL_isHeld 86 = .ok (.iconst (-1), 1) := by decide +kernel
theorem dL_isHeld_87 : decode cL_isHeld 87 = .ok (.ixor, 1) := by decide +kernel
theorem dL_isHeld_88 : decode cL_isHeld 88 = .ok (.iand, 1) := by decide +kernel
theorem dL_isHeld_89 : decode cL_isHeld 89 = .ok (.ifCond .ne 141, 3) := by decide +kernel
theorem dL_isHeld_92 : decode cL_isHeld 92 = .ok (.iload 6, 2) := by decide +kernel
theorem dL_isHeld_94 : decode cL_isHeld 94 = .ok (.ifCond .lt 136, 3) := by decide +kernel
theorem dL_isHeld_97 : decode cL_isHeld 97 = .ok (.iload 6, 2) := by decide +kernel
theorem dL_isHeld_99 : decode cL_isHeld 99 = .ok (.iconst 2, 1) := by decide +kernel
theorem dL_isHeld_100 : decode cL_isHeld 100 = .ok (.if_icmp .gt 130, 3) := by decide +kernel
theorem dL_isHeld_103 : decode cL_isHeld 103 = .ok (.aload_n 0, 1) := by decide +kernel
theorem dL_isHeld_104 : decode cL_isHeld 104 = .ok (.iload 4, 2) := by decide +kernel
theorem dL_isHeld_106 : decode cL_isHeld 106 = .ok (.iload 5, 2) := by decide +kernel
theorem dL_isHeld_108 : decode cL_isHeld 108 = .ok (.iconst 1, 1) := by decide +kernel
theorem dL_isHeld_109 : decode cL_isHeld 109 = .ok (.invokestatic 116, 3) := by decide +kernel
theorem dL_isHeld_112 : decode cL_isHeld 112 = .ok (.ifCond .eq 7, 3) := by decide +kernel
theorem dL_isHeld_115 : decode cL_isHeld 115 = .ok (.iconst 1, 1) := by decide +kernel
theorem dL_isHeld_116 : decode cL_isHeld 116 = .ok (.goto 4, 3) := by decide +kernel
theorem dL_isHeld_119 : decode cL_isHeld 119 = .ok (.iconst 0, 1) := by decide +kernel
theorem dL_isHeld_120 : decode cL_isHeld 120 = .ok (.iload 6, 2) := by decide +kernel
theorem dL_isHeld_122 : decode cL_isHeld 122 = .ok (.iconst 2, 1) := by decide +kernel
theorem dL_isHeld_123 : decode cL_isHeld 123 = .ok (.if_icmp .ne 7, 3) := by decide +kernel
theorem dL_isHeld_126 : decode cL_isHeld 126 = .ok (.iconst 1, 1) := by decide +kernel
theorem dL_isHeld_127 : decode cL_isHeld 127 = .ok (.goto 4, 3) := by decide +kernel
theorem dL_isHeld_130 : decode cL_isHeld 130 = .ok (.iconst 0, 1) := by decide +kernel
theorem dL_isHeld_131 : decode cL_isHeld 131 = .ok (.if_icmp .ne 99, 3) := by decide +kernel
theorem dL_isHeld_134 : decode cL_isHeld 134 = .ok (.iload 6, 2) := by decide +kernel
theorem dL_isHeld_136 : decode cL_isHeld 136 = .ok (.iconst 1, 1) := by decide +kernel
theorem dL_isHeld_137 : decode cL_isHeld 137 = .ok (.if_icmp .ne 15, 3) := by decide +kernel
theorem dL_isHeld_140 : decode cL_isHeld 140 = .ok (.aload_n 0, 1) := by decide +kernel
theorem dL_isHeld_141 : decode cL_isHeld 141 = .ok (.iload 4, 2) := by decide +kernel
theorem dL_isHeld_143 : decode cL_isHeld 143 = .ok (.iload 5, 2) := by decide +kernel
theorem dL_isHeld_145 : decode cL_isHeld 145 = .ok (.iconst 2, 1) := by decide +kernel
theorem dL_isHeld_146 : decode cL_isHeld 146 = .ok (.invokestatic 116, 3) := by decide +kernel
theorem dL_isHeld_149 : decode cL_isHeld 149 = .ok (.ifCond .ne 81, 3) := by decide +kernel
theorem dL_isHeld_152 : decode cL_isHeld 152 = .ok (.iload 9, 2) := by decide +kernel
theorem dL_isHeld_154 : decode cL_isHeld 154 = .ok (.bipush 10, 2) := by decide +kernel
theorem dL_isHeld_156 : decode cL_isHeld 156 = .ok (.if_icmp .gt 74, 3) := by decide +kernel
theorem dL_isHeld_159 : decode cL_isHeld 159 = .ok (.iload 9, 2) := by decide +kernel
theorem dL_isHeld_161 : decode cL_isHeld 161 = .ok (.aload_n 2, 1) := by decide +kernel
theorem dL_isHeld_162 : decode cL_isHeld 162 = .ok (.iload_n 3, 1) := by decide +kernel
theorem dL_isHeld_163 : decode cL_isHeld 163 = .ok (.iconst 2, 1) := by decide +kernel
theorem dL_isHeld_164 : decode cL_isHeld 164 = .ok (.iadd, 1) := by decide +kernel
theorem dL_isHeld_165 : decode cL_isHeld 165 = .ok (.iaload, 1) := by decide +kernel
theorem dL_isHeld_166 : decode cL_isHeld 166 = .ok (.if_icmp .lt 64, 3) := by decide +kernel
theorem dL_isHeld_169 : decode cL_isHeld 169 = .ok (.iload 6, 2) := by decide +kernel
theorem dL_isHeld_171 : decode cL_isHeld 171 = .ok (.ifCond .eq 23, 3) := by decide +kernel
theorem dL_isHeld_174 : decode cL_isHeld 174 = .ok (.aload_n 2, 1) := by decide +kernel
theorem dL_isHeld_175 : decode cL_isHeld 175 = .ok (.iload_n 3, 1) := by decide +kernel
theorem dL_isHeld_176 : decode cL_isHeld 176 = .ok (.iconst 3, 1) := by decide +kernel
theorem dL_isHeld_177 : decode cL_isHeld 177 = .ok (.iadd, 1) := by decide +kernel
theorem dL_isHeld_178 : decode cL_isHeld 178 = .ok (.iaload, 1) := by decide +kernel
theorem dL_isHeld_179 : decode cL_isHeld 179 = .ok (.iload 6, 2) := by decide +kernel
theorem dL_isHeld_181 : decode cL_isHeld 181 = .ok (.if_icmp .ne 13, 3) := by decide +kernel
theorem dL_isHeld_184 : decode cL_isHeld 184 = .ok (.iload 9, 2) := by decide +kernel
theorem dL_isHeld_186 : decode cL_isHeld 186 = .ok (.aload_n 2, 1) := by decide +kernel
theorem dL_isHeld_187 : decode cL_isHeld 187 = .ok (.iload_n 3, 1) := by decide +kernel
theorem dL_isHeld_188 : decode cL_isHeld 188 = .ok (.iconst 2, 1) := by decide +kernel
theorem dL_isHeld_189 : decode cL_isHeld 189 = .ok (.iadd, 1) := by decide +kernel
theorem dL_isHeld_190 : decode cL_isHeld 190 = .ok (.iaload, 1) := by decide +kernel
theorem dL_isHeld_191 : decode cL_isHeld 191 = .ok (.if_icmp .ne 39, 3) := by decide +kernel
theorem dL_isHeld_194 : decode cL_isHeld 194 = .ok (.aload_n 0, 1) := by decide +kernel
theorem dL_isHeld_195 : decode cL_isHeld 195 = .ok (.iload 4, 2) := by decide +kernel
theorem dL_isHeld_197 : decode cL_isHeld 197 = .ok (.iload 5, 2) := by decide +kernel
theorem dL_isHeld_199 : decode cL_isHeld 199 = .ok (.iconst 4, 1) := by decide +kernel
theorem dL_isHeld_200 : decode cL_isHeld 200 = .ok (.invokestatic 116, 3) := by decide +kernel
theorem dL_isHeld_203 : decode cL_isHeld 203 = .ok (.bipush 60, 2) := by decide +kernel
theorem dL_isHeld_205 : decode cL_isHeld 205 = .ok (.if_icmp .gt 25, 3) := by decide +kernel
theorem dL_isHeld_208 : decode cL_isHeld 208 = .ok (.iload 6, 2) := by decide +kernel
theorem dL_isHeld_210 : decode cL_isHeld 210 = .ok (.iconst 2, 1) := by decide +kernel
theorem dL_isHeld_211 : decode cL_isHeld 211 = .ok (.if_icmp .eq 15, 3) := by decide +kernel
theorem dL_isHeld_214 : decode cL_isHeld 214 = .ok (.aload_n 0, 1) := by decide +kernel
theorem dL_isHeld_215 : decode cL_isHeld 215 = .ok (.iload 4, 2) := by decide +kernel
theorem dL_isHeld_217 : decode cL_isHeld 217 = .ok (.iload 5, 2) := by decide +kernel
theorem dL_isHeld_219 : decode cL_isHeld 219 = .ok (.iconst 4, 1) := by decide +kernel
theorem dL_isHeld_220 : decode cL_isHeld 220 = .ok (.invokestatic 116, 3) := by decide +kernel
theorem dL_isHeld_223 : decode cL_isHeld 223 = .ok (.ifCond .ne 7, 3) := by decide +kernel
theorem dL_isHeld_226 : decode cL_isHeld 226 = .ok (.iconst 1, 1) := by decide +kernel
theorem dL_isHeld_227 : decode cL_isHeld 227 = .ok (.goto 4, 3) := by decide +kernel
theorem dL_isHeld_230 : decode cL_isHeld 230 = .ok (.iconst 0, 1) := by decide +kernel
theorem dL_isHeld_231 : decode cL_isHeld 231 = .ok (.istore 10, 2) := by decide +kernel
theorem dL_isHeld_233 : decode cL_isHeld 233 = .ok (.aload_n 2, 1) := by decide +kernel
theorem dL_isHeld_234 : decode cL_isHeld 234 = .ok (.iload_n 3, 1) := by decide +kernel
theorem dL_isHeld_235 : decode cL_isHeld 235 = .ok (.iload 7, 2) := by decide +kernel
theorem dL_isHeld_237 : decode cL_isHeld 237 = .ok (.iastore, 1) := by decide +kernel
theorem dL_isHeld_238 : decode cL_isHeld 238 = .ok (.aload_n 2, 1) := by decide +kernel
theorem dL_isHeld_239 : decode cL_isHeld 239 = .ok (.iload_n 3, 1) := by decide +kernel
theorem dL_isHeld_240 : decode cL_isHeld 240 = .ok (.iconst 1, 1) := by decide +kernel
theorem dL_isHeld_241 : decode cL_isHeld 241 = .ok (.iadd, 1) := by decide +kernel
theorem dL_isHeld_242 : decode cL_isHeld 242 = .ok (.iload 8, 2) := by decide +kernel
theorem dL_isHeld_244 : decode cL_isHeld 244 = .ok (.iastore, 1) := by decide +kernel
theorem dL_isHeld_245 : decode cL_isHeld 245 = .ok (.aload_n 2, 1) := by decide +kernel
theorem dL_isHeld_246 : decode cL_isHeld 246 = .ok (.iload_n 3, 1) := by decide +kernel
theorem dL_isHeld_247 : decode cL_isHeld 247 = .ok (.iconst 2, 1) := by decide +kernel
theorem dL_isHeld_248 : decode cL_isHeld 248 = .ok (.iadd, 1) := by decide +kernel
theorem dL_isHeld_249 : decode cL_isHeld 249 = .ok (.iload 9, 2) := by decide +kernel
theorem dL_isHeld_251 : decode cL_isHeld 251 = .ok (.iastore, 1) := by decide +kernel
theorem dL_isHeld_252 : decode cL_isHeld 252 = .ok (.aload_n 2, 1) := by decide +kernel
theorem dL_isHeld_253 : decode cL_isHeld 253 = .ok (.iload_n 3, 1) := by decide +kernel
theorem dL_isHeld_254 : decode cL_isHeld 254 = .ok (.iconst 3, 1) := by decide +kernel
theorem dL_isHeld_255 : decode cL_isHeld 255 = .ok (.iadd, 1) := by decide +kernel
theorem dL_isHeld_256 : decode cL_isHeld 256 = .ok (.iload 6, 2) := by decide +kernel
theorem dL_isHeld_258 : decode cL_isHeld 258 = .ok (.iastore, 1) := by decide +kernel
theorem dL_isHeld_259 : decode cL_isHeld 259 = .ok (.iload 10, 2) := by decide +kernel
theorem dL_isHeld_261 : decode cL_isHeld 261 = .ok (.ireturn, 1) := by decide +kernel
set_option maxRecDepth 20000 in
theorem ggL_isBest_L_best : GoodIn wsL_isBest wsL_best := goodIn_ca (goodIn_ca (goodIn_r _ [4, 5, 6, 7, 8, 9, 10, 11, 12, 13, 14, 15, 16, 17, 18, 19, 20, 21, 22, 23, 24, 25, 26, 27, 28, 29, 30, 31, 32, 33, 34, 35, 36, 37, 38, 39, 40, 41, 42, 43, 44, 45, 46, 47, 48, 49, 50, 51, 52, 53, 54, 55, 56, 57, 58, 59, 60, 61, 62, 63, 64, 65, 66, 67, 68, 69, 70, 71, 72, 73, 74, 75, 76, 77, 78, 79, 80, 81, 82, 83, 84, 85, 86, 87, 88, 89, 90, 91, 92, 93, 94, 95, 96, 97, 98, 99, 100, 101, 102, 103, 104, 105, 106, 107, 108, 109, 110, 111, 112, 113, 114, 115, 116, 117, 118, 119, 120, 121, 122, 123, 124, 125, 126, 127, 128, 129, 130, 131, 132, 133, 134, 135, 136, 137, 138, 139, 140, 141, 142, 143, 144, 145, 146, 147, 181, 182, 183, 184, 185, 186, 187, 188, 189, 190, 191, 192, 193, 194, 195, 196, 197, 198, 199, 200, 201, 202, 203, 204, 205, 206, 207, 208, 209, 210, 211, 212, 213, 214, 215, 216, 217, 218, 219, 220, 221, 222, 223, 224, 225, 226] (by decide +kernel) (by decide +kernel)) (goodIn_sub (fun _ h => List.mem_cons_of_mem _ (List.mem_append_left _ (List.mem_append_right _ h))) (by decide +kernel))) (goodIn_sub (fun _ h => List.mem_cons_of_mem _ (List.mem_append_right _ h)) (by decide +kernel))
set_option maxRecDepth 20000 in
theorem gL_isBest_L_best : GoodIn wsL_isBest (va_wsS RL 140 yL_best wsL_best) := goodIn_app (goodIn_of _ (by decide +kernel)) ggL_isBest_L_best
set_option maxRecDepth 20000 in
theorem ggL_isBest_L_anew : GoodIn wsL_isBest wsL_anew := goodIn_ca (goodIn_ca (goodIn_r _ [150, 5, 6, 7, 151, 152, 153, 11, 154, 13, 14, 15, 16, 17, 18, 19, 20, 21, 22, 23, 24, 25, 26, 27, 28, 29, 30, 31, 32, 33, 34, 35, 36, 37, 38, 39, 40, 41, 42, 43, 44, 45, 46, 47, 48, 49, 50, 51, 52, 53, 54, 55, 56, 57, 58, 59, 60, 61, 62, 63, 64, 65, 66, 67, 68, 69, 70, 71, 72, 73, 74, 75, 76, 77, 78, 79, 80, 81, 82, 83, 84, 85, 86, 87, 88, 89, 90, 91, 92, 93, 94, 95, 96, 97, 98, 99, 100, 101, 102, 103, 104, 155, 156, 157, 158, 159, 160, 161, 162, 117, 118, 119, 120, 121, 122, 123, 124, 125, 126, 127, 128, 129, 130, 131, 132, 133, 134, 135, 136, 109, 110, 111, 112, 113, 114, 115, 116, 181, 182, 183, 184, 185, 186, 187, 188, 189, 190, 191, 192, 193, 194, 195, 196, 197, 198, 199, 200, 201, 202, 203, 204, 205, 206, 207, 208, 209, 210, 211, 212, 213, 214, 215, 216, 217, 218, 219, 220, 221, 222, 223, 224, 225, 226] (by decide +kernel) (by decide +kernel)) (goodIn_sub (fun _ h => List.mem_cons_of_mem _ (List.mem_append_left _ (List.mem_append_right _ h))) (by decide +kernel))) (goodIn_sub (fun _ h => List.mem_cons_of_mem _ (List.mem_append_right _ h)) (by decide +kernel))
set_option maxRecDepth 20000 in
theorem gL_isBest_L_anew : GoodIn wsL_isBest (va_wsS RL 142 yL_anew wsL_anew) := goodIn_app (goodIn_of _ (by decide +kernel)) ggL_isBest_L_anew
set_option maxRecDepth 20000 in
theorem ggL_isBest_L_bits : GoodIn wsL_isBest wsL_bits := goodIn_r _ [165] (by decide +kernel) (by decide +kernel)
set_option maxRecDepth 20000 in
theorem gL_isBest_L_bits : GoodIn wsL_isBest (va_wsS RL 145 yL_bits wsL_bits) := goodIn_app (goodIn_of _ (by decide +kernel)) ggL_isBest_L_bits
set_option maxRecDepth 20000 in
theorem ggL_isBest_L_whyNot : GoodIn wsL_isBest wsL_whyNot := goodIn_ca (goodIn_ca (goodIn_r _ [168, 5, 6, 7, 169, 170, 171, 11, 172, 17, 18, 13, 14, 15, 16, 19, 20, 21, 22, 23, 24, 25, 26, 27, 28, 29, 128, 129, 130, 131, 44, 30, 31, 32, 33, 34, 35, 36, 37, 38, 39, 45, 46, 47, 48, 49, 50, 51, 52, 53, 54, 55, 56, 57, 58, 59, 60, 61, 62, 63, 64, 65, 66, 67, 68, 69, 70, 71, 72, 73, 74, 75, 76, 77, 78, 79, 80, 81, 82, 83, 84, 85, 86, 87, 88, 89, 90, 91, 92, 93, 94, 95, 96, 97, 98, 99, 100, 101, 102, 103, 104, 181, 182, 183, 184, 185, 186, 187, 188, 189, 190, 191, 192, 193, 194, 195, 196, 197, 198, 199, 200, 201, 202, 203, 204, 205, 206, 207, 208, 209, 210, 211, 212, 213, 214, 215, 216, 217, 218, 219, 220, 221, 222, 223, 224, 225, 226] (by decide +kernel) (by decide +kernel)) (goodIn_sub (fun _ h => List.mem_cons_of_mem _ (List.mem_append_left _ (List.mem_append_right _ h))) (by decide +kernel))) (goodIn_sub (fun _ h => List.mem_cons_of_mem _ (List.mem_append_right _ h)) (by decide +kernel))
set_option maxRecDepth 20000 in
theorem gL_isBest_L_whyNot : GoodIn wsL_isBest (va_wsS RL 135 yL_whyNot wsL_whyNot) := goodIn_app (goodIn_of _ (by decide +kernel)) ggL_isBest_L_whyNot
set_option maxRecDepth 20000 in
theorem ggL_isBest_L_nests : GoodIn wsL_isBest wsL_nests := goodIn_ca (goodIn_r _ [175, 5, 6, 176, 177, 178, 11, 179, 17, 18, 128, 129, 130, 131, 44, 180, 65, 66, 61, 67, 63, 181, 182, 183, 184, 185, 186, 187, 188, 189, 190, 191, 192, 193, 213, 214, 215, 216] (by decide +kernel) (by decide +kernel)) (goodIn_sub (fun _ h => List.mem_cons_of_mem _ (List.mem_append_left _ (List.mem_append_right _ h))) (by decide +kernel))
set_option maxRecDepth 20000 in
theorem gL_isBest_L_nests : GoodIn wsL_isBest (va_wsS RL 133 yL_nests wsL_nests) := goodIn_app (goodIn_of _ (by decide +kernel)) ggL_isBest_L_nests
theorem dL_isBest_0 : decode cL_isBest 0 = .ok (.aload_n 0, 1) := by decide +kernel
theorem dL_isBest_1 : decode cL_isBest 1 = .ok (.iload_n 2, 1) := by decide +kernel
theorem dL_isBest_2 : decode cL_isBest 2 = .ok (.bipush 8, 2) := by decide +kernel
theorem dL_isBest_4 : decode cL_isBest 4 = .ok (.idiv, 1) := by decide +kernel
theorem dL_isBest_5 : decode cL_isBest 5 = .ok (.iload_n 2, 1) := by decide +kernel
theorem dL_isBest_6 : decode cL_isBest 6 = .ok (.bipush 8, 2) := by decide +kernel
theorem dL_isBest_8 : decode cL_isBest 8 = .ok (.irem, 1) := by decide +kernel
theorem dL_isBest_9 : decode cL_isBest 9 = .ok (.iload_n 3, 1) := by decide +kernel
theorem dL_isBest_10 : decode cL_isBest 10 = .ok (.invokestatic 140, 3) := by decide +kernel
theorem dL_isBest_13 : decode cL_isBest 13 = .ok (.istore 4, 2) := by decide +kernel
theorem dL_isBest_15 : decode cL_isBest 15 = .ok (.iload 4, 2) := by decide +kernel
theorem dL_isBest_17 : decode cL_isBest 17 = .ok (.aload_n 0, 1) := by decide +kernel
theorem dL_isBest_18 : decode cL_isBest 18 = .ok (.iload_n 2, 1) := by decide +kernel
theorem dL_isBest_19 : decode cL_isBest 19 = .ok (.bipush 8, 2) := by decide +kernel
theorem dL_isBest_21 : decode cL_isBest 21 = .ok (.idiv, 1) := by decide +kernel
theorem dL_isBest_22 : decode cL_isBest 22 = .ok (.iload_n 2, 1) := by decide +kernel
theorem dL_isBest_23 : decode cL_isBest 23 = .ok (.bipush 8, 2) := by decide +kernel
theorem dL_isBest_25 : decode cL_isBest 25 = .ok (.irem, 1) := by decide +kernel
theorem dL_isBest_26 : decode cL_isBest 26 = .ok (.iload_n 3, 1) := by decide +kernel
theorem dL_isBest_27 : decode cL_isBest 27 = .ok (.invokestatic 142, 3) := by decide +kernel
theorem dL_isBest_30 : decode cL_isBest 30 = .ok (.if_icmp .ne 21, 3) := by decide +kernel
theorem dL_isBest_33 : decode cL_isBest 33 = .ok (.iload 4, 2) := by decide +kernel
theorem dL_isBest_35 : decode cL_isBest 35 = .ok (.ifCond .lt 16, 3) := by decide +kernel
theorem dL_isBest_38 : decode cL_isBest 38 = .ok (.iload 4, 2) := by decide +kernel
theorem dL_isBest_40 : decode cL_isBest 40 = .ok (.invokestatic 145, 3) := by decide +kernel
theorem dL_isBest_43 : decode cL_isBest 43 = .ok (.iconst 3, 1) := by decide +kernel
theorem dL_isBest_44 : decode cL_isBest 44 = .ok (.if_icmp .gt 7, 3) := by decide +kernel
theorem dL_isBest_47 : decode cL_isBest 47 = .ok (.iconst 1, 1) := by decide +kernel
theorem dL_isBest_48 : decode cL_isBest 48 = .ok (.goto 4, 3) := by decide +kernel
theorem dL_isBest_51 : decode cL_isBest 51 = .ok (.iconst 0, 1) := by decide +kernel
theorem dL_isBest_52 : decode cL_isBest 52 = .ok (.istore 5, 2) := by decide +kernel
theorem dL_isBest_54 : decode cL_isBest 54 = .ok (.iconst 0, 1) := by decide +kernel
theorem dL_isBest_55 : decode cL_isBest 55 = .ok (.istore 6, 2) := by decide +kernel
theorem dL_isBest_57 : decode cL_isBest 57 = .ok (.iconst 0, 1) := by decide +kernel
theorem dL_isBest_58 : decode cL_isBest 58 = .ok (.istore 7, 2) := by decide +kernel
theorem dL_isBest_60 : decode cL_isBest 60 = .ok (.iload 7, 2) := by decide +kernel
theorem dL_isBest_62 : decode cL_isBest 62 = .ok (.aload_n 1, 1) := by decide +kernel
theorem dL_isBest_63 : decode cL_isBest 63 = .ok (.iconst 0, 1) := by decide +kernel
theorem dL_isBest_64 : decode cL_isBest 64 = .ok (.iaload, 1) := by decide +kernel
theorem dL_isBest_65 : decode cL_isBest 65 = .ok (.if_icmp .ge 40, 3) := by decide +kernel
theorem dL_isBest_68 : decode cL_isBest 68 = .ok (.iload 6, 2) := by decide +kernel
theorem dL_isBest_70 : decode cL_isBest 70 = .ok (.aload_n 0, 1) := by decide +kernel
theorem dL_isBest_71 : decode cL_isBest 71 = .ok (.iload_n 2, 1) := by decide +kernel
theorem dL_isBest_72 : decode cL_isBest 72 = .ok (.bipush 8, 2) := by decide +kernel
theorem dL_isBest_74 : decode cL_isBest 74 = .ok (.idiv, 1) := by decide +kernel
theorem dL_isBest_75 : decode cL_isBest 75 = .ok (.iload_n 2, 1) := by decide +kernel
theorem dL_isBest_76 : decode cL_isBest 76 = .ok (.bipush 8, 2) := by decide +kernel
theorem dL_isBest_78 : decode cL_isBest 78 = .ok (.irem, 1) := by decide +kernel
theorem dL_isBest_79 : decode cL_isBest 79 = .ok (.iload 7, 2) := by decide +kernel
theorem dL_isBest_81 : decode cL_isBest 81 = .ok (.iload_n 3, 1) := by decide +kernel
theorem dL_isBest_82 : decode cL_isBest 82 = .ok (.invokestatic 135, 3) := by decide +kernel
theorem dL_isBest_85 : decode cL_isBest 85 = .ok (.ifCond .ne 10, 3) := by decide +kernel
theorem dL_isBest_88 : decode cL_isBest 88 = .ok (.iconst 1, 1) := by decide +kernel
theorem dL_isBest_89 : decode cL_isBest 89 = .ok (.iload 7, 2) := by decide +kernel
theorem dL_isBest_91 : decode cL_isBest 91 = .ok (.ishl, 1) := by decide +kernel
theorem dL_isBest_92 : decode cL_isBest 92 = .ok (.goto 4, 3) := by decide +kernel
theorem dL_isBest_95 : decode cL_isBest 95 = .ok (.iconst 0, 1) := by decide +kernel
theorem dL_isBest_96 : decode cL_isBest 96 = .ok (.iadd, 1) := by decide +kernel
theorem dL_isBest_97 : decode cL_isBest 97 = .ok (.istore 6, 2) := by decide +kernel
theorem dL_isBest_99 : decode cL_isBest 99 = .ok (.iinc 7 1, 3) := by decide +kernel
theorem dL_isBest_102 : decode cL_isBest 102 = .ok (.goto (-42), 3) := by decide +kernel
theorem dL_isBest_105 : decode cL_isBest 105 = .ok (.iload 5, 2) := by decide +kernel
theorem dL_isBest_107 : decode cL_isBest 107 = .ok (.ifCond .eq 40, 3) := by decide +kernel
theorem dL_isBest_110 : decode cL_isBest 110 = .ok (.iload 4, 2) := by decide +kernel
theorem dL_isBest_112 : decode cL_isBest 112 = .ok (.iload 6, 2) := by decide +kernel
theorem dL_isBest_114 : decode cL_isBest 114 = .ok (.iconst (-1), 1) := by decide +kernel
theorem dL_isBest_115 : decode cL_isBest 115 = .ok (.ixor, 1) := by decide +kernel
theorem dL_isBest_116 : decode cL_isBest 116 = .ok (.iand, 1) := by decide +kernel
theorem dL_isBest_117 : decode cL_isBest 117 = .ok (.ifCond .ne 30, 3) := by decide +kernel
theorem dL_isBest_120 : decode cL_isBest 120 = .ok (.iload 4, 2) := by decide +kernel
theorem dL_isBest_122 : decode cL_isBest 122 = .ok (.ifCond .ne 7, 3) := by decide +kernel
theorem dL_isBest_125 : decode cL_isBest 125 = .ok (.iconst 1, 1) := by decide +kernel
theorem dL_isBest_126 : decode cL_isBest 126 = .ok (.goto 4, 3) := by decide +kernel
theorem dL_isBest_129 : decode cL_isBest 129 = .ok (.iconst 0, 1) := by decide +kernel
theorem dL_isBest_130 : decode cL_isBest 130 = .ok (.iload 6, 2) := by decide +kernel
theorem dL_isBest_132 : decode cL_isBest 132 = .ok (.ifCond .ne 7, 3) := by decide +kernel
theorem dL_isBest_135 : decode cL_isBest 135 = .ok (.iconst 1, 1) := by decide +kernel
theorem dL_isBest_136 : decode cL_isBest 136 = .ok (.goto 4, 3) := by decide +kernel
theorem dL_isBest_139 : decode cL_isBest 139 = .ok (.iconst 0, 1) := by decide +kernel
theorem dL_isBest_140 : decode cL_isBest 140 = .ok (.if_icmp .ne 7, 3) := by decide +kernel
theorem dL_isBest_143 : decode cL_isBest 143 = .ok (.iconst 1, 1) := by decide +kernel
theorem dL_isBest_144 : decode cL_isBest 144 = .ok (.goto 4, 3) := by decide +kernel
theorem dL_isBest_147 : decode cL_isBest 147 = .ok (.iconst 0, 1) := by decide +kernel
theorem dL_isBest_148 : decode cL_isBest 148 = .ok (.istore 5, 2) := by decide +kernel
theorem dL_isBest_150 : decode cL_isBest 150 = .ok (.iconst 0, 1) := by decide +kernel
theorem dL_isBest_151 : decode cL_isBest 151 = .ok (.istore 7, 2) := by decide +kernel
theorem dL_isBest_153 : decode cL_isBest 153 = .ok (.iload 7, 2) := by decide +kernel
theorem dL_isBest_155 : decode cL_isBest 155 = .ok (.aload_n 1, 1) := by decide +kernel
theorem dL_isBest_156 : decode cL_isBest 156 = .ok (.iconst 0, 1) := by decide +kernel
theorem dL_isBest_157 : decode cL_isBest 157 = .ok (.iaload, 1) := by decide +kernel
theorem dL_isBest_158 : decode cL_isBest 158 = .ok (.aload_n 1, 1) := by decide +kernel
theorem dL_isBest_159 : decode cL_isBest 159 = .ok (.iconst 0, 1) := by decide +kernel
theorem dL_isBest_160 : decode cL_isBest 160 = .ok (.iaload, 1) := by decide +kernel
theorem dL_isBest_161 : decode cL_isBest 161 = .ok (.imul, 1) := by decide +kernel
theorem dL_isBest_162 : decode cL_isBest 162 = .ok (.if_icmp .ge 82, 3) := by decide +kernel
theorem dL_isBest_165 : decode cL_isBest 165 = .ok (.iload 5, 2) := by decide +kernel
theorem dL_isBest_167 : decode cL_isBest 167 = .ok (.ifCond .eq 77, 3) := by decide +kernel
theorem dL_isBest_170 : decode cL_isBest 170 = .ok (.iload 4, 2) := by decide +kernel
theorem dL_isBest_172 : decode cL_isBest 172 = .ok (.iload 7, 2) := by decide +kernel
theorem dL_isBest_174 : decode cL_isBest 174 = .ok (.aload_n 1, 1) := by decide +kernel
theorem dL_isBest_175 : decode cL_isBest 175 = .ok (.iconst 0, 1) := by decide +kernel
theorem dL_isBest_176 : decode cL_isBest 176 = .ok (.iaload, 1) := by decide +kernel
theorem dL_isBest_177 : decode cL_isBest 177 = .ok (.idiv, 1) := by decide +kernel
theorem dL_isBest_178 : decode cL_isBest 178 = .ok (.ishr, 1) := by decide +kernel
theorem dL_isBest_179 : decode cL_isBest 179 = .ok (.iconst 1, 1) := by decide +kernel
theorem dL_isBest_180 : decode cL_isBest 180 = .ok (.iand, 1) := by decide +kernel
theorem dL_isBest_181 : decode cL_isBest 181 = .ok (.iconst 1, 1) := by decide +kernel
theorem dL_isBest_182 : decode cL_isBest 182 = .ok (.if_icmp .ne 22, 3) := by decide +kernel
theorem dL_isBest_185 : decode cL_isBest 185 = .ok (.iload 4, 2) := by decide +kernel
theorem dL_isBest_187 : decode cL_isBest 187 = .ok (.iload 7, 2) := by decide +kernel
theorem dL_isBest_189 : decode cL_isBest 189 = .ok (.aload_n 1, 1) := by decide +kernel
theorem dL_isBest_190 : decode cL_isBest 190 = .ok (.iconst 0, 1) := by decide +kernel
theorem dL_isBest_191 : decode cL_isBest 191 = .ok (.iaload, 1) := by decide +kernel
theorem dL_isBest_192 : decode cL_isBest 192 = .ok (.irem, 1) := by decide +kernel
theorem dL_isBest_193 : decode cL_isBest 193 = .ok (.ishr, 1) := by decide +kernel
theorem dL_isBest_194 : decode cL_isBest 194 = .ok (.iconst 1, 1) := by decide +kernel
theorem dL_isBest_195 : decode cL_isBest 195 = .ok (.iand, 1) := by decide +kernel
theorem dL_isBest_196 : decode cL_isBest 196 = .ok (.iconst 1, 1) := by decide +kernel
theorem dL_isBest_197 : decode cL_isBest 197 = .ok (.if_icmp .ne 7, 3) := by decide +kernel
theorem dL_isBest_200 : decode cL_isBest 200 = .ok (.iconst 1, 1) := by decide +kernel
theorem dL_isBest_201 : decode cL_isBest 201 = .ok (.goto 4, 3) := by decide +kernel
theorem dL_isBest_204 : decode cL_isBest 204 = .ok (.iconst 0, 1) := by decide +kernel
theorem dL_isBest_205 : decode cL_isBest 205 = .ok (.istore 8, 2) := by decide +kernel
theorem dL_isBest_207 : decode cL_isBest 207 = .ok (.iload 8, 2) := by decide +kernel
theorem dL_isBest_209 : decode cL_isBest 209 = .ok (.ifCond .eq 22, 3) := by decide +kernel
theorem dL_isBest_212 : decode cL_isBest 212 = .ok (.aload_n 0, 1) := by decide +kernel
theorem dL_isBest_213 : decode cL_isBest 213 = .ok (.iload 7, 2) := by decide +kernel
theorem dL_isBest_215 : decode cL_isBest 215 = .ok (.aload_n 1, 1) := by decide +kernel
theorem dL_isBest_216 : decode cL_isBest 216 = .ok (.iconst 0, 1) := by decide +kernel
theorem dL_isBest_217 : decode cL_isBest 217 = .ok (.iaload, 1) := by decide +kernel
theorem dL_isBest_218 : decode cL_isBest 218 = .ok (.idiv, 1) := by decide +kernel
theorem dL_isBest_219 : decode cL_isBest 219 = .ok (.iload 7, 2) := by decide +kernel
theorem dL_isBest_221 : decode cL_isBest 221 = .ok (.aload_n 1, 1) := by decide +kernel
theorem dL_isBest_222 : decode cL_isBest 222 = .ok (.iconst 0, 1) := by decide +kernel
theorem dL_isBest_223 : decode cL_isBest 223 = .ok (.iaload, 1) := by decide +kernel
theorem dL_isBest_224 : decode cL_isBest 224 = .ok (.irem, 1) := by decide +kernel
theorem dL_isBest_225 : decode cL_isBest 225 = .ok (.invokestatic 133, 3) := by decide +kernel
theorem dL_isBest_228 : decode cL_isBest 228 = .ok (.ifCond .ne 7, 3) := by decide +kernel
theorem dL_isBest_231 : decode cL_isBest 231 = .ok (.iconst 1, 1) := by decide +kernel
theorem dL_isBest_232 : decode cL_isBest 232 = .ok (.goto 4, 3) := by decide +kernel
theorem dL_isBest_235 : decode cL_isBest 235 = .ok (.iconst 0, 1) := by decide +kernel
theorem dL_isBest_236 : decode cL_isBest 236 = .ok (.istore 5, 2) := by decide +kernel
theorem dL_isBest_238 : decode cL_isBest 238 = .ok (.iinc 7 1, 3) := by decide +kernel
theorem dL_isBest_241 : decode cL_isBest 241 = .ok (.goto (-88), 3) := by decide +kernel
theorem dL_isBest_244 : decode cL_isBest 244 = .ok (.iload 5, 2) := by decide +kernel
theorem dL_isBest_246 : decode cL_isBest 246 = .ok (.ireturn, 1) := by decide +kernel
set_option maxRecDepth 20000 in
theorem ggL_areNested_L_nests : GoodIn wsL_areNested wsL_nests := goodIn_ca (goodIn_r _ [4, 5, 6, 7, 8, 9, 10, 11, 12, 13, 14, 15, 16, 17, 18, 19, 20, 21, 22, 23, 24, 25, 26, 27, 28, 29, 30, 31, 32, 33, 34, 35, 36, 37, 38, 39, 40, 41] (by decide +kernel) (by decide +kernel)) (goodIn_sub (fun _ h => List.mem_cons_of_mem _ (List.mem_append_right _ h)) (by decide +kernel))
set_option maxRecDepth 20000 in
theorem gL_areNested_L_nests : GoodIn wsL_areNested (va_wsS RL 133 yL_nests wsL_nests) := goodIn_app (goodIn_of _ (by decide +kernel)) ggL_areNested_L_nests
theorem dL_areNested_0 : decode cL_areNested 0 = .ok (.iload_n 2, 1) := by decide +kernel
theorem dL_areNested_1 : decode cL_areNested 1 = .ok (.aload_n 1, 1) := by decide +kernel
theorem dL_areNested_2 : decode cL_areNested 2 = .ok (.iconst 0, 1) := by decide +kernel
theorem dL_areNested_3 : decode cL_areNested 3 = .ok (.iaload, 1) := by decide +kernel
theorem dL_areNested_4 : decode cL_areNested 4 = .ok (.irem, 1) := by decide +kernel
theorem dL_areNested_5 : decode cL_areNested 5 = .ok (.istore_n 3, 1) := by decide +kernel
theorem dL_areNested_6 : decode cL_areNested 6 = .ok (.iload_n 2, 1) := by decide +kernel
theorem dL_areNested_7 : decode cL_areNested 7 = .ok (.bipush 8, 2) := by decide +kernel
theorem dL_areNested_9 : decode cL_areNested 9 = .ok (.idiv, 1) := by decide +kernel
theorem dL_areNested_10 : decode cL_areNested 10 = .ok (.aload_n 1, 1) := by decide +kernel
theorem dL_areNested_11 : decode cL_areNested 11 = .ok (.iconst 0, 1) := by decide +kernel
theorem dL_areNested_12 : decode cL_areNested 12 = .ok (.iaload, 1) := by decide +kernel
theorem dL_areNested_13 : decode cL_areNested 13 = .ok (.irem, 1) := by decide +kernel
theorem dL_areNested_14 : decode cL_areNested 14 = .ok (.istore 4, 2) := by decide +kernel
theorem dL_areNested_16 : decode cL_areNested 16 = .ok (.iload_n 2, 1) := by decide +kernel
theorem dL_areNested_17 : decode cL_areNested 17 = .ok (.bipush 64, 2) := by decide +kernel
theorem dL_areNested_19 : decode cL_areNested 19 = .ok (.idiv, 1) := by decide +kernel
theorem dL_areNested_20 : decode cL_areNested 20 = .ok (.aload_n 1, 1) := by decide +kernel
theorem dL_areNested_21 : decode cL_areNested 21 = .ok (.iconst 0, 1) := by decide +kernel
theorem dL_areNested_22 : decode cL_areNested 22 = .ok (.iaload, 1) := by decide +kernel
theorem dL_areNested_23 : decode cL_areNested 23 = .ok (.irem, 1) := by decide +kernel
theorem dL_areNested_24 : decode cL_areNested 24 = .ok (.istore 5, 2) := by decide +kernel
theorem dL_areNested_26 : decode cL_areNested 26 = .ok (.aload_n 0, 1) := by decide +kernel
theorem dL_areNested_27 : decode cL_areNested 27 = .ok (.iload_n 3, 1) := by decide +kernel
theorem dL_areNested_28 : decode cL_areNested 28 = .ok (.iload 4, 2) := by decide +kernel
theorem dL_areNested_30 : decode cL_areNested 30 = .ok (.invokestatic 133, 3) := by decide +kernel
theorem dL_areNested_33 : decode cL_areNested 33 = .ok (.iconst 1, 1) := by decide +kernel
theorem dL_areNested_34 : decode cL_areNested 34 = .ok (.if_icmp .ne 7, 3) := by decide +kernel
theorem dL_areNested_37 : decode cL_areNested 37 = .ok (.iconst 1, 1) := by decide +kernel
theorem dL_areNested_38 : decode cL_areNested 38 = .ok (.goto 4, 3) := by decide +kernel
theorem dL_areNested_41 : decode cL_areNested 41 = .ok (.iconst 0, 1) := by decide +kernel
theorem dL_areNested_42 : decode cL_areNested 42 = .ok (.istore 6, 2) := by decide +kernel
theorem dL_areNested_44 : decode cL_areNested 44 = .ok (.aload_n 0, 1) := by decide +kernel
theorem dL_areNested_45 : decode cL_areNested 45 = .ok (.iload 4, 2) := by decide +kernel
theorem dL_areNested_47 : decode cL_areNested 47 = .ok (.iload 5, 2) := by decide +kernel
theorem dL_areNested_49 : decode cL_areNested 49 = .ok (.invokestatic 133, 3) := by decide +kernel
theorem dL_areNested_52 : decode cL_areNested 52 = .ok (.iconst 1, 1) := by decide +kernel
theorem dL_areNested_53 : decode cL_areNested 53 = .ok (.if_icmp .ne 7, 3) := by decide +kernel
theorem dL_areNested_56 : decode cL_areNested 56 = .ok (.iconst 1, 1) := by decide +kernel
theorem dL_areNested_57 : decode cL_areNested 57 = .ok (.goto 4, 3) := by decide +kernel
theorem dL_areNested_60 : decode cL_areNested 60 = .ok (.iconst 0, 1) := by decide +kernel
theorem dL_areNested_61 : decode cL_areNested 61 = .ok (.istore 7, 2) := by decide +kernel
theorem dL_areNested_63 : decode cL_areNested 63 = .ok (.iload 6, 2) := by decide +kernel
theorem dL_areNested_65 : decode cL_areNested 65 = .ok (.ifCond .eq 14, 3) := by decide +kernel
theorem dL_areNested_68 : decode cL_areNested 68 = .ok (.aload_n 0, 1) := by decide +kernel
theorem dL_areNested_69 : decode cL_areNested 69 = .ok (.iload 4, 2) := by decide +kernel
theorem dL_areNested_71 : decode cL_areNested 71 = .ok (.iload_n 3, 1) := by decide +kernel
theorem dL_areNested_72 : decode cL_areNested 72 = .ok (.invokestatic 133, 3) := by decide +kernel
theorem dL_areNested_75 : decode cL_areNested 75 = .ok (.iconst 1, 1) := by decide +kernel
theorem dL_areNested_76 : decode cL_areNested 76 = .ok (.if_icmp .eq 37, 3) := by decide +kernel
theorem dL_areNested_79 : decode cL_areNested 79 = .ok (.iload 6, 2) := by decide +kernel
theorem dL_areNested_81 : decode cL_areNested 81 = .ok (.ifCond .eq 19, 3) := by decide +kernel
theorem dL_areNested_84 : decode cL_areNested 84 = .ok (.iload 7, 2) := by decide +kernel
theorem dL_areNested_86 : decode cL_areNested 86 = .ok (.ifCond .eq 14, 3) := by decide +kernel
theorem dL_areNested_89 : decode cL_areNested 89 = .ok (.aload_n 0, 1) := by decide +kernel
theorem dL_areNested_90 : decode cL_areNested 90 = .ok (.iload_n 3, 1) := by decide +kernel
theorem dL_areNested_91 : decode cL_areNested 91 = .ok (.iload 5, 2) := by decide +kernel
theorem dL_areNested_93 : decode cL_areNested 93 = .ok (.invokestatic 133, 3) := by decide +kernel
theorem dL_areNested_96 : decode cL_areNested 96 = .ok (.iconst 1, 1) := by decide +kernel
theorem dL_areNested_97 : decode cL_areNested 97 = .ok (.if_icmp .ne 16, 3) := by decide +kernel
theorem dL_areNested_100 : decode cL_areNested 100 = .ok (.aload_n 0, 1) := by decide +kernel
theorem dL_areNested_101 : decode cL_areNested 101 = .ok (.iload_n 3, 1) := by decide +kernel
theorem dL_areNested_102 : decode cL_areNested 102 = .ok (.iload_n 3, 1) := by decide +kernel
theorem dL_areNested_103 : decode cL_areNested 103 = .ok (.invokestatic 133, 3) := by decide +kernel
theorem dL_areNested_106 : decode cL_areNested 106 = .ok (.ifCond .ne 7, 3) := by decide +kernel
theorem dL_areNested_109 : decode cL_areNested 109 = .ok (.iconst 1, 1) := by decide +kernel
theorem dL_areNested_110 : decode cL_areNested 110 = .ok (.goto 4, 3) := by decide +kernel
theorem dL_areNested_113 : decode cL_areNested 113 = .ok (.iconst 0, 1) := by decide +kernel
theorem dL_areNested_114 : decode cL_areNested 114 = .ok (.ireturn, 1) := by decide +kernel
set_option maxRecDepth 20000 in
theorem ggL_isLawful_L_count : GoodIn wsL_isLawful wsL_count := goodIn_ca (goodIn_r _ [4, 5, 6, 7, 8, 9, 10, 11, 12, 13, 14, 15, 16, 17, 18, 19, 226, 227, 228, 229, 230, 231, 232, 233, 234, 235, 236, 237, 238] (by decide +kernel) (by decide +kernel)) (goodIn_sub (fun _ h => List.mem_cons_of_mem _ (List.mem_append_left _ (List.mem_append_right _ h))) (by decide +kernel))
set_option maxRecDepth 20000 in
theorem gL_isLawful_L_count : GoodIn wsL_isLawful (va_wsS RL 111 yL_count wsL_count) := goodIn_app (goodIn_of _ (by decide +kernel)) ggL_isLawful_L_count
set_option maxRecDepth 20000 in
theorem ggL_isLawful_L_isHeld : GoodIn wsL_isLawful wsL_isHeld := goodIn_ca (goodIn_ca (goodIn_r _ [22, 23, 24, 3, 25, 26, 27, 6, 28, 29, 30, 10, 31, 12, 13, 32, 33, 34, 35, 36, 37, 38, 39, 40, 41, 42, 43, 44, 45, 46, 47, 48, 49, 50, 51, 52, 53, 54, 55, 56, 57, 58, 59, 60, 61, 62, 63, 64, 65, 66, 67, 68, 69, 70, 71, 72, 73, 74, 75, 76, 77, 78, 79, 80, 81, 239, 240, 241, 242, 243, 244, 245, 246, 247, 248, 249, 250, 251, 252, 226, 227, 228, 229, 230, 231, 232, 233, 234, 235, 236, 237, 238, 253, 254, 255, 256, 257, 258, 259, 260, 261] (by decide +kernel) (by decide +kernel)) (goodIn_sub (fun _ h => List.mem_cons_of_mem _ (List.mem_append_left _ (List.mem_append_right _ h))) (by decide +kernel))) (goodIn_sub (fun _ h => List.mem_cons_of_mem _ (List.mem_append_right _ h)) (by decide +kernel))
set_option maxRecDepth 20000 in
theorem gL_isLawful_L_isHeld : GoodIn wsL_isLawful (va_wsS RL 148 yL_isHeld wsL_isHeld) := goodIn_app (goodIn_of _ (by decide +kernel)) ggL_isLawful_L_isHeld
set_option maxRecDepth 20000 in
theorem ggL_isLawful_X4_day : GoodIn wsL_isLawful wsX4_day := goodIn_r _ [85, 61, 226, 227, 228, 229, 230, 231, 232, 233, 234, 235, 236, 237, 238] (by decide +kernel) (by decide +kernel)
set_option maxRecDepth 20000 in
theorem gL_isLawful_X4_day : GoodIn wsL_isLawful (wsV RL 105 RX4 yX4_day wsX4_day) := goodIn_app (goodIn_of _ (by decide +kernel)) ggL_isLawful_X4_day
set_option maxRecDepth 20000 in
theorem ggL_isLawful_L_isBest : GoodIn wsL_isLawful wsL_isBest := goodIn_ca (goodIn_ca (goodIn_r _ [88, 89, 90, 3, 91, 26, 27, 6, 92, 93, 94, 10, 95, 39, 40, 41, 42, 43, 44, 45, 46, 47, 48, 49, 50, 51, 52, 53, 54, 55, 96, 97, 98, 99, 12, 13, 61, 100, 101, 102, 103, 104, 105, 106, 60, 107, 108, 109, 110, 111, 112, 113, 114, 115, 62, 63, 64, 65, 66, 67, 68, 69, 70, 71, 72, 73, 74, 75, 76, 77, 78, 79, 80, 81, 116, 117, 118, 119, 120, 121, 122, 123, 124, 125, 126, 127, 128, 129, 130, 131, 132, 133, 134, 135, 136, 137, 138, 139, 140, 141, 142, 143, 144, 145, 146, 147, 148, 149, 150, 151, 152, 153, 154, 155, 156, 157, 158, 159, 160, 161, 162, 163, 164, 165, 166, 167, 168, 169, 170, 171, 172, 173, 174, 175, 176, 177, 178, 179, 180, 181, 182, 183, 184, 185, 186, 187, 188, 189, 190, 191, 192, 193, 194, 195, 196, 197, 198, 199, 200, 201, 202, 203, 204, 205, 206, 207, 208, 209, 210, 211, 212, 213, 214, 215, 216, 217, 218, 219, 220, 221, 222, 226, 227, 228, 229, 230, 231, 232, 233, 234, 235, 236, 237, 238, 253, 254, 255, 256, 257, 239, 240, 241, 242, 243, 244, 245, 246, 247, 248, 249, 250, 251, 252, 258, 259, 260, 261, 262, 263, 264, 265, 266, 267, 268, 269, 270, 271] (by decide +kernel) (by decide +kernel)) (goodIn_sub (fun _ h => List.mem_cons_of_mem _ (List.mem_append_right _ h)) (by decide +kernel))) (goodIn_sub (fun _ h => List.mem_cons_of_mem _ (List.mem_append_left _ (List.mem_append_right _ h))) (by decide +kernel))
set_option maxRecDepth 20000 in
theorem gL_isLawful_L_isBest : GoodIn wsL_isLawful (va_wsS RL 152 yL_isBest wsL_isBest) := goodIn_app (goodIn_of _ (by decide +kernel)) ggL_isLawful_L_isBest
set_option maxRecDepth 20000 in
theorem ggL_isLawful_L_areNested : GoodIn wsL_isLawful wsL_areNested := goodIn_ca (goodIn_r _ [225, 215, 216, 3, 217, 26, 27, 218, 219, 220, 10, 221, 43, 44, 170, 171, 172, 173, 60, 222, 73, 74, 69, 75, 71, 226, 227, 228, 229, 230, 231, 232, 233, 234, 235, 236, 237, 238, 258, 259, 260, 261] (by decide +kernel) (by decide +kernel)) (goodIn_sub (fun _ h => List.mem_cons_of_mem _ (List.mem_append_right _ h)) (by decide +kernel))
set_option maxRecDepth 20000 in
theorem gL_isLawful_L_areNested : GoodIn wsL_isLawful (va_wsS RL 156 yL_areNested wsL_areNested) := goodIn_app (goodIn_of _ (by decide +kernel)) ggL_isLawful_L_areNested
set_option maxRecDepth 20000 in
theorem ggL_isLawful_L_of : GoodIn wsL_isLawful wsL_of := goodIn_ca (goodIn_ca (goodIn_r _ [25, 26, 27, 6, 28, 29, 30, 10, 31, 12, 13, 32, 33, 34, 35, 36, 37, 38, 39, 40, 41, 42, 43, 44, 45, 46, 47, 48, 49, 50, 51, 52, 53, 54, 55, 56, 57, 58, 59, 60, 61, 62, 63, 64, 65, 66, 67, 68, 69, 70, 71, 72, 73, 74, 75, 76, 77, 78, 79, 80, 81, 239, 240, 241, 242, 243, 244, 245, 246, 247, 248, 249, 250, 251, 252, 226, 227, 228, 229, 230, 231, 232, 233, 234, 235, 236, 237, 238, 253, 254, 255, 256, 257, 258, 259, 260, 261] (by decide +kernel) (by decide +kernel)) (goodIn_sub (fun _ h => List.mem_cons_of_mem _ (List.mem_append_left _ (List.mem_append_right _ h))) (by decide +kernel))) (goodIn_sub (fun _ h => List.mem_cons_of_mem _ (List.mem_append_right _ h)) (by decide +kernel))
set_option maxRecDepth 20000 in
theorem gL_isLawful_L_of : GoodIn wsL_isLawful (va_wsS RL 116 yL_of wsL_of) := goodIn_app (goodIn_of _ (by decide +kernel)) ggL_isLawful_L_of
set_option maxRecDepth 20000 in
theorem ggL_isLawful_L_whyNot : GoodIn wsL_isLawful wsL_whyNot := goodIn_ca (goodIn_ca (goodIn_r _ [210, 26, 27, 6, 211, 212, 213, 10, 214, 43, 44, 39, 40, 41, 42, 45, 46, 47, 48, 49, 50, 51, 52, 53, 54, 55, 170, 171, 172, 173, 60, 96, 97, 98, 99, 12, 13, 61, 100, 101, 102, 107, 108, 109, 110, 111, 112, 113, 114, 115, 62, 63, 64, 65, 66, 67, 68, 69, 70, 71, 72, 73, 74, 75, 76, 77, 78, 79, 80, 81, 116, 117, 118, 119, 120, 121, 122, 123, 124, 125, 126, 127, 128, 129, 130, 131, 132, 133, 134, 135, 136, 137, 138, 139, 140, 141, 142, 143, 144, 145, 146, 226, 227, 228, 229, 230, 231, 232, 233, 234, 235, 236, 237, 238, 253, 254, 255, 256, 257, 239, 240, 241, 242, 243, 244, 245, 246, 247, 248, 249, 250, 251, 252, 258, 259, 260, 261, 262, 263, 264, 265, 266, 267, 268, 269, 270, 271] (by decide +kernel) (by decide +kernel)) (goodIn_sub (fun _ h => List.mem_cons_of_mem _ (List.mem_append_right _ h)) (by decide +kernel))) (goodIn_sub (fun _ h => List.mem_cons_of_mem _ (List.mem_append_left _ (List.mem_append_right _ h))) (by decide +kernel))
set_option maxRecDepth 20000 in
theorem gL_isLawful_L_whyNot : GoodIn wsL_isLawful (va_wsS RL 135 yL_whyNot wsL_whyNot) := goodIn_app (goodIn_of _ (by decide +kernel)) ggL_isLawful_L_whyNot
theorem dL_isLawful_0 : decode cL_isLawful 0 = .ok (.iconst 1, 1) := by decide +kernel
theorem dL_isLawful_1 : decode cL_isLawful 1 = .ok (.istore 6, 2) := by decide +kernel
theorem dL_isLawful_3 : decode cL_isLawful 3 = .ok (.iconst 0, 1) := by decide +kernel
theorem dL_isLawful_4 : decode cL_isLawful 4 = .ok (.istore 7, 2) := by decide +kernel
theorem dL_isLawful_6 : decode cL_isLawful 6 = .ok (.iload 7, 2) := by decide +kernel
theorem dL_isLawful_8 : decode cL_isLawful 8 = .ok (.bipush 6, 2) := by decide +kernel
theorem dL_isLawful_10 : decode cL_isLawful 10 = .ok (.if_icmp .ge 46, 3) := by decide +kernel
theorem dL_isLawful_13 : decode cL_isLawful 13 = .ok (.iload 6, 2) := by decide +kernel
theorem dL_isLawful_15 : decode cL_isLawful 15 = .ok (.ifCond .eq 41, 3) := by decide +kernel
theorem dL_isLawful_18 : decode cL_isLawful 18 = .ok (.aload_n 0, 1) := by decide +kernel
theorem dL_isLawful_19 : decode cL_isLawful 19 = .ok (.iload 7, 2) := by decide +kernel
theorem dL_isLawful_21 : decode cL_isLawful 21 = .ok (.invokestatic 111, 3) := by decide +kernel
theorem dL_isLawful_24 : decode cL_isLawful 24 = .ok (.aload 4, 2) := by decide +kernel
theorem dL_isLawful_26 : decode cL_isLawful 26 = .ok (.iload 7, 2) := by decide +kernel
theorem dL_isLawful_28 : decode cL_isLawful 28 = .ok (.iaload, 1) := by decide +kernel
theorem dL_isLawful_29 : decode cL_isLawful 29 = .ok (.if_icmp .lt 7, 3) := by decide +kernel
theorem dL_isLawful_32 : decode cL_isLawful 32 = .ok (.iconst 1, 1) := by decide +kernel
theorem dL_isLawful_33 : decode cL_isLawful 33 = .ok (.goto 4, 3) := by decide +kernel
theorem dL_isLawful_36 : decode cL_isLawful 36 = .ok (.iconst 0, 1) := by decide +kernel
theorem dL_isLawful_37 : decode cL_isLawful 37 = .ok (.istore 6, 2) := by decide +kernel
theorem dL_isLawful_39 : decode cL_isLawful 39 = .ok (.aload 4, 2) := by decide +kernel
theorem dL_isLawful_41 : decode cL_isLawful 41 = .ok (.iload 7, 2) := by decide +kernel
theorem dL_isLawful_43 : decode cL_isLawful 43 = .ok (.aload_n 0, 1) := by decide +kernel
theorem dL_isLawful_44 : decode cL_isLawful 44 = .ok (.iload 7, 2) := by decide +kernel
theorem dL_isLawful_46 : decode cL_isLawful 46 = .ok (.invokestatic 111, 3) := by decide +kernel
theorem dL_isLawful_49 : decode cL_isLawful 49 = .ok (.iastore, 1) := by decide +kernel
theorem dL_isLawful_50 : decode cL_isLawful 50 = .ok (.iinc 7 1, 3) := by decide +kernel
theorem dL_isLawful_53 : decode cL_isLawful 53 = .ok (.goto (-47), 3) := by decide +kernel
theorem dL_isLawful_56 : decode cL_isLawful 56 = .ok (.iconst 0, 1) := by decide +kernel
theorem dL_isLawful_57 : decode cL_isLawful 57 = .ok (.istore 7, 2) := by decide +kernel
theorem dL_isLawful_59 : decode cL_isLawful 59 = .ok (.iload 7, 2) := by decide +kernel
theorem dL_isLawful_61 : decode cL_isLawful 61 = .ok (.bipush 12, 2) := by decide +kernel
theorem dL_isLawful_63 : decode cL_isLawful 63 = .ok (.if_icmp .ge 68, 3) := by decide +kernel
theorem dL_isLawful_66 : decode cL_isLawful 66 = .ok (.iload 6, 2) := by decide +kernel
theorem dL_isLawful_68 : decode cL_isLawful 68 = .ok (.ifCond .eq 63, 3) := by decide +kernel
theorem dL_isLawful_71 : decode cL_isLawful 71 = .ok (.iload 7, 2) := by decide +kernel
theorem dL_isLawful_73 : decode cL_isLawful 73 = .ok (.iconst 4, 1) := by decide +kernel
theorem dL_isLawful_74 : decode cL_isLawful 74 = .ok (.idiv, 1) := by decide +kernel
theorem dL_isLawful_75 : decode cL_isLawful 75 = .ok (.bipush 8, 2) := by decide +kernel
theorem dL_isLawful_77 : decode cL_isLawful 77 = .ok (.imul, 1) := by decide +kernel
theorem dL_isLawful_78 : decode cL_isLawful 78 = .ok (.iload 7, 2) := by decide +kernel
theorem dL_isLawful_80 : decode cL_isLawful 80 = .ok (.iconst 4, 1) := by decide +kernel
theorem dL_isLawful_81 : decode cL_isLawful 81 = .ok (.irem, 1) := by decide +kernel
theorem dL_isLawful_82 : decode cL_isLawful 82 = .ok (.iadd, 1) := by decide +kernel
theorem dL_isLawful_83 : decode cL_isLawful 83 = .ok (.istore 8, 2) := by decide +kernel
theorem dL_isLawful_85 : decode cL_isLawful 85 = .ok (.iload 7, 2) := by decide +kernel
theorem dL_isLawful_87 : decode cL_isLawful 87 = .ok (.iconst 4, 1) := by decide +kernel
theorem dL_isLawful_88 : decode cL_isLawful 88 = .ok (.idiv, 1) := by decide +kernel
theorem dL_isLawful_89 : decode cL_isLawful 89 = .ok (.aload_n 1, 1) := by decide +kernel
theorem dL_isLawful_90 : decode cL_isLawful 90 = .ok (.iconst 1, 1) := by decide +kernel
theorem dL_isLawful_91 : decode cL_isLawful 91 = .ok (.iaload, 1) := by decide +kernel
theorem dL_isLawful_92 : decode cL_isLawful 92 = .ok (.if_icmp .ge 33, 3) := by decide +kernel
theorem dL_isLawful_95 : decode cL_isLawful 95 = .ok (.aload_n 2, 1) := by decide +kernel
theorem dL_isLawful_96 : decode cL_isLawful 96 = .ok (.iload 7, 2) := by decide +kernel
theorem dL_isLawful_98 : decode cL_isLawful 98 = .ok (.iconst 4, 1) := by decide +kernel
theorem dL_isLawful_99 : decode cL_isLawful 99 = .ok (.idiv, 1) := by decide +kernel
theorem dL_isLawful_100 : decode cL_isLawful 100 = .ok (.iaload, 1) := by decide +kernel
theorem dL_isLawful_101 : decode cL_isLawful 101 = .ok (.iload 7, 2) := by decide +kernel
theorem dL_isLawful_103 : decode cL_isLawful 103 = .ok (.iconst 4, 1) := by decide +kernel
theorem dL_isLawful_104 : decode cL_isLawful 104 = .ok (.irem, 1) := by decide +kernel
theorem dL_isLawful_105 : decode cL_isLawful 105 = .ok (.ishr, 1) := by decide +kernel
theorem dL_isLawful_106 : decode cL_isLawful 106 = .ok (.iconst 1, 1) := by decide +kernel
theorem dL_isLawful_107 : decode cL_isLawful 107 = .ok (.iand, 1) := by decide +kernel
theorem dL_isLawful_108 : decode cL_isLawful 108 = .ok (.iconst 1, 1) := by decide +kernel
theorem dL_isLawful_109 : decode cL_isLawful 109 = .ok (.if_icmp .ne 16, 3) := by decide +kernel
theorem dL_isLawful_112 : decode cL_isLawful 112 = .ok (.aload_n 0, 1) := by decide +kernel
theorem dL_isLawful_113 : decode cL_isLawful 113 = .ok (.iload 8, 2) := by decide +kernel
theorem dL_isLawful_115 : decode cL_isLawful 115 = .ok (.aload_n 3, 1) := by decide +kernel
theorem dL_isLawful_116 : decode cL_isLawful 116 = .ok (.iconst 4, 1) := by decide +kernel
theorem dL_isLawful_117 : decode cL_isLawful 117 = .ok (.iload 7, 2) := by decide +kernel
theorem dL_isLawful_119 : decode cL_isLawful 119 = .ok (.imul, 1) := by decide +kernel
theorem dL_isLawful_120 : decode cL_isLawful 120 = .ok (.invokestatic 148, 3) := by decide +kernel
theorem dL_isLawful_123 : decode cL_isLawful 123 = .ok (.istore 6, 2) := by decide +kernel
theorem dL_isLawful_125 : decode cL_isLawful 125 = .ok (.iinc 7 1, 3) := by decide +kernel
theorem dL_isLawful_128 : decode cL_isLawful 128 = .ok (.goto (-69), 3) := by decide +kernel
theorem dL_isLawful_131 : decode cL_isLawful 131 = .ok (.iload 5, 2) := by decide +kernel
theorem dL_isLawful_133 : decode cL_isLawful 133 = .ok (.bipush 48, 2) := by decide +kernel
theorem dL_isLawful_135 : decode cL_isLawful 135 = .ok (.irem, 1) := by decide +kernel
theorem dL_isLawful_136 : decode cL_isLawful 136 = .ok (.istore 7, 2) := by decide +kernel
theorem dL_isLawful_138 : decode cL_isLawful 138 = .ok (.iload 6, 2) := by decide +kernel
theorem dL_isLawful_140 : decode cL_isLawful 140 = .ok (.ifCond .eq 197, 3) := by decide +kernel
theorem dL_isLawful_143 : decode cL_isLawful 143 = .ok (.aload_n 1, 1) := by decide +kernel
theorem dL_isLawful_144 : decode cL_isLawful 144 = .ok (.iconst 0, 1) := by decide +kernel
theorem dL_isLawful_145 : decode cL_isLawful 145 = .ok (.iaload, 1) := by decide +kernel
theorem dL_isLawful_146 : decode cL_isLawful 146 = .ok (.ifCond .le 191, 3) := by decide +kernel
theorem dL_isLawful_149 : decode cL_isLawful 149 = .ok (.iload 7, 2) := by decide +kernel
theorem dL_isLawful_151 : decode cL_isLawful 151 = .ok (.bipush 8, 2) := by decide +kernel
theorem dL_isLawful_153 : decode cL_isLawful 153 = .ok (.aload_n 1, 1) := by decide +kernel
theorem dL_isLawful_154 : decode cL_isLawful 154 = .ok (.iconst 1, 1) := by decide +kernel
theorem dL_isLawful_155 : decode cL_isLawful 155 = .ok (.iaload, 1) := by decide +kernel
theorem dL_isLawful_156 : decode cL_isLawful 156 = .ok (.imul, 1) := by decide +kernel
theorem dL_isLawful_157 : decode cL_isLawful 157 = .ok (.if_icmp .ge 180, 3) := by decide +kernel
theorem dL_isLawful_160 : decode cL_isLawful 160 = .ok (.aload_n 2, 1) := by decide +kernel
theorem dL_isLawful_161 : decode cL_isLawful 161 = .ok (.iload 7, 2) := by decide +kernel
theorem dL_isLawful_163 : decode cL_isLawful 163 = .ok (.bipush 8, 2) := by decide +kernel
theorem dL_isLawful_165 : decode cL_isLawful 165 = .ok (.idiv, 1) := by decide +kernel
theorem dL_isLawful_166 : decode cL_isLawful 166 = .ok (.iaload, 1) := by decide +kernel
theorem dL_isLawful_167 : decode cL_isLawful 167 = .ok (.iload 7, 2) := by decide +kernel
theorem dL_isLawful_169 : decode cL_isLawful 169 = .ok (.bipush 8, 2) := by decide +kernel
theorem dL_isLawful_171 : decode cL_isLawful 171 = .ok (.irem, 1) := by decide +kernel
theorem dL_isLawful_172 : decode cL_isLawful 172 = .ok (.ishr, 1) := by decide +kernel
theorem dL_isLawful_173 : decode cL_isLawful 173 = .ok (.iconst 1, 1) := by decide +kernel
theorem dL_isLawful_174 : decode cL_isLawful 174 = .ok (.iand, 1) := by decide +kernel
theorem dL_isLawful_175 : decode cL_isLawful 175 = .ok (.iconst 1, 1) := by decide +kernel
theorem dL_isLawful_176 : decode cL_isLawful 176 = .ok (.if_icmp .ne 161, 3) := by decide +kernel
theorem dL_isLawful_179 : decode cL_isLawful 179 = .ok (.aload_n 0, 1) := by decide +kernel
theorem dL_isLawful_180 : decode cL_isLawful 180 = .ok (.aload_n 1, 1) := by decide +kernel
theorem dL_isLawful_181 : decode cL_isLawful 181 = .ok (.iload 7, 2) := by decide +kernel
theorem dL_isLawful_183 : decode cL_isLawful 183 = .ok (.aload_n 0, 1) := by decide +kernel
theorem dL_isLawful_184 : decode cL_isLawful 184 = .ok (.invokevirtual 105, 3) := by decide +kernel
theorem dL_isLawful_187 : decode cL_isLawful 187 = .ok (.invokestatic 152, 3) := by decide +kernel
theorem dL_isLawful_190 : decode cL_isLawful 190 = .ok (.ifCond .eq 39, 3) := by decide +kernel
theorem dL_isLawful_193 : decode cL_isLawful 193 = .ok (.aload_n 0, 1) := by decide +kernel
theorem dL_isLawful_194 : decode cL_isLawful 194 = .ok (.aload_n 1, 1) := by decide +kernel
theorem dL_isLawful_195 : decode cL_isLawful 195 = .ok (.iload 7, 2) := by decide +kernel
theorem dL_isLawful_197 : decode cL_isLawful 197 = .ok (.iload 5, 2) := by decide +kernel
theorem dL_isLawful_199 : decode cL_isLawful 199 = .ok (.bipush 48, 2) := by decide +kernel
theorem dL_isLawful_201 : decode cL_isLawful 201 = .ok (.idiv, 1) := by decide +kernel
theorem dL_isLawful_202 : decode cL_isLawful 202 = .ok (.aload_n 0, 1) := by decide +kernel
theorem dL_isLawful_203 : decode cL_isLawful 203 = .ok (.invokevirtual 105, 3) := by decide +kernel
theorem dL_isLawful_206 : decode cL_isLawful 206 = .ok (.iconst 1, 1) := by decide +kernel
theorem dL_isLawful_207 : decode cL_isLawful 207 = .ok (.iadd, 1) := by decide +kernel
theorem dL_isLawful_208 : decode cL_isLawful 208 = .ok (.irem, 1) := by decide +kernel
theorem dL_isLawful_209 : decode cL_isLawful 209 = .ok (.invokestatic 152, 3) := by decide +kernel
theorem dL_isLawful_212 : decode cL_isLawful 212 = .ok (.ifCond .eq 17, 3) := by decide +kernel
theorem dL_isLawful_215 : decode cL_isLawful 215 = .ok (.aload_n 0, 1) := by decide +kernel
theorem dL_isLawful_216 : decode cL_isLawful 216 = .ok (.aload_n 1, 1) := by decide +kernel
theorem dL_isLawful_217 : decode cL_isLawful 217 = .ok (.iload 5, 2) := by decide +kernel
theorem dL_isLawful_219 : decode cL_isLawful 219 = .ok (.invokestatic 156, 3) := by decide +kernel
theorem dL_isLawful_222 : decode cL_isLawful 222 = .ok (.ifCond .eq 7, 3) := by decide +kernel
theorem dL_isLawful_225 : decode cL_isLawful 225 = .ok (.iconst 1, 1) := by decide +kernel
theorem dL_isLawful_226 : decode cL_isLawful 226 = .ok (.goto 4, 3) := by decide +kernel
theorem dL_isLawful_229 : decode cL_isLawful 229 = .ok (.iconst 0, 1) := by decide +kernel
theorem dL_isLawful_230 : decode cL_isLawful 230 = .ok (.istore 6, 2) := by decide +kernel
theorem dL_isLawful_232 : decode cL_isLawful 232 = .ok (.aload_n 0, 1) := by decide +kernel
theorem dL_isLawful_233 : decode cL_isLawful 233 = .ok (.iload 7, 2) := by decide +kernel
theorem dL_isLawful_235 : decode cL_isLawful 235 = .ok (.bipush 8, 2) := by decide +kernel
theorem dL_isLawful_237 : decode cL_isLawful 237 = .ok (.idiv, 1) := by decide +kernel
theorem dL_isLawful_238 : decode cL_isLawful 238 = .ok (.iload 7, 2) := by decide +kernel
theorem dL_isLawful_240 : decode cL_isLawful 240 = .ok (.bipush 8, 2) := by decide +kernel
theorem dL_isLawful_242 : decode cL_isLawful 242 = .ok (.irem, 1) := by decide +kernel
theorem dL_isLawful_243 : decode cL_isLawful 243 = .ok (.bipush 7, 2) := by decide +kernel
theorem dL_isLawful_245 : decode cL_isLawful 245 = .ok (.invokestatic 116, 3) := by decide +kernel
theorem dL_isLawful_248 : decode cL_isLawful 248 = .ok (.istore 8, 2) := by decide +kernel
theorem dL_isLawful_250 : decode cL_isLawful 250 = .ok (.iconst 0, 1) := by decide +kernel
theorem dL_isLawful_251 : decode cL_isLawful 251 = .ok (.istore 9, 2) := by decide +kernel
theorem dL_isLawful_253 : decode cL_isLawful 253 = .ok (.iload 9, 2) := by decide +kernel
theorem dL_isLawful_255 : decode cL_isLawful 255 = .ok (.aload_n 1, 1) := by decide +kernel
theorem dL_isLawful_256 : decode cL_isLawful 256 = .ok (.iconst 0, 1) := by decide +kernel
theorem dL_isLawful_257 : decode cL_isLawful 257 = .ok (.iaload, 1) := by decide +kernel
theorem dL_isLawful_258 : decode cL_isLawful 258 = .ok (.if_icmp .ge 79, 3) := by decide +kernel
theorem dL_isLawful_261 : decode cL_isLawful 261 = .ok (.iload 6, 2) := by decide +kernel
theorem dL_isLawful_263 : decode cL_isLawful 263 = .ok (.ifCond .eq 74, 3) := by decide +kernel
theorem dL_isLawful_266 : decode cL_isLawful 266 = .ok (.aload_n 0, 1) := by decide +kernel
theorem dL_isLawful_267 : decode cL_isLawful 267 = .ok (.iload 7, 2) := by decide +kernel
theorem dL_isLawful_269 : decode cL_isLawful 269 = .ok (.bipush 8, 2) := by decide +kernel
theorem dL_isLawful_271 : decode cL_isLawful 271 = .ok (.idiv, 1) := by decide +kernel
theorem dL_isLawful_272 : decode cL_isLawful 272 = .ok (.iload 7, 2) := by decide +kernel
theorem dL_isLawful_274 : decode cL_isLawful 274 = .ok (.bipush 8, 2) := by decide +kernel
theorem dL_isLawful_276 : decode cL_isLawful 276 = .ok (.irem, 1) := by decide +kernel
theorem dL_isLawful_277 : decode cL_isLawful 277 = .ok (.iload 9, 2) := by decide +kernel
theorem dL_isLawful_279 : decode cL_isLawful 279 = .ok (.aload_n 0, 1) := by decide +kernel
theorem dL_isLawful_280 : decode cL_isLawful 280 = .ok (.invokevirtual 105, 3) := by decide +kernel
theorem dL_isLawful_283 : decode cL_isLawful 283 = .ok (.invokestatic 135, 3) := by decide +kernel
theorem dL_isLawful_286 : decode cL_isLawful 286 = .ok (.istore 10, 2) := by decide +kernel
theorem dL_isLawful_288 : decode cL_isLawful 288 = .ok (.iload 8, 2) := by decide +kernel
theorem dL_isLawful_290 : decode cL_isLawful 290 = .ok (.iload 9, 2) := by decide +kernel
theorem dL_isLawful_292 : decode cL_isLawful 292 = .ok (.ishr, 1) := by decide +kernel
theorem dL_isLawful_293 : decode cL_isLawful 293 = .ok (.iconst 1, 1) := by decide +kernel
theorem dL_isLawful_294 : decode cL_isLawful 294 = .ok (.iand, 1) := by decide +kernel
theorem dL_isLawful_295 : decode cL_isLawful 295 = .ok (.ifCond .ne 17, 3) := by decide +kernel
theorem dL_isLawful_298 : decode cL_isLawful 298 = .ok (.iload 10, 2) := by decide +kernel
theorem dL_isLawful_300 : decode cL_isLawful 300 = .ok (.iconst 2, 1) := by decide +kernel
theorem dL_isLawful_301 : decode cL_isLawful 301 = .ok (.if_icmp .eq 7, 3) := by decide +kernel
theorem dL_isLawful_304 : decode cL_isLawful 304 = .ok (.iconst 1, 1) := by decide +kernel
theorem dL_isLawful_305 : decode cL_isLawful 305 = .ok (.goto 24, 3) := by decide +kernel
theorem dL_isLawful_308 : decode cL_isLawful 308 = .ok (.iconst 0, 1) := by decide +kernel
theorem dL_isLawful_309 : decode cL_isLawful 309 = .ok (.goto 20, 3) := by decide +kernel
theorem dL_isLawful_312 : decode cL_isLawful 312 = .ok (.iload 10, 2) := by decide +kernel
theorem dL_isLawful_314 : decode cL_isLawful 314 = .ok (.iconst 1, 1) := by decide +kernel
theorem dL_isLawful_315 : decode cL_isLawful 315 = .ok (.if_icmp .eq 9, 3) := by decide +kernel
theorem dL_isLawful_318 : decode cL_isLawful 318 = .ok (.iload 10, 2) := by decide +kernel
theorem dL_isLawful_320 : decode cL_isLawful 320 = .ok (.iconst 2, 1) := by decide +kernel
theorem dL_isLawful_321 : decode cL_isLawful 321 = .ok (.if_icmp .ne 7, 3) := by decide +kernel
theorem dL_isLawful_324 : decode cL_isLawful 324 = .ok (.iconst 1, 1) := by decide +kernel
theorem dL_isLawful_325 : decode cL_isLawful 325 = .ok (.goto 4, 3) := by decide +kernel
theorem dL_isLawful_328 : decode cL_isLawful 328 = .ok (.iconst 0, 1) := by decide +kernel
theorem dL_isLawful_329 : decode cL_isLawful 329 = .ok (.istore 6, 2) := by decide +kernel
theorem dL_isLawful_331 : decode cL_isLawful 331 = .ok (.iinc 9 1, 3) := by decide +kernel
theorem dL_isLawful_334 : decode cL_isLawful 334 = .ok (.goto (-81), 3) := by decide +kernel
theorem dL_isLawful_337 : decode cL_isLawful 337 = .ok (.iload 6, 2) := by decide +kernel
theorem dL_isLawful_339 : decode cL_isLawful 339 = .ok (.ireturn, 1) := by decide +kernel
set_option maxRecDepth 20000 in
theorem ggL_tells_L_offence : GoodIn wsL_tells wsL_offence := goodIn_ca (goodIn_ca (goodIn_r _ [5, 6, 7, 8, 9, 10, 11, 12, 13, 14, 15, 16, 17, 18, 19, 20, 21, 22, 23, 24, 25, 26, 27, 28, 29, 30, 31, 32, 33, 34, 118, 119, 120, 121, 122, 123, 124, 125, 126, 127, 128, 129, 130, 131, 132, 133, 134] (by decide +kernel) (by decide +kernel)) (goodIn_sub (fun _ h => List.mem_cons_of_mem _ (List.mem_append_left _ (List.mem_append_left _ (List.mem_append_right _ h)))) (by decide +kernel))) (goodIn_sub (fun _ h => List.mem_cons_of_mem _ (List.mem_append_left _ (List.mem_append_right _ h))) (by decide +kernel))
set_option maxRecDepth 20000 in
theorem gL_tells_L_offence : GoodIn wsL_tells (va_wsS RL 160 yL_offence wsL_offence) := goodIn_app (goodIn_of _ (by decide +kernel)) ggL_tells_L_offence
set_option maxRecDepth 20000 in
theorem ggL_tells_L_isRefused : GoodIn wsL_tells wsL_isRefused := goodIn_r _ [37, 38, 7, 8] (by decide +kernel) (by decide +kernel)
set_option maxRecDepth 20000 in
theorem gL_tells_L_isRefused : GoodIn wsL_tells (va_wsS RL 162 yL_isRefused wsL_isRefused) := goodIn_app (goodIn_of _ (by decide +kernel)) ggL_tells_L_isRefused
set_option maxRecDepth 20000 in
theorem ggL_tells_X4_day : GoodIn wsL_tells wsX4_day := goodIn_r _ [42, 43, 118, 119, 120, 121, 122, 123, 124, 125, 126, 127, 128, 129, 130] (by decide +kernel) (by decide +kernel)
set_option maxRecDepth 20000 in
theorem gL_tells_X4_day : GoodIn wsL_tells (wsV RL 105 RX4 yX4_day wsX4_day) := goodIn_app (goodIn_of _ (by decide +kernel)) ggL_tells_X4_day
set_option maxRecDepth 20000 in
theorem ggL_tells_L_file : GoodIn wsL_tells wsL_file := goodIn_ca (goodIn_ca (goodIn_r _ [46, 6, 7, 8, 47, 48, 49, 12, 50, 14, 15, 16, 17, 43, 51, 52, 53, 54, 55, 56, 57, 58, 59, 60, 23, 24, 25, 61, 62, 63, 64, 30, 31, 65, 66, 67, 68, 69, 70, 71, 72, 73, 74, 75, 76, 77, 78, 79, 80, 81, 82, 118, 119, 120, 121, 122, 123, 124, 125, 126, 127, 128, 129, 130, 135, 136, 137, 138, 139, 140, 141, 142, 143, 144, 145, 146, 147, 148, 149, 150, 151, 152, 153] (by decide +kernel) (by decide +kernel)) (goodIn_sub (fun _ h => List.mem_cons_of_mem _ (List.mem_append_left _ (List.mem_append_left _ (List.mem_append_right _ h)))) (by decide +kernel))) (goodIn_sub (fun _ h => List.mem_cons_of_mem _ (List.mem_append_left _ (List.mem_append_right _ h))) (by decide +kernel))
set_option maxRecDepth 20000 in
theorem gL_tells_L_file : GoodIn wsL_tells (va_wsS RL 166 yL_file wsL_file) := goodIn_app (goodIn_of _ (by decide +kernel)) ggL_tells_L_file
set_option maxRecDepth 20000 in
theorem ggL_tells_L_item : GoodIn wsL_tells wsL_item := goodIn_ca (goodIn_ca (goodIn_ca (goodIn_r _ [85, 86, 38, 7, 8, 87, 88, 89, 12, 90, 91, 92, 14, 15, 16, 17, 93, 94, 95, 96, 97, 43, 98, 99, 100, 101, 52, 23, 24, 25, 102, 103, 104, 55, 105, 69, 106, 107, 108, 109, 30, 31, 110, 111, 112, 113, 114, 115, 116, 117, 118, 119, 120, 121, 122, 123, 124, 125, 126, 127, 128, 129, 130, 154, 155, 156, 157, 158, 159, 160, 161, 162, 163, 135, 136, 137, 138, 139] (by decide +kernel) (by decide +kernel)) (goodIn_sub (fun _ h => List.mem_cons_of_mem _ (List.mem_append_right _ h)) (by decide +kernel))) (goodIn_sub (fun _ h => List.mem_cons_of_mem _ (List.mem_append_left _ (List.mem_append_left _ (List.mem_append_right _ h)))) (by decide +kernel))) (goodIn_sub (fun _ h => List.mem_cons_of_mem _ (List.mem_append_left _ (List.mem_append_right _ h))) (by decide +kernel))
set_option maxRecDepth 20000 in
theorem gL_tells_L_item : GoodIn wsL_tells (va_wsS RL 169 yL_item wsL_item) := goodIn_app (goodIn_of _ (by decide +kernel)) ggL_tells_L_item
