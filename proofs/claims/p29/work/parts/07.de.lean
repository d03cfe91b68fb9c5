theorem dL_tells_0 : decode cL_tells 0 = .ok (.iload 4, 2) := by decide +kernel
theorem dL_tells_2 : decode cL_tells 2 = .ok (.ifCond .ne 86, 3) := by decide +kernel
theorem dL_tells_5 : decode cL_tells 5 = .ok (.aload_n 0, 1) := by decide +kernel
theorem dL_tells_6 : decode cL_tells 6 = .ok (.iload_n 3, 1) := by decide +kernel
theorem dL_tells_7 : decode cL_tells 7 = .ok (.iconst 3, 1) := by decide +kernel
theorem dL_tells_8 : decode cL_tells 8 = .ok (.irem, 1) := by decide +kernel
theorem dL_tells_9 : decode cL_tells 9 = .ok (.ifCond .ne 13, 3) := by decide +kernel
theorem dL_tells_12 : decode cL_tells 12 = .ok (.iload_n 3, 1) := by decide +kernel
theorem dL_tells_13 : decode cL_tells 13 = .ok (.iconst 3, 1) := by decide +kernel
theorem dL_tells_14 : decode cL_tells 14 = .ok (.idiv, 1) := by decide +kernel
theorem dL_tells_15 : decode cL_tells 15 = .ok (.sipush 1025, 3) := by decide +kernel
theorem dL_tells_18 : decode cL_tells 18 = .ok (.irem, 1) := by decide +kernel
theorem dL_tells_19 : decode cL_tells 19 = .ok (.goto 11, 3) := by decide +kernel
theorem dL_tells_22 : decode cL_tells 22 = .ok (.iconst 1, 1) := by decide +kernel
theorem dL_tells_23 : decode cL_tells 23 = .ok (.iload_n 3, 1) := by decide +kernel
theorem dL_tells_24 : decode cL_tells 24 = .ok (.iconst 3, 1) := by decide +kernel
theorem dL_tells_25 : decode cL_tells 25 = .ok (.idiv, 1) := by decide +kernel
theorem dL_tells_26 : decode cL_tells 26 = .ok (.bipush 15, 2) := by decide +kernel
theorem dL_tells_28 : decode cL_tells 28 = .ok (.irem, 1) := by decide +kernel
theorem dL_tells_29 : decode cL_tells 29 = .ok (.iadd, 1) := by decide +kernel
theorem dL_tells_30 : decode cL_tells 30 = .ok (.iload_n 3, 1) := by decide +kernel
theorem dL_tells_31 : decode cL_tells 31 = .ok (.bipush 50, 2) := by decide +kernel
theorem dL_tells_33 : decode cL_tells 33 = .ok (.idiv, 1) := by decide +kernel
theorem dL_tells_34 : decode cL_tells 34 = .ok (.bipush 11, 2) := by decide +kernel
theorem dL_tells_36 : decode cL_tells 36 = .ok (.irem, 1) := by decide +kernel
theorem dL_tells_37 : decode cL_tells 37 = .ok (.iload_n 3, 1) := by decide +kernel
theorem dL_tells_38 : decode cL_tells 38 = .ok (.sipush 600, 3) := by decide +kernel
theorem dL_tells_41 : decode cL_tells 41 = .ok (.idiv, 1) := by decide +kernel
theorem dL_tells_42 : decode cL_tells 42 = .ok (.iconst 4, 1) := by decide +kernel
theorem dL_tells_43 : decode cL_tells 43 = .ok (.irem, 1) := by decide +kernel
theorem dL_tells_44 : decode cL_tells 44 = .ok (.ifCond .ne 14, 3) := by decide +kernel
theorem dL_tells_47 : decode cL_tells 47 = .ok (.iload_n 3, 1) := by decide +kernel
theorem dL_tells_48 : decode cL_tells 48 = .ok (.sipush 2400, 3) := by decide +kernel
theorem dL_tells_51 : decode cL_tells 51 = .ok (.idiv, 1) := by decide +kernel
theorem dL_tells_52 : decode cL_tells 52 = .ok (.bipush 40, 2) := by decide +kernel
theorem dL_tells_54 : decode cL_tells 54 = .ok (.irem, 1) := by decide +kernel
theorem dL_tells_55 : decode cL_tells 55 = .ok (.goto 6, 3) := by decide +kernel
theorem dL_tells_58 : decode cL_tells 58 = .ok (.sipush 700, 3) := by decide +kernel
theorem dL_tells_61 : decode cL_tells 61 = .ok (.invokestatic 160, 3) := by decide +kernel
theorem dL_tells_64 : decode cL_tells 64 = .ok (.istore 5, 2) := by decide +kernel
theorem dL_tells_66 : decode cL_tells 66 = .ok (.aload_n 1, 1) := by decide +kernel
theorem dL_tells_67 : decode cL_tells 67 = .ok (.iconst 0, 1) := by decide +kernel
theorem dL_tells_68 : decode cL_tells 68 = .ok (.dup2, 1) := by decide +kernel
theorem dL_tells_69 : decode cL_tells 69 = .ok (.iaload, 1) := by decide +kernel
theorem dL_tells_70 : decode cL_tells 70 = .ok (.iload 5, 2) := by decide +kernel
theorem dL_tells_72 : decode cL_tells 72 = .ok (.invokestatic 162, 3) := by decide +kernel
theorem dL_tells_75 : decode cL_tells 75 = .ok (.ifCond .eq 7, 3) := by decide +kernel
theorem dL_tells_78 : decode cL_tells 78 = .ok (.iconst 0, 1) := by decide +kernel
theorem dL_tells_79 : decode cL_tells 79 = .ok (.goto 4, 3) := by decide +kernel
theorem dL_tells_82 : decode cL_tells 82 = .ok (.iconst 1, 1) := by decide +kernel
theorem dL_tells_83 : decode cL_tells 83 = .ok (.iadd, 1) := by decide +kernel
theorem dL_tells_84 : decode cL_tells 84 = .ok (.iastore, 1) := by decide +kernel
theorem dL_tells_85 : decode cL_tells 85 = .ok (.iload 5, 2) := by decide +kernel
theorem dL_tells_87 : decode cL_tells 87 = .ok (.ireturn, 1) := by decide +kernel
theorem dL_tells_88 : decode cL_tells 88 = .ok (.iload 4, 2) := by decide +kernel
theorem dL_tells_90 : decode cL_tells 90 = .ok (.iconst 1, 1) := by decide +kernel
theorem dL_tells_91 : decode cL_tells 91 = .ok (.if_icmp .ne 62, 3) := by decide +kernel
theorem dL_tells_94 : decode cL_tells 94 = .ok (.iload_n 3, 1) := by decide +kernel
theorem dL_tells_95 : decode cL_tells 95 = .ok (.bipush 100, 2) := by decide +kernel
theorem dL_tells_97 : decode cL_tells 97 = .ok (.idiv, 1) := by decide +kernel
theorem dL_tells_98 : decode cL_tells 98 = .ok (.bipush 17, 2) := by decide +kernel
theorem dL_tells_100 : decode cL_tells 100 = .ok (.irem, 1) := by decide +kernel
theorem dL_tells_101 : decode cL_tells 101 = .ok (.istore 6, 2) := by decide +kernel
theorem dL_tells_103 : decode cL_tells 103 = .ok (.aload_n 0, 1) := by decide +kernel
theorem dL_tells_104 : decode cL_tells 104 = .ok (.iload_n 3, 1) := by decide +kernel
theorem dL_tells_105 : decode cL_tells 105 = .ok (.aload_n 0, 1) := by decide +kernel
theorem dL_tells_106 : decode cL_tells 106 = .ok (.invokevirtual 105, 3) := by decide +kernel
theorem dL_tells_109 : decode cL_tells 109 = .ok (.iconst 2, 1) := by decide +kernel
theorem dL_tells_110 : decode cL_tells 110 = .ok (.iadd, 1) := by decide +kernel
theorem dL_tells_111 : decode cL_tells 111 = .ok (.irem, 1) := by decide +kernel
theorem dL_tells_112 : decode cL_tells 112 = .ok (.iload 6, 2) := by decide +kernel
theorem dL_tells_114 : decode cL_tells 114 = .ok (.iload_n 3, 1) := by decide +kernel
theorem dL_tells_115 : decode cL_tells 115 = .ok (.sipush 1700, 3) := by decide +kernel
theorem dL_tells_118 : decode cL_tells 118 = .ok (.idiv, 1) := by decide +kernel
theorem dL_tells_119 : decode cL_tells 119 = .ok (.bipush 13, 2) := by decide +kernel
theorem dL_tells_121 : decode cL_tells 121 = .ok (.irem, 1) := by decide +kernel
theorem dL_tells_122 : decode cL_tells 122 = .ok (.iconst 5, 1) := by decide +kernel
theorem dL_tells_123 : decode cL_tells 123 = .ok (.isub, 1) := by decide +kernel
theorem dL_tells_124 : decode cL_tells 124 = .ok (.invokestatic 166, 3) := by decide +kernel
theorem dL_tells_127 : decode cL_tells 127 = .ok (.istore 5, 2) := by decide +kernel
theorem dL_tells_129 : decode cL_tells 129 = .ok (.iload 5, 2) := by decide +kernel
theorem dL_tells_131 : decode cL_tells 131 = .ok (.invokestatic 162, 3) := by decide +kernel
theorem dL_tells_134 : decode cL_tells 134 = .ok (.ifCond .ne 16, 3) := by decide +kernel
theorem dL_tells_137 : decode cL_tells 137 = .ok (.aload_n 2, 1) := by decide +kernel
theorem dL_tells_138 : decode cL_tells 138 = .ok (.iload 5, 2) := by decide +kernel
theorem dL_tells_140 : decode cL_tells 140 = .ok (.iload 6, 2) := by decide +kernel
theorem dL_tells_142 : decode cL_tells 142 = .ok (.iastore, 1) := by decide +kernel
theorem dL_tells_143 : decode cL_tells 143 = .ok (.aload_n 1, 1) := by decide +kernel
theorem dL_tells_144 : decode cL_tells 144 = .ok (.iconst 1, 1) := by decide +kernel
theorem dL_tells_145 : decode cL_tells 145 = .ok (.dup2, 1) := by decide +kernel
theorem dL_tells_146 : decode cL_tells 146 = .ok (.iaload, 1) := by decide +kernel
theorem dL_tells_147 : decode cL_tells 147 = .ok (.iconst 1, 1) := by decide +kernel
theorem dL_tells_148 : decode cL_tells 148 = .ok (.iadd, 1) := by decide +kernel
theorem dL_tells_149 : decode cL_tells 149 = .ok (.iastore, 1) := by decide +kernel
theorem dL_tells_150 : decode cL_tells 150 = .ok (.iload 5, 2) := by decide +kernel
theorem dL_tells_152 : decode cL_tells 152 = .ok (.ireturn, 1) := by decide +kernel
theorem dL_tells_153 : decode cL_tells 153 = .ok (.iload_n 3, 1) := by decide +kernel
theorem dL_tells_154 : decode cL_tells 154 = .ok (.aload_n 1, 1) := by decide +kernel
theorem dL_tells_155 : decode cL_tells 155 = .ok (.iconst 1, 1) := by decide +kernel
theorem dL_tells_156 : decode cL_tells 156 = .ok (.iaload, 1) := by decide +kernel
theorem dL_tells_157 : decode cL_tells 157 = .ok (.iconst 1, 1) := by decide +kernel
theorem dL_tells_158 : decode cL_tells 158 = .ok (.iadd, 1) := by decide +kernel
theorem dL_tells_159 : decode cL_tells 159 = .ok (.irem, 1) := by decide +kernel
theorem dL_tells_160 : decode cL_tells 160 = .ok (.istore 6, 2) := by decide +kernel
theorem dL_tells_162 : decode cL_tells 162 = .ok (.iload_n 3, 1) := by decide +kernel
theorem dL_tells_163 : decode cL_tells 163 = .ok (.bipush 30, 2) := by decide +kernel
theorem dL_tells_165 : decode cL_tells 165 = .ok (.idiv, 1) := by decide +kernel
theorem dL_tells_166 : decode cL_tells 166 = .ok (.iconst 4, 1) := by decide +kernel
theorem dL_tells_167 : decode cL_tells 167 = .ok (.irem, 1) := by decide +kernel
theorem dL_tells_168 : decode cL_tells 168 = .ok (.ifCond .ne 13, 3) := by decide +kernel
theorem dL_tells_171 : decode cL_tells 171 = .ok (.iload_n 3, 1) := by decide +kernel
theorem dL_tells_172 : decode cL_tells 172 = .ok (.bipush 120, 2) := by decide +kernel
theorem dL_tells_174 : decode cL_tells 174 = .ok (.idiv, 1) := by decide +kernel
theorem dL_tells_175 : decode cL_tells 175 = .ok (.bipush 17, 2) := by decide +kernel
theorem dL_tells_177 : decode cL_tells 177 = .ok (.irem, 1) := by decide +kernel
theorem dL_tells_178 : decode cL_tells 178 = .ok (.goto 10, 3) := by decide +kernel
theorem dL_tells_181 : decode cL_tells 181 = .ok (.aload_n 2, 1) := by decide +kernel
theorem dL_tells_182 : decode cL_tells 182 = .ok (.iload 6, 2) := by decide +kernel
theorem dL_tells_184 : decode cL_tells 184 = .ok (.bipush 6, 2) := by decide +kernel
theorem dL_tells_186 : decode cL_tells 186 = .ok (.irem, 1) := by decide +kernel
theorem dL_tells_187 : decode cL_tells 187 = .ok (.iaload, 1) := by decide +kernel
theorem dL_tells_188 : decode cL_tells 188 = .ok (.istore 7, 2) := by decide +kernel
theorem dL_tells_190 : decode cL_tells 190 = .ok (.aload_n 0, 1) := by decide +kernel
theorem dL_tells_191 : decode cL_tells 191 = .ok (.iload 6, 2) := by decide +kernel
theorem dL_tells_193 : decode cL_tells 193 = .ok (.iload_n 3, 1) := by decide +kernel
theorem dL_tells_194 : decode cL_tells 194 = .ok (.bipush 7, 2) := by decide +kernel
theorem dL_tells_196 : decode cL_tells 196 = .ok (.idiv, 1) := by decide +kernel
theorem dL_tells_197 : decode cL_tells 197 = .ok (.iconst 5, 1) := by decide +kernel
theorem dL_tells_198 : decode cL_tells 198 = .ok (.irem, 1) := by decide +kernel
theorem dL_tells_199 : decode cL_tells 199 = .ok (.iload_n 3, 1) := by decide +kernel
theorem dL_tells_200 : decode cL_tells 200 = .ok (.sipush 600, 3) := by decide +kernel
theorem dL_tells_203 : decode cL_tells 203 = .ok (.idiv, 1) := by decide +kernel
theorem dL_tells_204 : decode cL_tells 204 = .ok (.bipush 15, 2) := by decide +kernel
theorem dL_tells_206 : decode cL_tells 206 = .ok (.irem, 1) := by decide +kernel
theorem dL_tells_207 : decode cL_tells 207 = .ok (.iconst 4, 1) := by decide +kernel
theorem dL_tells_208 : decode cL_tells 208 = .ok (.isub, 1) := by decide +kernel
theorem dL_tells_209 : decode cL_tells 209 = .ok (.iload 7, 2) := by decide +kernel
theorem dL_tells_211 : decode cL_tells 211 = .ok (.iload_n 3, 1) := by decide +kernel
theorem dL_tells_212 : decode cL_tells 212 = .ok (.sipush 9000, 3) := by decide +kernel
theorem dL_tells_215 : decode cL_tells 215 = .ok (.idiv, 1) := by decide +kernel
theorem dL_tells_216 : decode cL_tells 216 = .ok (.bipush 7, 2) := by decide +kernel
theorem dL_tells_218 : decode cL_tells 218 = .ok (.irem, 1) := by decide +kernel
theorem dL_tells_219 : decode cL_tells 219 = .ok (.iconst 3, 1) := by decide +kernel
theorem dL_tells_220 : decode cL_tells 220 = .ok (.idiv, 1) := by decide +kernel
theorem dL_tells_221 : decode cL_tells 221 = .ok (.iload_n 3, 1) := by decide +kernel
theorem dL_tells_222 : decode cL_tells 222 = .ok (.ldc 168, 2) := by decide +kernel
theorem dL_tells_224 : decode cL_tells 224 = .ok (.idiv, 1) := by decide +kernel
theorem dL_tells_225 : decode cL_tells 225 = .ok (.iconst 2, 1) := by decide +kernel
theorem dL_tells_226 : decode cL_tells 226 = .ok (.irem, 1) := by decide +kernel
theorem dL_tells_227 : decode cL_tells 227 = .ok (.ifCond .ne 7, 3) := by decide +kernel
theorem dL_tells_230 : decode cL_tells 230 = .ok (.iconst 1, 1) := by decide +kernel
theorem dL_tells_231 : decode cL_tells 231 = .ok (.goto 4, 3) := by decide +kernel
theorem dL_tells_234 : decode cL_tells 234 = .ok (.iconst 0, 1) := by decide +kernel
theorem dL_tells_235 : decode cL_tells 235 = .ok (.invokestatic 169, 3) := by decide +kernel
theorem dL_tells_238 : decode cL_tells 238 = .ok (.istore 5, 2) := by decide +kernel
theorem dL_tells_240 : decode cL_tells 240 = .ok (.aload_n 1, 1) := by decide +kernel
theorem dL_tells_241 : decode cL_tells 241 = .ok (.iconst 2, 1) := by decide +kernel
theorem dL_tells_242 : decode cL_tells 242 = .ok (.dup2, 1) := by decide +kernel
theorem dL_tells_243 : decode cL_tells 243 = .ok (.iaload, 1) := by decide +kernel
theorem dL_tells_244 : decode cL_tells 244 = .ok (.iload 5, 2) := by decide +kernel
theorem dL_tells_246 : decode cL_tells 246 = .ok (.invokestatic 162, 3) := by decide +kernel
theorem dL_tells_249 : decode cL_tells 249 = .ok (.ifCond .eq 7, 3) := by decide +kernel
theorem dL_tells_252 : decode cL_tells 252 = .ok (.iconst 0, 1) := by decide +kernel
theorem dL_tells_253 : decode cL_tells 253 = .ok (.goto 4, 3) := by decide +kernel
theorem dL_tells_256 : decode cL_tells 256 = .ok (.iconst 1, 1) := by decide +kernel
theorem dL_tells_257 : decode cL_tells 257 = .ok (.iadd, 1) := by decide +kernel
theorem dL_tells_258 : decode cL_tells 258 = .ok (.iastore, 1) := by decide +kernel
theorem dL_tells_259 : decode cL_tells 259 = .ok (.iload 5, 2) := by decide +kernel
theorem dL_tells_261 : decode cL_tells 261 = .ok (.ireturn, 1) := by decide +kernel
set_option maxRecDepth 20000 in
theorem ggL_decides_X4_day : GoodIn wsL_decides wsX4_day := goodIn_r _ [5, 6, 270, 271, 272, 273, 274, 275, 276, 277, 278, 279, 280, 281, 282] (by decide +kernel) (by decide +kernel)
set_option maxRecDepth 20000 in
theorem gL_decides_X4_day : GoodIn wsL_decides (wsV RL 105 RX4 yX4_day wsX4_day) := goodIn_app (goodIn_of _ (by decide +kernel)) ggL_decides_X4_day
set_option maxRecDepth 20000 in
theorem ggL_decides_L_best_c : GoodIn wsL_decides ((.codeWith yL_best cL_best 5 (some .int) [(0, 7, 8, 23), (0, 7, 13, 13)] :: [] : List Cond)) := goodIn_r (big := wsL_decides) ((.codeWith yL_best cL_best 5 (some .int) [(0, 7, 8, 23), (0, 7, 13, 13)] :: [] : List Cond)) [10] (by decide +kernel) (by decide +kernel)
set_option maxRecDepth 20000 in
theorem ggL_decides_L_best_r1 : GoodIn wsL_decides (wsL_best_r1) := goodIn_r (big := wsL_decides) (wsL_best_r1) [11, 12, 13, 14, 15, 16, 4, 17, 18, 19, 20, 21, 22, 23, 24, 25, 26, 27, 28, 29, 30, 31, 32, 33] (by decide +kernel) (by decide +kernel)
set_option maxRecDepth 20000 in
theorem ggL_decides_L_best_r2 : GoodIn wsL_decides (wsL_best_r2) := goodIn_r (big := wsL_decides) (wsL_best_r2) [34, 35, 36, 37, 38, 39, 40, 6, 41, 42, 43, 44, 45, 46, 47, 48, 49, 50, 51, 52, 53, 54, 55, 56] (by decide +kernel) (by decide +kernel)
set_option maxRecDepth 20000 in
theorem ggL_decides_L_best_r3 : GoodIn wsL_decides (wsL_best_r3) := goodIn_r (big := wsL_decides) (wsL_best_r3) [57, 58, 59, 60, 61, 62, 63, 64, 65, 66, 67, 68, 69, 70, 71, 72, 73, 74, 75, 76, 77, 78, 79, 80] (by decide +kernel) (by decide +kernel)
set_option maxRecDepth 20000 in
theorem ggL_decides_L_best_r4 : GoodIn wsL_decides (wsL_best_r4) := goodIn_r (big := wsL_decides) (wsL_best_r4) [81, 82, 83, 84, 85, 86, 87, 88, 89, 90, 91, 92, 93, 94, 95, 96, 97, 98, 99, 100, 101, 102, 103, 104] (by decide +kernel) (by decide +kernel)
set_option maxRecDepth 20000 in
theorem ggL_decides_L_best_r5 : GoodIn wsL_decides (wsL_best_r5) := goodIn_r (big := wsL_decides) (wsL_best_r5) [105, 106, 107, 108, 109, 110, 111, 112, 113, 114, 115, 116, 117, 118, 119, 120, 121, 122, 123, 124, 125, 126, 127, 128] (by decide +kernel) (by decide +kernel)
set_option maxRecDepth 20000 in
theorem ggL_decides_L_best_r6 : GoodIn wsL_decides (wsL_best_r6) := goodIn_r (big := wsL_decides) (wsL_best_r6) [129, 130, 131, 132, 133, 134, 135, 136, 137, 138, 139, 140, 141, 142, 143, 144, 145, 146, 147, 148, 149, 150, 151] (by decide +kernel) (by decide +kernel)
set_option maxRecDepth 20000 in
theorem ggL_decides_L_best_x0 : GoodIn wsL_decides (wsX40) := goodIn_r (big := wsL_decides) (wsX40) [270, 271, 272, 273, 274, 275, 276, 277, 278, 279, 280, 281, 282] (by decide +kernel) (by decide +kernel)
set_option maxRecDepth 20000 in
theorem ggL_decides_L_best_x1 : GoodIn wsL_decides (wsX10) := goodIn_r (big := wsL_decides) (wsX10) [283, 284, 285, 286, 287] (by decide +kernel) (by decide +kernel)
set_option maxRecDepth 20000 in
theorem ggL_decides_L_best_x2 : GoodIn wsL_decides (wsX00) := goodIn_r (big := wsL_decides) (wsX00) [288, 289, 290, 291, 292, 293, 294, 295, 296, 297, 298, 299, 300, 301] (by decide +kernel) (by decide +kernel)
set_option maxRecDepth 20000 in
theorem ggL_decides_L_best_x3 : GoodIn wsL_decides (wsX30) := goodIn_r (big := wsL_decides) (wsX30) [302, 303, 304, 305] (by decide +kernel) (by decide +kernel)
set_option maxRecDepth 20000 in
theorem ggL_decides_L_best_x4 : GoodIn wsL_decides (wsX20) := goodIn_r (big := wsL_decides) (wsX20) [306, 307, 308, 309, 310, 311, 312, 313, 314, 315] (by decide +kernel) (by decide +kernel)
theorem ggL_decides_L_best : GoodIn wsL_decides wsL_best := (goodIn_ca (goodIn_ca (goodIn_ca (goodIn_ca (goodIn_ca (goodIn_ca (goodIn_ca (show GoodIn wsL_decides (.codeWith yL_best cL_best 5 (some .int) [(0, 7, 8, 23), (0, 7, 13, 13)] :: (wsL_best_r1 ++ (wsL_best_r2 ++ (wsL_best_r3 ++ (wsL_best_r4 ++ (wsL_best_r5 ++ wsL_best_r6)))))) from goodIn_app (a := .codeWith yL_best cL_best 5 (some .int) [(0, 7, 8, 23), (0, 7, 13, 13)] :: []) (b := wsL_best_r1 ++ (wsL_best_r2 ++ (wsL_best_r3 ++ (wsL_best_r4 ++ (wsL_best_r5 ++ wsL_best_r6))))) ggL_decides_L_best_c (goodIn_app ggL_decides_L_best_r1 (goodIn_app ggL_decides_L_best_r2 (goodIn_app ggL_decides_L_best_r3 (goodIn_app ggL_decides_L_best_r4 (goodIn_app ggL_decides_L_best_r5 (ggL_decides_L_best_r6))))))) ggL_decides_L_best_x0) ggL_decides_L_best_x1) ggL_decides_L_best_x2) ggL_decides_L_best_x3) ggL_decides_L_best_x4) (goodIn_sub (fun _ h => List.mem_cons_of_mem _ (List.mem_append_left _ (List.mem_append_left _ (List.mem_append_right _ h)))) (by decide +kernel))) (goodIn_sub (fun _ h => List.mem_cons_of_mem _ (List.mem_append_left _ (List.mem_append_right _ h))) (by decide +kernel)))
set_option maxRecDepth 20000 in
theorem gL_decides_L_best : GoodIn wsL_decides (va_wsS RL 140 yL_best wsL_best) := goodIn_app (goodIn_of _ (by decide +kernel)) ggL_decides_L_best
set_option maxRecDepth 20000 in
theorem ggL_decides_L_isRefused : GoodIn wsL_decides wsL_isRefused := goodIn_r _ [154, 12, 13, 155] (by decide +kernel) (by decide +kernel)
set_option maxRecDepth 20000 in
theorem gL_decides_L_isRefused : GoodIn wsL_decides (va_wsS RL 162 yL_isRefused wsL_isRefused) := goodIn_app (goodIn_of _ (by decide +kernel)) ggL_decides_L_isRefused
set_option maxRecDepth 20000 in
theorem ggL_decides_L_of_c : GoodIn wsL_decides ((.codeWith yL_of cL_of 5 (some .int) [(0, 7, 8, 23), (0, 7, 13, 13)] :: [] : List Cond)) := goodIn_r (big := wsL_decides) ((.codeWith yL_of cL_of 5 (some .int) [(0, 7, 8, 23), (0, 7, 13, 13)] :: [] : List Cond)) [158] (by decide +kernel) (by decide +kernel)
set_option maxRecDepth 20000 in
theorem ggL_decides_L_of_r1 : GoodIn wsL_decides (wsL_of_r1) := goodIn_r (big := wsL_decides) (wsL_of_r1) [11, 12, 13, 159, 160, 161, 4, 162, 39, 40, 163, 164, 165, 166, 167, 168, 169, 18, 19, 20, 21, 22, 23, 24] (by decide +kernel) (by decide +kernel)
set_option maxRecDepth 20000 in
theorem ggL_decides_L_of_r2 : GoodIn wsL_decides (wsL_of_r2) := goodIn_r (big := wsL_decides) (wsL_of_r2) [25, 26, 27, 28, 29, 30, 31, 32, 33, 34, 170, 171, 172, 173, 48, 6, 58, 59, 60, 61, 62, 63, 64, 65] (by decide +kernel) (by decide +kernel)
set_option maxRecDepth 20000 in
theorem ggL_decides_L_of_r3 : GoodIn wsL_decides (wsL_of_r3) := goodIn_r (big := wsL_decides) (wsL_of_r3) [66, 67, 68, 69, 70, 71, 72, 73, 74, 75, 76, 77] (by decide +kernel) (by decide +kernel)
set_option maxRecDepth 20000 in
theorem ggL_decides_L_of_x0 : GoodIn wsL_decides (wsX00) := goodIn_r (big := wsL_decides) (wsX00) [288, 289, 290, 291, 292, 293, 294, 295, 296, 297, 298, 299, 300, 301] (by decide +kernel) (by decide +kernel)
set_option maxRecDepth 20000 in
theorem ggL_decides_L_of_x1 : GoodIn wsL_decides (wsX40) := goodIn_r (big := wsL_decides) (wsX40) [270, 271, 272, 273, 274, 275, 276, 277, 278, 279, 280, 281, 282] (by decide +kernel) (by decide +kernel)
set_option maxRecDepth 20000 in
theorem ggL_decides_L_of_x2 : GoodIn wsL_decides (wsX10) := goodIn_r (big := wsL_decides) (wsX10) [283, 284, 285, 286, 287] (by decide +kernel) (by decide +kernel)
set_option maxRecDepth 20000 in
theorem ggL_decides_L_of_x3 : GoodIn wsL_decides (wsX30) := goodIn_r (big := wsL_decides) (wsX30) [302, 303, 304, 305] (by decide +kernel) (by decide +kernel)
theorem ggL_decides_L_of : GoodIn wsL_decides wsL_of := (goodIn_ca (goodIn_ca (goodIn_ca (goodIn_ca (goodIn_ca (goodIn_ca (show GoodIn wsL_decides (.codeWith yL_of cL_of 5 (some .int) [(0, 7, 8, 23), (0, 7, 13, 13)] :: (wsL_of_r1 ++ (wsL_of_r2 ++ wsL_of_r3))) from goodIn_app (a := .codeWith yL_of cL_of 5 (some .int) [(0, 7, 8, 23), (0, 7, 13, 13)] :: []) (b := wsL_of_r1 ++ (wsL_of_r2 ++ wsL_of_r3)) ggL_decides_L_of_c (goodIn_app ggL_decides_L_of_r1 (goodIn_app ggL_decides_L_of_r2 (ggL_decides_L_of_r3)))) ggL_decides_L_of_x0) ggL_decides_L_of_x1) ggL_decides_L_of_x2) ggL_decides_L_of_x3) (goodIn_sub (fun _ h => List.mem_cons_of_mem _ (List.mem_append_left _ (List.mem_append_right _ h))) (by decide +kernel))) (goodIn_sub (fun _ h => List.mem_cons_of_mem _ (List.mem_append_left _ (List.mem_append_left _ (List.mem_append_right _ h)))) (by decide +kernel)))
set_option maxRecDepth 20000 in
theorem gL_decides_L_of : GoodIn wsL_decides (va_wsS RL 116 yL_of wsL_of) := goodIn_app (goodIn_of _ (by decide +kernel)) ggL_decides_L_of
set_option maxRecDepth 20000 in
theorem ggL_decides_L_charge_c : GoodIn wsL_decides ((.codeWith yL_charge cL_charge 5 (some .int) [(0, 7, 8, 23), (0, 7, 13, 13), (0, 7, 18, 16)] :: [] : List Cond)) := goodIn_r (big := wsL_decides) ((.codeWith yL_charge cL_charge 5 (some .int) [(0, 7, 8, 23), (0, 7, 13, 13), (0, 7, 18, 16)] :: [] : List Cond)) [176] (by decide +kernel) (by decide +kernel)
set_option maxRecDepth 20000 in
theorem ggL_decides_L_charge_r1 : GoodIn wsL_decides (wsL_charge_r1) := goodIn_r (big := wsL_decides) (wsL_charge_r1) [11, 12, 13, 155, 177, 178, 179, 4, 180, 181, 182, 163, 6, 164, 183, 18, 19, 20, 21, 22, 23, 24, 25, 26] (by decide +kernel) (by decide +kernel)
set_option maxRecDepth 20000 in
theorem ggL_decides_L_charge_r2 : GoodIn wsL_decides (wsL_charge_r2) := goodIn_r (big := wsL_decides) (wsL_charge_r2) [27, 28, 29, 30, 31, 32, 33, 34, 184, 185, 186, 187, 39, 40, 188, 44, 45, 46, 47, 48, 49, 50, 51, 52] (by decide +kernel) (by decide +kernel)
set_option maxRecDepth 20000 in
theorem ggL_decides_L_charge_r3 : GoodIn wsL_decides (wsL_charge_r3) := goodIn_r (big := wsL_decides) (wsL_charge_r3) [53, 54, 55, 56, 57, 58, 59, 60, 61, 62, 63, 64, 65, 66, 67, 68, 69, 70, 71, 72, 73, 74, 75, 76] (by decide +kernel) (by decide +kernel)
set_option maxRecDepth 20000 in
theorem ggL_decides_L_charge_r4 : GoodIn wsL_decides (wsL_charge_r4) := goodIn_r (big := wsL_decides) (wsL_charge_r4) [77, 78, 79, 80, 81, 82, 83, 84, 85, 86, 87, 88, 89, 90, 91, 92, 93, 94, 95, 96, 97, 98, 99, 100] (by decide +kernel) (by decide +kernel)
set_option maxRecDepth 20000 in
theorem ggL_decides_L_charge_r5 : GoodIn wsL_decides (wsL_charge_r5) := goodIn_r (big := wsL_decides) (wsL_charge_r5) [101, 102, 103, 104, 105, 106, 107, 108, 189, 190, 191, 192, 121, 122, 123, 124, 125, 126, 127, 128, 129, 130, 131, 132] (by decide +kernel) (by decide +kernel)
set_option maxRecDepth 20000 in
theorem ggL_decides_L_charge_r6 : GoodIn wsL_decides (wsL_charge_r6) := goodIn_r (big := wsL_decides) (wsL_charge_r6) [133, 134, 135, 136, 137, 138, 139, 140, 117, 118, 119, 120] (by decide +kernel) (by decide +kernel)
set_option maxRecDepth 20000 in
theorem ggL_decides_L_charge_x0 : GoodIn wsL_decides (wsX00) := goodIn_r (big := wsL_decides) (wsX00) [288, 289, 290, 291, 292, 293, 294, 295, 296, 297, 298, 299, 300, 301] (by decide +kernel) (by decide +kernel)
set_option maxRecDepth 20000 in
theorem ggL_decides_L_charge_x1 : GoodIn wsL_decides (wsX40) := goodIn_r (big := wsL_decides) (wsX40) [270, 271, 272, 273, 274, 275, 276, 277, 278, 279, 280, 281, 282] (by decide +kernel) (by decide +kernel)
set_option maxRecDepth 20000 in
theorem ggL_decides_L_charge_x2 : GoodIn wsL_decides (wsX10) := goodIn_r (big := wsL_decides) (wsX10) [283, 284, 285, 286, 287] (by decide +kernel) (by decide +kernel)
set_option maxRecDepth 20000 in
theorem ggL_decides_L_charge_x3 : GoodIn wsL_decides (wsX30) := goodIn_r (big := wsL_decides) (wsX30) [302, 303, 304, 305] (by decide +kernel) (by decide +kernel)
set_option maxRecDepth 20000 in
theorem ggL_decides_L_charge_x4 : GoodIn wsL_decides (wsX20) := goodIn_r (big := wsL_decides) (wsX20) [306, 307, 308, 309, 310, 311, 312, 313, 314, 315] (by decide +kernel) (by decide +kernel)
theorem ggL_decides_L_charge : GoodIn wsL_decides wsL_charge := (goodIn_ca (goodIn_ca (goodIn_ca (goodIn_ca (goodIn_ca (goodIn_ca (goodIn_ca (goodIn_ca (show GoodIn wsL_decides (.codeWith yL_charge cL_charge 5 (some .int) [(0, 7, 8, 23), (0, 7, 13, 13), (0, 7, 18, 16)] :: (wsL_charge_r1 ++ (wsL_charge_r2 ++ (wsL_charge_r3 ++ (wsL_charge_r4 ++ (wsL_charge_r5 ++ wsL_charge_r6)))))) from goodIn_app (a := .codeWith yL_charge cL_charge 5 (some .int) [(0, 7, 8, 23), (0, 7, 13, 13), (0, 7, 18, 16)] :: []) (b := wsL_charge_r1 ++ (wsL_charge_r2 ++ (wsL_charge_r3 ++ (wsL_charge_r4 ++ (wsL_charge_r5 ++ wsL_charge_r6))))) ggL_decides_L_charge_c (goodIn_app ggL_decides_L_charge_r1 (goodIn_app ggL_decides_L_charge_r2 (goodIn_app ggL_decides_L_charge_r3 (goodIn_app ggL_decides_L_charge_r4 (goodIn_app ggL_decides_L_charge_r5 (ggL_decides_L_charge_r6))))))) ggL_decides_L_charge_x0) ggL_decides_L_charge_x1) ggL_decides_L_charge_x2) ggL_decides_L_charge_x3) ggL_decides_L_charge_x4) (goodIn_sub (fun _ h => List.mem_cons_of_mem _ (List.mem_append_right _ h)) (by decide +kernel))) (goodIn_sub (fun _ h => List.mem_cons_of_mem _ (List.mem_append_left _ (List.mem_append_left _ (List.mem_append_right _ h)))) (by decide +kernel))) (goodIn_sub (fun _ h => List.mem_cons_of_mem _ (List.mem_append_left _ (List.mem_append_right _ h))) (by decide +kernel)))
set_option maxRecDepth 20000 in
theorem gL_decides_L_charge : GoodIn wsL_decides (va_wsS RL 172 yL_charge wsL_charge) := goodIn_app (goodIn_of _ (by decide +kernel)) ggL_decides_L_charge
set_option maxRecDepth 20000 in
theorem ggL_decides_L_whyNot_c : GoodIn wsL_decides ((.codeWith yL_whyNot cL_whyNot 6 (some .int) [(0, 9, 10, 23), (0, 9, 15, 13)] :: [] : List Cond)) := goodIn_r (big := wsL_decides) ((.codeWith yL_whyNot cL_whyNot 6 (some .int) [(0, 9, 10, 23), (0, 9, 15, 13)] :: [] : List Cond)) [195] (by decide +kernel) (by decide +kernel)
set_option maxRecDepth 20000 in
theorem ggL_decides_L_whyNot_r1 : GoodIn wsL_decides (wsL_whyNot_r1) := goodIn_r (big := wsL_decides) (wsL_whyNot_r1) [11, 12, 13, 196, 197, 198, 4, 199, 22, 23, 18, 19, 20, 21, 24, 25, 26, 27, 28, 29, 30, 31, 32, 33] (by decide +kernel) (by decide +kernel)
set_option maxRecDepth 20000 in
theorem ggL_decides_L_whyNot_r2 : GoodIn wsL_decides (wsL_whyNot_r2) := goodIn_r (big := wsL_decides) (wsL_whyNot_r2) [34, 132, 133, 134, 135, 48, 35, 36, 37, 38, 39, 40, 6, 41, 42, 43, 49, 50, 51, 52, 53, 54, 55, 56] (by decide +kernel) (by decide +kernel)
set_option maxRecDepth 20000 in
theorem ggL_decides_L_whyNot_r3 : GoodIn wsL_decides (wsL_whyNot_r3) := goodIn_r (big := wsL_decides) (wsL_whyNot_r3) [57, 58, 59, 60, 61, 62, 63, 64, 65, 66, 67, 68, 69, 70, 71, 72, 73, 74, 75, 76, 77, 78, 79, 80] (by decide +kernel) (by decide +kernel)
set_option maxRecDepth 20000 in
theorem ggL_decides_L_whyNot_r4 : GoodIn wsL_decides (wsL_whyNot_r4) := goodIn_r (big := wsL_decides) (wsL_whyNot_r4) [81, 82, 83, 84, 85, 86, 87, 88, 89, 90, 91, 92, 93, 94, 95, 96, 97, 98, 99, 100, 101, 102, 103, 104] (by decide +kernel) (by decide +kernel)
set_option maxRecDepth 20000 in
theorem ggL_decides_L_whyNot_r5 : GoodIn wsL_decides (wsL_whyNot_r5) := goodIn_r (big := wsL_decides) (wsL_whyNot_r5) [105, 106, 107, 108] (by decide +kernel) (by decide +kernel)
set_option maxRecDepth 20000 in
theorem ggL_decides_L_whyNot_x0 : GoodIn wsL_decides (wsX40) := goodIn_r (big := wsL_decides) (wsX40) [270, 271, 272, 273, 274, 275, 276, 277, 278, 279, 280, 281, 282] (by decide +kernel) (by decide +kernel)
set_option maxRecDepth 20000 in
theorem ggL_decides_L_whyNot_x1 : GoodIn wsL_decides (wsX10) := goodIn_r (big := wsL_decides) (wsX10) [283, 284, 285, 286, 287] (by decide +kernel) (by decide +kernel)
set_option maxRecDepth 20000 in
theorem ggL_decides_L_whyNot_x2 : GoodIn wsL_decides (wsX00) := goodIn_r (big := wsL_decides) (wsX00) [288, 289, 290, 291, 292, 293, 294, 295, 296, 297, 298, 299, 300, 301] (by decide +kernel) (by decide +kernel)
set_option maxRecDepth 20000 in
theorem ggL_decides_L_whyNot_x3 : GoodIn wsL_decides (wsX30) := goodIn_r (big := wsL_decides) (wsX30) [302, 303, 304, 305] (by decide +kernel) (by decide +kernel)
set_option maxRecDepth 20000 in
theorem ggL_decides_L_whyNot_x4 : GoodIn wsL_decides (wsX20) := goodIn_r (big := wsL_decides) (wsX20) [306, 307, 308, 309, 310, 311, 312, 313, 314, 315] (by decide +kernel) (by decide +kernel)
theorem ggL_decides_L_whyNot : GoodIn wsL_decides wsL_whyNot := (goodIn_ca (goodIn_ca (goodIn_ca (goodIn_ca (goodIn_ca (goodIn_ca (goodIn_ca (show GoodIn wsL_decides (.codeWith yL_whyNot cL_whyNot 6 (some .int) [(0, 9, 10, 23), (0, 9, 15, 13)] :: (wsL_whyNot_r1 ++ (wsL_whyNot_r2 ++ (wsL_whyNot_r3 ++ (wsL_whyNot_r4 ++ wsL_whyNot_r5))))) from goodIn_app (a := .codeWith yL_whyNot cL_whyNot 6 (some .int) [(0, 9, 10, 23), (0, 9, 15, 13)] :: []) (b := wsL_whyNot_r1 ++ (wsL_whyNot_r2 ++ (wsL_whyNot_r3 ++ (wsL_whyNot_r4 ++ wsL_whyNot_r5)))) ggL_decides_L_whyNot_c (goodIn_app ggL_decides_L_whyNot_r1 (goodIn_app ggL_decides_L_whyNot_r2 (goodIn_app ggL_decides_L_whyNot_r3 (goodIn_app ggL_decides_L_whyNot_r4 (ggL_decides_L_whyNot_r5)))))) ggL_decides_L_whyNot_x0) ggL_decides_L_whyNot_x1) ggL_decides_L_whyNot_x2) ggL_decides_L_whyNot_x3) ggL_decides_L_whyNot_x4) (goodIn_sub (fun _ h => List.mem_cons_of_mem _ (List.mem_append_left _ (List.mem_append_left _ (List.mem_append_right _ h)))) (by decide +kernel))) (goodIn_sub (fun _ h => List.mem_cons_of_mem _ (List.mem_append_left _ (List.mem_append_right _ h))) (by decide +kernel)))
set_option maxRecDepth 20000 in
theorem gL_decides_L_whyNot : GoodIn wsL_decides (va_wsS RL 135 yL_whyNot wsL_whyNot) := goodIn_app (goodIn_of _ (by decide +kernel)) ggL_decides_L_whyNot
set_option maxRecDepth 20000 in
theorem ggL_decides_L_lacks_c : GoodIn wsL_decides ((.codeWith yL_lacks cL_lacks 4 (some .int) [(0, 6, 7, 23)] :: [] : List Cond)) := goodIn_r (big := wsL_decides) ((.codeWith yL_lacks cL_lacks 4 (some .int) [(0, 6, 7, 23)] :: [] : List Cond)) [202] (by decide +kernel) (by decide +kernel)
set_option maxRecDepth 20000 in
theorem ggL_decides_L_lacks_r1 : GoodIn wsL_decides (wsL_lacks_r1) := goodIn_r (big := wsL_decides) (wsL_lacks_r1) [11, 12, 203, 204, 205, 4, 206, 53, 92, 94, 18, 19, 20, 21, 22, 23, 24, 25, 26, 27, 28, 29, 30, 31] (by decide +kernel) (by decide +kernel)
set_option maxRecDepth 20000 in
theorem ggL_decides_L_lacks_r2 : GoodIn wsL_decides (wsL_lacks_r2) := goodIn_r (big := wsL_decides) (wsL_lacks_r2) [32, 33, 34, 207, 208, 209, 210, 90, 91, 211, 212, 213, 99, 214, 215, 216, 217, 97, 98, 100, 101, 84, 85, 218] (by decide +kernel) (by decide +kernel)
set_option maxRecDepth 20000 in
theorem ggL_decides_L_lacks_r3 : GoodIn wsL_decides (wsL_lacks_r3) := goodIn_r (big := wsL_decides) (wsL_lacks_r3) [219, 220, 221, 222] (by decide +kernel) (by decide +kernel)
set_option maxRecDepth 20000 in
theorem ggL_decides_L_lacks_x0 : GoodIn wsL_decides (wsX00) := goodIn_r (big := wsL_decides) (wsX00) [288, 289, 290, 291, 292, 293, 294, 295, 296, 297, 298, 299, 300, 301] (by decide +kernel) (by decide +kernel)
set_option maxRecDepth 20000 in
theorem ggL_decides_L_lacks_x1 : GoodIn wsL_decides (wsX10) := goodIn_r (big := wsL_decides) (wsX10) [283, 284, 285, 286, 287] (by decide +kernel) (by decide +kernel)
set_option maxRecDepth 20000 in
theorem ggL_decides_L_lacks_x2 : GoodIn wsL_decides (wsX40) := goodIn_r (big := wsL_decides) (wsX40) [270, 271, 272, 273, 274, 275, 276, 277, 278, 279, 280, 281, 282] (by decide +kernel) (by decide +kernel)
set_option maxRecDepth 20000 in
theorem ggL_decides_L_lacks_x3 : GoodIn wsL_decides (wsX20) := goodIn_r (big := wsL_decides) (wsX20) [306, 307, 308, 309, 310, 311, 312, 313, 314, 315] (by decide +kernel) (by decide +kernel)
theorem ggL_decides_L_lacks : GoodIn wsL_decides wsL_lacks := (goodIn_ca (goodIn_ca (goodIn_ca (goodIn_ca (goodIn_ca (show GoodIn wsL_decides (.codeWith yL_lacks cL_lacks 4 (some .int) [(0, 6, 7, 23)] :: (wsL_lacks_r1 ++ (wsL_lacks_r2 ++ wsL_lacks_r3))) from goodIn_app (a := .codeWith yL_lacks cL_lacks 4 (some .int) [(0, 6, 7, 23)] :: []) (b := wsL_lacks_r1 ++ (wsL_lacks_r2 ++ wsL_lacks_r3)) ggL_decides_L_lacks_c (goodIn_app ggL_decides_L_lacks_r1 (goodIn_app ggL_decides_L_lacks_r2 (ggL_decides_L_lacks_r3)))) ggL_decides_L_lacks_x0) ggL_decides_L_lacks_x1) ggL_decides_L_lacks_x2) ggL_decides_L_lacks_x3) (goodIn_sub (fun _ h => List.mem_cons_of_mem _ (List.mem_append_left _ (List.mem_append_left _ (List.mem_append_right _ h)))) (by decide +kernel)))
set_option maxRecDepth 20000 in
theorem gL_decides_L_lacks : GoodIn wsL_decides (va_wsS RL 174 yL_lacks wsL_lacks) := goodIn_app (goodIn_of _ (by decide +kernel)) ggL_decides_L_lacks
set_option maxRecDepth 20000 in
theorem ggL_decides_L_count : GoodIn wsL_decides wsL_count := goodIn_ca (goodIn_r _ [225, 226, 13, 227, 228, 229, 4, 230, 39, 40, 231, 232, 233, 234, 235, 236, 270, 271, 272, 273, 274, 275, 276, 277, 278, 279, 280, 281, 282] (by decide +kernel) (by decide +kernel)) (goodIn_sub (fun _ h => List.mem_cons_of_mem _ (List.mem_append_left _ (List.mem_append_right _ h))) (by decide +kernel))
set_option maxRecDepth 20000 in
theorem gL_decides_L_count : GoodIn wsL_decides (va_wsS RL 111 yL_count wsL_count) := goodIn_app (goodIn_of _ (by decide +kernel)) ggL_decides_L_count
set_option maxRecDepth 20000 in
theorem ggL_decides_L_trial_c : GoodIn wsL_decides ((.codeWith yL_trial cL_trial 4 (some .int) [(0, 6, 7, 23), (0, 6, 11, 16)] :: [] : List Cond)) := goodIn_r (big := wsL_decides) ((.codeWith yL_trial cL_trial 4 (some .int) [(0, 6, 7, 23), (0, 6, 11, 16)] :: [] : List Cond)) [239] (by decide +kernel) (by decide +kernel)
set_option maxRecDepth 20000 in
theorem ggL_decides_L_trial_r1 : GoodIn wsL_decides (wsL_trial_r1) := goodIn_r (big := wsL_decides) (wsL_trial_r1) [11, 12, 155, 240, 241, 242, 4, 243, 181, 182, 163, 231, 232, 164, 6, 18, 19, 20, 21, 22, 23, 24, 25, 26] (by decide +kernel) (by decide +kernel)
set_option maxRecDepth 20000 in
theorem ggL_decides_L_trial_r2 : GoodIn wsL_decides (wsL_trial_r2) := goodIn_r (big := wsL_decides) (wsL_trial_r2) [27, 28, 29, 30, 31, 32, 33, 34, 207, 208, 209, 210, 90, 91, 211, 212, 213, 99, 214, 215, 216, 217, 97, 98] (by decide +kernel) (by decide +kernel)
set_option maxRecDepth 20000 in
theorem ggL_decides_L_trial_r3 : GoodIn wsL_decides (wsL_trial_r3) := goodIn_r (big := wsL_decides) (wsL_trial_r3) [100, 101, 84, 85, 218, 219, 220, 221, 222, 244, 245, 246, 247, 48, 83, 78, 79, 80, 81, 82, 86, 87, 88, 89] (by decide +kernel) (by decide +kernel)
set_option maxRecDepth 20000 in
theorem ggL_decides_L_trial_r4 : GoodIn wsL_decides (wsL_trial_r4) := goodIn_r (big := wsL_decides) (wsL_trial_r4) [53, 92, 93, 94, 95, 96, 102, 103, 104, 105, 106, 107, 108, 121, 122, 123, 124, 125, 126, 127, 248, 249, 250, 75] (by decide +kernel) (by decide +kernel)
set_option maxRecDepth 20000 in
theorem ggL_decides_L_trial_r5 : GoodIn wsL_decides (wsL_trial_r5) := goodIn_r (big := wsL_decides) (wsL_trial_r5) [251, 77, 252, 253, 254, 255, 256] (by decide +kernel) (by decide +kernel)
set_option maxRecDepth 20000 in
theorem ggL_decides_L_trial_x0 : GoodIn wsL_decides (wsX00) := goodIn_r (big := wsL_decides) (wsX00) [288, 289, 290, 291, 292, 293, 294, 295, 296, 297, 298, 299, 300, 301] (by decide +kernel) (by decide +kernel)
set_option maxRecDepth 20000 in
theorem ggL_decides_L_trial_x1 : GoodIn wsL_decides (wsX40) := goodIn_r (big := wsL_decides) (wsX40) [270, 271, 272, 273, 274, 275, 276, 277, 278, 279, 280, 281, 282] (by decide +kernel) (by decide +kernel)
set_option maxRecDepth 20000 in
theorem ggL_decides_L_trial_x2 : GoodIn wsL_decides (wsX10) := goodIn_r (big := wsL_decides) (wsX10) [283, 284, 285, 286, 287] (by decide +kernel) (by decide +kernel)
set_option maxRecDepth 20000 in
theorem ggL_decides_L_trial_x3 : GoodIn wsL_decides (wsX20) := goodIn_r (big := wsL_decides) (wsX20) [306, 307, 308, 309, 310, 311, 312, 313, 314, 315] (by decide +kernel) (by decide +kernel)
set_option maxRecDepth 20000 in
theorem ggL_decides_L_trial_x4 : GoodIn wsL_decides (wsX30) := goodIn_r (big := wsL_decides) (wsX30) [302, 303, 304, 305] (by decide +kernel) (by decide +kernel)
theorem ggL_decides_L_trial : GoodIn wsL_decides wsL_trial := (goodIn_ca (goodIn_ca (goodIn_ca (goodIn_ca (goodIn_ca (goodIn_ca (goodIn_ca (show GoodIn wsL_decides (.codeWith yL_trial cL_trial 4 (some .int) [(0, 6, 7, 23), (0, 6, 11, 16)] :: (wsL_trial_r1 ++ (wsL_trial_r2 ++ (wsL_trial_r3 ++ (wsL_trial_r4 ++ wsL_trial_r5))))) from goodIn_app (a := .codeWith yL_trial cL_trial 4 (some .int) [(0, 6, 7, 23), (0, 6, 11, 16)] :: []) (b := wsL_trial_r1 ++ (wsL_trial_r2 ++ (wsL_trial_r3 ++ (wsL_trial_r4 ++ wsL_trial_r5)))) ggL_decides_L_trial_c (goodIn_app ggL_decides_L_trial_r1 (goodIn_app ggL_decides_L_trial_r2 (goodIn_app ggL_decides_L_trial_r3 (goodIn_app ggL_decides_L_trial_r4 (ggL_decides_L_trial_r5)))))) ggL_decides_L_trial_x0) ggL_decides_L_trial_x1) ggL_decides_L_trial_x2) ggL_decides_L_trial_x3) ggL_decides_L_trial_x4) (goodIn_sub (fun _ h => List.mem_cons_of_mem _ (List.mem_append_right _ h)) (by decide +kernel))) (goodIn_sub (fun _ h => List.mem_cons_of_mem _ (List.mem_append_left _ (List.mem_append_left _ (List.mem_append_right _ h)))) (by decide +kernel)))
set_option maxRecDepth 20000 in
theorem gL_decides_L_trial : GoodIn wsL_decides (va_wsS RL 176 yL_trial wsL_trial) := goodIn_app (goodIn_of _ (by decide +kernel)) ggL_decides_L_trial
set_option maxRecDepth 20000 in
theorem ggL_decides_L_bits : GoodIn wsL_decides wsL_bits := goodIn_r _ [259] (by decide +kernel) (by decide +kernel)
set_option maxRecDepth 20000 in
theorem gL_decides_L_bits : GoodIn wsL_decides (va_wsS RL 145 yL_bits wsL_bits) := goodIn_app (goodIn_of _ (by decide +kernel)) ggL_decides_L_bits
set_option maxRecDepth 20000 in
theorem ggL_decides_L_plea_c : GoodIn wsL_decides ((.codeWith yL_plea cL_plea 5 (some .int) [(0, 7, 8, 23), (0, 7, 13, 13), (0, 7, 18, 16)] :: [] : List Cond)) := goodIn_r (big := wsL_decides) ((.codeWith yL_plea cL_plea 5 (some .int) [(0, 7, 8, 23), (0, 7, 13, 13), (0, 7, 18, 16)] :: [] : List Cond)) [262] (by decide +kernel) (by decide +kernel)
set_option maxRecDepth 20000 in
theorem ggL_decides_L_plea_r1 : GoodIn wsL_decides (wsL_plea_r1) := goodIn_r (big := wsL_decides) (wsL_plea_r1) [11, 12, 13, 155, 263, 264, 265, 4, 266, 181, 182, 163, 164, 6, 183, 233, 231, 168, 18, 19, 20, 21, 22, 23] (by decide +kernel) (by decide +kernel)
set_option maxRecDepth 20000 in
theorem ggL_decides_L_plea_r2 : GoodIn wsL_decides (wsL_plea_r2) := goodIn_r (big := wsL_decides) (wsL_plea_r2) [24, 25, 26, 27, 28, 29, 30, 31, 32, 33, 34, 184, 185, 186, 187, 39, 40, 188, 117, 118, 119, 120, 48, 56] (by decide +kernel) (by decide +kernel)
set_option maxRecDepth 20000 in
theorem ggL_decides_L_plea_r3 : GoodIn wsL_decides (wsL_plea_r3) := goodIn_r (big := wsL_decides) (wsL_plea_r3) [83, 84, 85, 267, 268, 269, 121, 122, 123, 124, 125, 126, 127, 248, 249, 250, 75, 251, 77, 252, 253, 254, 255, 256] (by decide +kernel) (by decide +kernel)
set_option maxRecDepth 20000 in
theorem ggL_decides_L_plea_x0 : GoodIn wsL_decides (wsX00) := goodIn_r (big := wsL_decides) (wsX00) [288, 289, 290, 291, 292, 293, 294, 295, 296, 297, 298, 299, 300, 301] (by decide +kernel) (by decide +kernel)
set_option maxRecDepth 20000 in
theorem ggL_decides_L_plea_x1 : GoodIn wsL_decides (wsX40) := goodIn_r (big := wsL_decides) (wsX40) [270, 271, 272, 273, 274, 275, 276, 277, 278, 279, 280, 281, 282] (by decide +kernel) (by decide +kernel)
set_option maxRecDepth 20000 in
theorem ggL_decides_L_plea_x2 : GoodIn wsL_decides (wsX10) := goodIn_r (big := wsL_decides) (wsX10) [283, 284, 285, 286, 287] (by decide +kernel) (by decide +kernel)
set_option maxRecDepth 20000 in
theorem ggL_decides_L_plea_x3 : GoodIn wsL_decides (wsX30) := goodIn_r (big := wsL_decides) (wsX30) [302, 303, 304, 305] (by decide +kernel) (by decide +kernel)
theorem ggL_decides_L_plea : GoodIn wsL_decides wsL_plea := (goodIn_ca (goodIn_ca (goodIn_ca (goodIn_ca (goodIn_ca (goodIn_ca (goodIn_ca (show GoodIn wsL_decides (.codeWith yL_plea cL_plea 5 (some .int) [(0, 7, 8, 23), (0, 7, 13, 13), (0, 7, 18, 16)] :: (wsL_plea_r1 ++ (wsL_plea_r2 ++ wsL_plea_r3))) from goodIn_app (a := .codeWith yL_plea cL_plea 5 (some .int) [(0, 7, 8, 23), (0, 7, 13, 13), (0, 7, 18, 16)] :: []) (b := wsL_plea_r1 ++ (wsL_plea_r2 ++ wsL_plea_r3)) ggL_decides_L_plea_c (goodIn_app ggL_decides_L_plea_r1 (goodIn_app ggL_decides_L_plea_r2 (ggL_decides_L_plea_r3)))) ggL_decides_L_plea_x0) ggL_decides_L_plea_x1) ggL_decides_L_plea_x2) ggL_decides_L_plea_x3) (goodIn_sub (fun _ h => List.mem_cons_of_mem _ (List.mem_append_right _ h)) (by decide +kernel))) (goodIn_sub (fun _ h => List.mem_cons_of_mem _ (List.mem_append_left _ (List.mem_append_left _ (List.mem_append_right _ h)))) (by decide +kernel))) (goodIn_sub (fun _ h => List.mem_cons_of_mem _ (List.mem_append_left _ (List.mem_append_right _ h))) (by decide +kernel)))
set_option maxRecDepth 20000 in
theorem gL_decides_L_plea : GoodIn wsL_decides (va_wsS RL 178 yL_plea wsL_plea) := goodIn_app (goodIn_of _ (by decide +kernel)) ggL_decides_L_plea
theorem dL_decides_0 : decode cL_decides 0 = .ok (.iload 4, 2) := by decide +kernel
theorem dL_decides_2 : decode cL_decides 2 = .ok (.ifCond .ne 179, 3) := by decide +kernel
theorem dL_decides_5 : decode cL_decides 5 = .ok (.aload_n 0, 1) := by decide +kernel
theorem dL_decides_6 : decode cL_decides 6 = .ok (.iload_n 1, 1) := by decide +kernel
theorem dL_decides_7 : decode cL_decides 7 = .ok (.iload_n 2, 1) := by decide +kernel
theorem dL_decides_8 : decode cL_decides 8 = .ok (.aload_n 0, 1) := by decide +kernel
theorem dL_decides_9 : decode cL_decides 9 = .ok (.invokevirtual 105, 3) := by decide +kernel
theorem dL_decides_12 : decode cL_decides 12 = .ok (.invokestatic 140, 3) := by decide +kernel
theorem dL_decides_15 : decode cL_decides 15 = .ok (.istore 5, 2) := by decide +kernel
theorem dL_decides_17 : decode cL_decides 17 = .ok (.iload 5, 2) := by decide +kernel
theorem dL_decides_19 : decode cL_decides 19 = .ok (.invokestatic 162, 3) := by decide +kernel
theorem dL_decides_22 : decode cL_decides 22 = .ok (.ifCond .eq 6, 3) := by decide +kernel
theorem dL_decides_25 : decode cL_decides 25 = .ok (.iload 5, 2) := by decide +kernel
theorem dL_decides_27 : decode cL_decides 27 = .ok (.ireturn, 1) := by decide +kernel
theorem dL_decides_28 : decode cL_decides 28 = .ok (.iload_n 3, 1) := by decide +kernel
theorem dL_decides_29 : decode cL_decides 29 = .ok (.iconst 3, 1) := by decide +kernel
theorem dL_decides_30 : decode cL_decides 30 = .ok (.irem, 1) := by decide +kernel
theorem dL_decides_31 : decode cL_decides 31 = .ok (.ifCond .ne 13, 3) := by decide +kernel
theorem dL_decides_34 : decode cL_decides 34 = .ok (.iload_n 3, 1) := by decide +kernel
theorem dL_decides_35 : decode cL_decides 35 = .ok (.iconst 3, 1) := by decide +kernel
theorem dL_decides_36 : decode cL_decides 36 = .ok (.idiv, 1) := by decide +kernel
theorem dL_decides_37 : decode cL_decides 37 = .ok (.sipush 260, 3) := by decide +kernel
theorem dL_decides_40 : decode cL_decides 40 = .ok (.irem, 1) := by decide +kernel
theorem dL_decides_41 : decode cL_decides 41 = .ok (.goto 5, 3) := by decide +kernel
theorem dL_decides_44 : decode cL_decides 44 = .ok (.iload 5, 2) := by decide +kernel
theorem dL_decides_46 : decode cL_decides 46 = .ok (.istore 6, 2) := by decide +kernel
theorem dL_decides_48 : decode cL_decides 48 = .ok (.iload 6, 2) := by decide +kernel
theorem dL_decides_50 : decode cL_decides 50 = .ok (.iload 5, 2) := by decide +kernel
theorem dL_decides_52 : decode cL_decides 52 = .ok (.if_icmp .ne 22, 3) := by decide +kernel
theorem dL_decides_55 : decode cL_decides 55 = .ok (.iload 5, 2) := by decide +kernel
theorem dL_decides_57 : decode cL_decides 57 = .ok (.ifCond .eq 17, 3) := by decide +kernel
theorem dL_decides_60 : decode cL_decides 60 = .ok (.aload_n 0, 1) := by decide +kernel
theorem dL_decides_61 : decode cL_decides 61 = .ok (.iload_n 1, 1) := by decide +kernel
theorem dL_decides_62 : decode cL_decides 62 = .ok (.iload_n 2, 1) := by decide +kernel
theorem dL_decides_63 : decode cL_decides 63 = .ok (.iconst 0, 1) := by decide +kernel
theorem dL_decides_64 : decode cL_decides 64 = .ok (.invokestatic 116, 3) := by decide +kernel
theorem dL_decides_67 : decode cL_decides 67 = .ok (.ifCond .ne 7, 3) := by decide +kernel
theorem dL_decides_70 : decode cL_decides 70 = .ok (.iconst 1, 1) := by decide +kernel
theorem dL_decides_71 : decode cL_decides 71 = .ok (.goto 4, 3) := by decide +kernel
theorem dL_decides_74 : decode cL_decides 74 = .ok (.iconst 0, 1) := by decide +kernel
theorem dL_decides_75 : decode cL_decides 75 = .ok (.istore 7, 2) := by decide +kernel
theorem dL_decides_77 : decode cL_decides 77 = .ok (.aload_n 0, 1) := by decide +kernel
theorem dL_decides_78 : decode cL_decides 78 = .ok (.iload_n 1, 1) := by decide +kernel
theorem dL_decides_79 : decode cL_decides 79 = .ok (.iload_n 2, 1) := by decide +kernel
theorem dL_decides_80 : decode cL_decides 80 = .ok (.iload 6, 2) := by decide +kernel
theorem dL_decides_82 : decode cL_decides 82 = .ok (.invokestatic 172, 3) := by decide +kernel
theorem dL_decides_85 : decode cL_decides 85 = .ok (.istore 8, 2) := by decide +kernel
theorem dL_decides_87 : decode cL_decides 87 = .ok (.iload 7, 2) := by decide +kernel
theorem dL_decides_89 : decode cL_decides 89 = .ok (.ifCond .eq 11, 3) := by decide +kernel
theorem dL_decides_92 : decode cL_decides 92 = .ok (.iload 8, 2) := by decide +kernel
theorem dL_decides_94 : decode cL_decides 94 = .ok (.invokestatic 162, 3) := by decide +kernel
theorem dL_decides_97 : decode cL_decides 97 = .ok (.ifCond .ne 7, 3) := by decide +kernel
theorem dL_decides_100 : decode cL_decides 100 = .ok (.iconst 1, 1) := by decide +kernel
theorem dL_decides_101 : decode cL_decides 101 = .ok (.goto 4, 3) := by decide +kernel
theorem dL_decides_104 : decode cL_decides 104 = .ok (.iconst 0, 1) := by decide +kernel
theorem dL_decides_105 : decode cL_decides 105 = .ok (.istore 9, 2) := by decide +kernel
theorem dL_decides_107 : decode cL_decides 107 = .ok (.iconst 0, 1) := by decide +kernel
theorem dL_decides_108 : decode cL_decides 108 = .ok (.istore 10, 2) := by decide +kernel
theorem dL_decides_110 : decode cL_decides 110 = .ok (.iload 10, 2) := by decide +kernel
theorem dL_decides_112 : decode cL_decides 112 = .ok (.bipush 8, 2) := by decide +kernel
theorem dL_decides_114 : decode cL_decides 114 = .ok (.if_icmp .ge 54, 3) := by decide +kernel
theorem dL_decides_117 : decode cL_decides 117 = .ok (.iload 9, 2) := by decide +kernel
theorem dL_decides_119 : decode cL_decides 119 = .ok (.ifCond .eq 49, 3) := by decide +kernel
theorem dL_decides_122 : decode cL_decides 122 = .ok (.iload 8, 2) := by decide +kernel
theorem dL_decides_124 : decode cL_decides 124 = .ok (.invokestatic 162, 3) := by decide +kernel
theorem dL_decides_127 : decode cL_decides 127 = .ok (.ifCond .ne 41, 3) := by decide +kernel
theorem dL_decides_130 : decode cL_decides 130 = .ok (.iload 6, 2) := by decide +kernel
theorem dL_decides_132 : decode cL_decides 132 = .ok (.iload 10, 2) := by decide +kernel
theorem dL_decides_134 : decode cL_decides 134 = .ok (.ishr, 1) := by decide +kernel
theorem dL_decides_135 : decode cL_decides 135 = .ok (.iconst 1, 1) := by decide +kernel
theorem dL_decides_136 : decode cL_decides 136 = .ok (.iand, 1) := by decide +kernel
theorem dL_decides_137 : decode cL_decides 137 = .ok (.ifCond .eq 18, 3) := by decide +kernel
theorem dL_decides_140 : decode cL_decides 140 = .ok (.aload_n 0, 1) := by decide +kernel
theorem dL_decides_141 : decode cL_decides 141 = .ok (.iload_n 1, 1) := by decide +kernel
theorem dL_decides_142 : decode cL_decides 142 = .ok (.iload_n 2, 1) := by decide +kernel
theorem dL_decides_143 : decode cL_decides 143 = .ok (.iload 10, 2) := by decide +kernel
theorem dL_decides_145 : decode cL_decides 145 = .ok (.aload_n 0, 1) := by decide +kernel
theorem dL_decides_146 : decode cL_decides 146 = .ok (.invokevirtual 105, 3) := by decide +kernel
theorem dL_decides_149 : decode cL_decides 149 = .ok (.invokestatic 135, 3) := by decide +kernel
theorem dL_decides_152 : decode cL_decides 152 = .ok (.ifCond .ne 7, 3) := by decide +kernel
theorem dL_decides_155 : decode cL_decides 155 = .ok (.iconst 1, 1) := by decide +kernel
theorem dL_decides_156 : decode cL_decides 156 = .ok (.goto 4, 3) := by decide +kernel
theorem dL_decides_159 : decode cL_decides 159 = .ok (.iconst 0, 1) := by decide +kernel
theorem dL_decides_160 : decode cL_decides 160 = .ok (.istore 9, 2) := by decide +kernel
theorem dL_decides_162 : decode cL_decides 162 = .ok (.iinc 10 1, 3) := by decide +kernel
theorem dL_decides_165 : decode cL_decides 165 = .ok (.goto (-55), 3) := by decide +kernel
theorem dL_decides_168 : decode cL_decides 168 = .ok (.iload 9, 2) := by decide +kernel
theorem dL_decides_170 : decode cL_decides 170 = .ok (.ifCond .eq 8, 3) := by decide +kernel
theorem dL_decides_173 : decode cL_decides 173 = .ok (.iload 8, 2) := by decide +kernel
theorem dL_decides_175 : decode cL_decides 175 = .ok (.goto 5, 3) := by decide +kernel
theorem dL_decides_178 : decode cL_decides 178 = .ok (.bipush (-9), 2) := by decide +kernel
theorem dL_decides_180 : decode cL_decides 180 = .ok (.ireturn, 1) := by decide +kernel
theorem dL_decides_181 : decode cL_decides 181 = .ok (.iload 4, 2) := by decide +kernel
theorem dL_decides_183 : decode cL_decides 183 = .ok (.iconst 1, 1) := by decide +kernel
theorem dL_decides_184 : decode cL_decides 184 = .ok (.if_icmp .ne 150, 3) := by decide +kernel
theorem dL_decides_187 : decode cL_decides 187 = .ok (.aload_n 0, 1) := by decide +kernel
theorem dL_decides_188 : decode cL_decides 188 = .ok (.iload_n 1, 1) := by decide +kernel
theorem dL_decides_189 : decode cL_decides 189 = .ok (.iload_n 2, 1) := by decide +kernel
theorem dL_decides_190 : decode cL_decides 190 = .ok (.invokestatic 174, 3) := by decide +kernel
theorem dL_decides_193 : decode cL_decides 193 = .ok (.istore 5, 2) := by decide +kernel
theorem dL_decides_195 : decode cL_decides 195 = .ok (.aload_n 0, 1) := by decide +kernel
theorem dL_decides_196 : decode cL_decides 196 = .ok (.iload_n 1, 1) := by decide +kernel
theorem dL_decides_197 : decode cL_decides 197 = .ok (.iload_n 2, 1) := by decide +kernel
theorem dL_decides_198 : decode cL_decides 198 = .ok (.iconst 1, 1) := by decide +kernel
theorem dL_decides_199 : decode cL_decides 199 = .ok (.invokestatic 116, 3) := by decide +kernel
theorem dL_decides_202 : decode cL_decides 202 = .ok (.istore 6, 2) := by decide +kernel
theorem dL_decides_204 : decode cL_decides 204 = .ok (.aload_n 0, 1) := by decide +kernel
theorem dL_decides_205 : decode cL_decides 205 = .ok (.iconst 0, 1) := by decide +kernel
theorem dL_decides_206 : decode cL_decides 206 = .ok (.invokestatic 111, 3) := by decide +kernel
theorem dL_decides_209 : decode cL_decides 209 = .ok (.istore 7, 2) := by decide +kernel
theorem dL_decides_211 : decode cL_decides 211 = .ok (.aload_n 0, 1) := by decide +kernel
theorem dL_decides_212 : decode cL_decides 212 = .ok (.iload_n 1, 1) := by decide +kernel
theorem dL_decides_213 : decode cL_decides 213 = .ok (.iload_n 2, 1) := by decide +kernel
theorem dL_decides_214 : decode cL_decides 214 = .ok (.invokestatic 176, 3) := by decide +kernel
theorem dL_decides_217 : decode cL_decides 217 = .ok (.istore 8, 2) := by decide +kernel
theorem dL_decides_219 : decode cL_decides 219 = .ok (.iload 8, 2) := by decide +kernel
theorem dL_decides_221 : decode cL_decides 221 = .ok (.invokestatic 162, 3) := by decide +kernel
theorem dL_decides_224 : decode cL_decides 224 = .ok (.ifCond .ne 90, 3) := by decide +kernel
theorem dL_decides_227 : decode cL_decides 227 = .ok (.iload 5, 2) := by decide +kernel
theorem dL_decides_229 : decode cL_decides 229 = .ok (.ifCond .ne 89, 3) := by decide +kernel
theorem dL_decides_232 : decode cL_decides 232 = .ok (.iload 8, 2) := by decide +kernel
theorem dL_decides_234 : decode cL_decides 234 = .ok (.iload 6, 2) := by decide +kernel
theorem dL_decides_236 : decode cL_decides 236 = .ok (.iconst (-1), 1) := by decide +kernel
theorem dL_decides_237 : decode cL_decides 237 = .ok (.ixor, 1) := by decide +kernel
theorem dL_decides_238 : decode cL_decides 238 = .ok (.iand, 1) := by decide +kernel
theorem dL_decides_239 : decode cL_decides 239 = .ok (.ifCond .ne 79, 3) := by decide +kernel
theorem dL_decides_242 : decode cL_decides 242 = .ok (.aload_n 0, 1) := by decide +kernel
theorem dL_decides_243 : decode cL_decides 243 = .ok (.iload_n 1, 1) := by decide +kernel
theorem dL_decides_244 : decode cL_decides 244 = .ok (.iload_n 2, 1) := by decide +kernel
theorem dL_decides_245 : decode cL_decides 245 = .ok (.iconst 0, 1) := by decide +kernel
theorem dL_decides_246 : decode cL_decides 246 = .ok (.invokestatic 116, 3) := by decide +kernel
theorem dL_decides_249 : decode cL_decides 249 = .ok (.ifCond .ne 69, 3) := by decide +kernel
theorem dL_decides_252 : decode cL_decides 252 = .ok (.aload_n 0, 1) := by decide +kernel
theorem dL_decides_253 : decode cL_decides 253 = .ok (.iload_n 1, 1) := by decide +kernel
theorem dL_decides_254 : decode cL_decides 254 = .ok (.iload_n 2, 1) := by decide +kernel
theorem dL_decides_255 : decode cL_decides 255 = .ok (.iconst 1, 1) := by decide +kernel
theorem dL_decides_256 : decode cL_decides 256 = .ok (.invokestatic 116, 3) := by decide +kernel
theorem dL_decides_259 : decode cL_decides 259 = .ok (.ifCond .ne 59, 3) := by decide +kernel
theorem dL_decides_262 : decode cL_decides 262 = .ok (.aload_n 0, 1) := by decide +kernel
theorem dL_decides_263 : decode cL_decides 263 = .ok (.iload_n 1, 1) := by decide +kernel
theorem dL_decides_264 : decode cL_decides 264 = .ok (.iload_n 2, 1) := by decide +kernel
theorem dL_decides_265 : decode cL_decides 265 = .ok (.iconst 2, 1) := by decide +kernel
theorem dL_decides_266 : decode cL_decides 266 = .ok (.invokestatic 116, 3) := by decide +kernel
theorem dL_decides_269 : decode cL_decides 269 = .ok (.ifCond .ne 49, 3) := by decide +kernel
theorem dL_decides_272 : decode cL_decides 272 = .ok (.aload_n 0, 1) := by decide +kernel
theorem dL_decides_273 : decode cL_decides 273 = .ok (.iload_n 1, 1) := by decide +kernel
theorem dL_decides_274 : decode cL_decides 274 = .ok (.iload_n 2, 1) := by decide +kernel
theorem dL_decides_275 : decode cL_decides 275 = .ok (.iconst 4, 1) := by decide +kernel
theorem dL_decides_276 : decode cL_decides 276 = .ok (.invokestatic 116, 3) := by decide +kernel
theorem dL_decides_279 : decode cL_decides 279 = .ok (.ifCond .ne 39, 3) := by decide +kernel
theorem dL_decides_282 : decode cL_decides 282 = .ok (.aload_n 0, 1) := by decide +kernel
theorem dL_decides_283 : decode cL_decides 283 = .ok (.iconst 0, 1) := by decide +kernel
theorem dL_decides_284 : decode cL_decides 284 = .ok (.invokestatic 111, 3) := by decide +kernel
theorem dL_decides_287 : decode cL_decides 287 = .ok (.iload 7, 2) := by decide +kernel
theorem dL_decides_289 : decode cL_decides 289 = .ok (.iload 8, 2) := by decide +kernel
theorem dL_decides_291 : decode cL_decides 291 = .ok (.invokestatic 145, 3) := by decide +kernel
theorem dL_decides_294 : decode cL_decides 294 = .ok (.iadd, 1) := by decide +kernel
theorem dL_decides_295 : decode cL_decides 295 = .ok (.if_icmp .ne 23, 3) := by decide +kernel
theorem dL_decides_298 : decode cL_decides 298 = .ok (.iload 6, 2) := by decide +kernel
theorem dL_decides_300 : decode cL_decides 300 = .ok (.aload_n 0, 1) := by decide +kernel
theorem dL_decides_301 : decode cL_decides 301 = .ok (.iload_n 1, 1) := by decide +kernel
theorem dL_decides_302 : decode cL_decides 302 = .ok (.iload_n 2, 1) := by decide +kernel
theorem dL_decides_303 : decode cL_decides 303 = .ok (.bipush 7, 2) := by decide +kernel
theorem dL_decides_305 : decode cL_decides 305 = .ok (.invokestatic 116, 3) := by decide +kernel
theorem dL_decides_308 : decode cL_decides 308 = .ok (.iconst (-1), 1) := by decide +kernel
theorem dL_decides_309 : decode cL_decides 309 = .ok (.ixor, 1) := by decide +kernel
theorem dL_decides_310 : decode cL_decides 310 = .ok (.iand, 1) := by decide +kernel
theorem dL_decides_311 : decode cL_decides 311 = .ok (.ifCond .ne 7, 3) := by decide +kernel
theorem dL_decides_314 : decode cL_decides 314 = .ok (.iconst 1, 1) := by decide +kernel
theorem dL_decides_315 : decode cL_decides 315 = .ok (.goto 4, 3) := by decide +kernel
theorem dL_decides_318 : decode cL_decides 318 = .ok (.iconst 0, 1) := by decide +kernel
theorem dL_decides_319 : decode cL_decides 319 = .ok (.istore 9, 2) := by decide +kernel
theorem dL_decides_321 : decode cL_decides 321 = .ok (.iload 9, 2) := by decide +kernel
theorem dL_decides_323 : decode cL_decides 323 = .ok (.ifCond .eq 8, 3) := by decide +kernel
theorem dL_decides_326 : decode cL_decides 326 = .ok (.iload 8, 2) := by decide +kernel
theorem dL_decides_328 : decode cL_decides 328 = .ok (.goto 5, 3) := by decide +kernel
theorem dL_decides_331 : decode cL_decides 331 = .ok (.bipush (-9), 2) := by decide +kernel
theorem dL_decides_333 : decode cL_decides 333 = .ok (.ireturn, 1) := by decide +kernel
theorem dL_decides_334 : decode cL_decides 334 = .ok (.aload_n 0, 1) := by decide +kernel
theorem dL_decides_335 : decode cL_decides 335 = .ok (.iload_n 1, 1) := by decide +kernel
theorem dL_decides_336 : decode cL_decides 336 = .ok (.iload_n 2, 1) := by decide +kernel
theorem dL_decides_337 : decode cL_decides 337 = .ok (.iconst 1, 1) := by decide +kernel
theorem dL_decides_338 : decode cL_decides 338 = .ok (.invokestatic 116, 3) := by decide +kernel
theorem dL_decides_341 : decode cL_decides 341 = .ok (.istore 5, 2) := by decide +kernel
theorem dL_decides_343 : decode cL_decides 343 = .ok (.iload_n 3, 1) := by decide +kernel
theorem dL_decides_344 : decode cL_decides 344 = .ok (.iconst 3, 1) := by decide +kernel
theorem dL_decides_345 : decode cL_decides 345 = .ok (.irem, 1) := by decide +kernel
theorem dL_decides_346 : decode cL_decides 346 = .ok (.ifCond .ne 13, 3) := by decide +kernel
theorem dL_decides_349 : decode cL_decides 349 = .ok (.iload_n 3, 1) := by decide +kernel
theorem dL_decides_350 : decode cL_decides 350 = .ok (.iconst 3, 1) := by decide +kernel
theorem dL_decides_351 : decode cL_decides 351 = .ok (.idiv, 1) := by decide +kernel
theorem dL_decides_352 : decode cL_decides 352 = .ok (.sipush 260, 3) := by decide +kernel
theorem dL_decides_355 : decode cL_decides 355 = .ok (.irem, 1) := by decide +kernel
theorem dL_decides_356 : decode cL_decides 356 = .ok (.goto 13, 3) := by decide +kernel
theorem dL_decides_359 : decode cL_decides 359 = .ok (.iload 5, 2) := by decide +kernel
theorem dL_decides_361 : decode cL_decides 361 = .ok (.iload_n 3, 1) := by decide +kernel
theorem dL_decides_362 : decode cL_decides 362 = .ok (.iconst 3, 1) := by decide +kernel
theorem dL_decides_363 : decode cL_decides 363 = .ok (.irem, 1) := by decide +kernel
theorem dL_decides_364 : decode cL_decides 364 = .ok (.iconst 1, 1) := by decide +kernel
theorem dL_decides_365 : decode cL_decides 365 = .ok (.isub, 1) := by decide +kernel
theorem dL_decides_366 : decode cL_decides 366 = .ok (.iconst (-1), 1) := by decide +kernel
theorem dL_decides_367 : decode cL_decides 367 = .ok (.ixor, 1) := by decide +kernel
theorem dL_decides_368 : decode cL_decides 368 = .ok (.iand, 1) := by decide +kernel
theorem dL_decides_369 : decode cL_decides 369 = .ok (.istore 6, 2) := by decide +kernel
theorem dL_decides_371 : decode cL_decides 371 = .ok (.aload_n 0, 1) := by decide +kernel
theorem dL_decides_372 : decode cL_decides 372 = .ok (.iconst 0, 1) := by decide +kernel
theorem dL_decides_373 : decode cL_decides 373 = .ok (.invokestatic 111, 3) := by decide +kernel
theorem dL_decides_376 : decode cL_decides 376 = .ok (.istore 7, 2) := by decide +kernel
theorem dL_decides_378 : decode cL_decides 378 = .ok (.aload_n 0, 1) := by decide +kernel
theorem dL_decides_379 : decode cL_decides 379 = .ok (.iload_n 1, 1) := by decide +kernel
theorem dL_decides_380 : decode cL_decides 380 = .ok (.iload_n 2, 1) := by decide +kernel
theorem dL_decides_381 : decode cL_decides 381 = .ok (.iload 5, 2) := by decide +kernel
theorem dL_decides_383 : decode cL_decides 383 = .ok (.invokestatic 162, 3) := by decide +kernel
theorem dL_decides_386 : decode cL_decides 386 = .ok (.ifCond .eq 7, 3) := by decide +kernel
theorem dL_decides_389 : decode cL_decides 389 = .ok (.iconst 0, 1) := by decide +kernel
theorem dL_decides_390 : decode cL_decides 390 = .ok (.goto 5, 3) := by decide +kernel
theorem dL_decides_393 : decode cL_decides 393 = .ok (.iload 6, 2) := by decide +kernel
theorem dL_decides_395 : decode cL_decides 395 = .ok (.invokestatic 178, 3) := by decide +kernel
theorem dL_decides_398 : decode cL_decides 398 = .ok (.istore 8, 2) := by decide +kernel
theorem dL_decides_400 : decode cL_decides 400 = .ok (.iload 8, 2) := by decide +kernel
theorem dL_decides_402 : decode cL_decides 402 = .ok (.invokestatic 162, 3) := by decide +kernel
theorem dL_decides_405 : decode cL_decides 405 = .ok (.ifCond .ne 85, 3) := by decide +kernel
theorem dL_decides_408 : decode cL_decides 408 = .ok (.aload_n 0, 1) := by decide +kernel
theorem dL_decides_409 : decode cL_decides 409 = .ok (.iload_n 1, 1) := by decide +kernel
theorem dL_decides_410 : decode cL_decides 410 = .ok (.iload_n 2, 1) := by decide +kernel
theorem dL_decides_411 : decode cL_decides 411 = .ok (.iconst 0, 1) := by decide +kernel
theorem dL_decides_412 : decode cL_decides 412 = .ok (.invokestatic 116, 3) := by decide +kernel
theorem dL_decides_415 : decode cL_decides 415 = .ok (.ifCond .ne 79, 3) := by decide +kernel
theorem dL_decides_418 : decode cL_decides 418 = .ok (.aload_n 0, 1) := by decide +kernel
theorem dL_decides_419 : decode cL_decides 419 = .ok (.iload_n 1, 1) := by decide +kernel
theorem dL_decides_420 : decode cL_decides 420 = .ok (.iload_n 2, 1) := by decide +kernel
theorem dL_decides_421 : decode cL_decides 421 = .ok (.iconst 1, 1) := by decide +kernel
theorem dL_decides_422 : decode cL_decides 422 = .ok (.invokestatic 116, 3) := by decide +kernel
theorem dL_decides_425 : decode cL_decides 425 = .ok (.ifCond .ne 69, 3) := by decide +kernel
theorem dL_decides_428 : decode cL_decides 428 = .ok (.aload_n 0, 1) := by decide +kernel
theorem dL_decides_429 : decode cL_decides 429 = .ok (.iload_n 1, 1) := by decide +kernel
theorem dL_decides_430 : decode cL_decides 430 = .ok (.iload_n 2, 1) := by decide +kernel
theorem dL_decides_431 : decode cL_decides 431 = .ok (.iconst 2, 1) := by decide +kernel
theorem dL_decides_432 : decode cL_decides 432 = .ok (.invokestatic 116, 3) := by decide +kernel
theorem dL_decides_435 : decode cL_decides 435 = .ok (.ifCond .ne 59, 3) := by decide +kernel
theorem dL_decides_438 : decode cL_decides 438 = .ok (.aload_n 0, 1) := by decide +kernel
theorem dL_decides_439 : decode cL_decides 439 = .ok (.iload_n 1, 1) := by decide +kernel
theorem dL_decides_440 : decode cL_decides 440 = .ok (.iload_n 2, 1) := by decide +kernel
theorem dL_decides_441 : decode cL_decides 441 = .ok (.iconst 4, 1) := by decide +kernel
theorem dL_decides_442 : decode cL_decides 442 = .ok (.invokestatic 116, 3) := by decide +kernel
theorem dL_decides_445 : decode cL_decides 445 = .ok (.ifCond .ne 49, 3) := by decide +kernel
theorem dL_decides_448 : decode cL_decides 448 = .ok (.iload 6, 2) := by decide +kernel
theorem dL_decides_450 : decode cL_decides 450 = .ok (.iload 5, 2) := by decide +kernel
theorem dL_decides_452 : decode cL_decides 452 = .ok (.iconst (-1), 1) := by decide +kernel
theorem dL_decides_453 : decode cL_decides 453 = .ok (.ixor, 1) := by decide +kernel
theorem dL_decides_454 : decode cL_decides 454 = .ok (.iand, 1) := by decide +kernel
theorem dL_decides_455 : decode cL_decides 455 = .ok (.ifCond .ne 39, 3) := by decide +kernel
theorem dL_decides_458 : decode cL_decides 458 = .ok (.aload_n 0, 1) := by decide +kernel
theorem dL_decides_459 : decode cL_decides 459 = .ok (.iconst 0, 1) := by decide +kernel
theorem dL_decides_460 : decode cL_decides 460 = .ok (.invokestatic 111, 3) := by decide +kernel
theorem dL_decides_463 : decode cL_decides 463 = .ok (.iload 7, 2) := by decide +kernel
theorem dL_decides_465 : decode cL_decides 465 = .ok (.iload 6, 2) := by decide +kernel
theorem dL_decides_467 : decode cL_decides 467 = .ok (.invokestatic 145, 3) := by decide +kernel
theorem dL_decides_470 : decode cL_decides 470 = .ok (.iadd, 1) := by decide +kernel
theorem dL_decides_471 : decode cL_decides 471 = .ok (.if_icmp .ne 23, 3) := by decide +kernel
theorem dL_decides_474 : decode cL_decides 474 = .ok (.iload 5, 2) := by decide +kernel
theorem dL_decides_476 : decode cL_decides 476 = .ok (.aload_n 0, 1) := by decide +kernel
theorem dL_decides_477 : decode cL_decides 477 = .ok (.iload_n 1, 1) := by decide +kernel
theorem dL_decides_478 : decode cL_decides 478 = .ok (.iload_n 2, 1) := by decide +kernel
theorem dL_decides_479 : decode cL_decides 479 = .ok (.bipush 7, 2) := by decide +kernel
theorem dL_decides_481 : decode cL_decides 481 = .ok (.invokestatic 116, 3) := by decide +kernel
theorem dL_decides_484 : decode cL_decides 484 = .ok (.iconst (-1), 1) := by decide +kernel
theorem dL_decides_485 : decode cL_decides 485 = .ok (.ixor, 1) := by decide +kernel
theorem dL_decides_486 : decode cL_decides 486 = .ok (.iand, 1) := by decide +kernel
theorem dL_decides_487 : decode cL_decides 487 = .ok (.ifCond .ne 7, 3) := by decide +kernel
theorem dL_decides_490 : decode cL_decides 490 = .ok (.iconst 1, 1) := by decide +kernel
theorem dL_decides_491 : decode cL_decides 491 = .ok (.goto 4, 3) := by decide +kernel
theorem dL_decides_494 : decode cL_decides 494 = .ok (.iconst 0, 1) := by decide +kernel
theorem dL_decides_495 : decode cL_decides 495 = .ok (.istore 9, 2) := by decide +kernel
theorem dL_decides_497 : decode cL_decides 497 = .ok (.iload 9, 2) := by decide +kernel
theorem dL_decides_499 : decode cL_decides 499 = .ok (.ifCond .eq 8, 3) := by decide +kernel
theorem dL_decides_502 : decode cL_decides 502 = .ok (.iload 8, 2) := by decide +kernel
theorem dL_decides_504 : decode cL_decides 504 = .ok (.goto 5, 3) := by decide +kernel
theorem dL_decides_507 : decode cL_decides 507 = .ok (.bipush (-9), 2) := by decide +kernel
theorem dL_decides_509 : decode cL_decides 509 = .ok (.ireturn, 1) := by decide +kernel
set_option maxRecDepth 20000 in
theorem ggL_does_L_tells_c : GoodIn wsL_does ((.code yL_tells cL_tells 8 (some .int) :: [] : List Cond)) := goodIn_r (big := wsL_does) ((.code yL_tells cL_tells 8 (some .int) :: [] : List Cond)) [4] (by decide +kernel) (by decide +kernel)
set_option maxRecDepth 20000 in
theorem ggL_does_L_tells_r1 : GoodIn wsL_does (wsL_tells_r1) := goodIn_r (big := wsL_does) (wsL_tells_r1) [5, 6, 7, 3, 8, 9, 10, 11, 12, 13, 14, 15, 16, 17, 18, 19, 20, 21, 22, 23, 24, 25, 26, 27] (by decide +kernel) (by decide +kernel)
set_option maxRecDepth 20000 in
theorem ggL_does_L_tells_r2 : GoodIn wsL_does (wsL_tells_r2) := goodIn_r (big := wsL_does) (wsL_tells_r2) [28, 29, 30, 31, 32, 33, 34, 35, 36, 37, 38, 39, 40, 41, 42, 43, 44, 45, 46, 47, 48, 49, 50, 51] (by decide +kernel) (by decide +kernel)
set_option maxRecDepth 20000 in
theorem ggL_does_L_tells_r3 : GoodIn wsL_does (wsL_tells_r3) := goodIn_r (big := wsL_does) (wsL_tells_r3) [52, 53, 54, 55, 56, 57, 58, 59, 60, 61, 62, 63, 64, 65, 66, 67, 68, 69, 70, 71, 72, 73, 74, 75] (by decide +kernel) (by decide +kernel)
set_option maxRecDepth 20000 in
theorem ggL_does_L_tells_r4 : GoodIn wsL_does (wsL_tells_r4) := goodIn_r (big := wsL_does) (wsL_tells_r4) [76, 77, 78, 79, 80, 81, 82, 83, 84, 85, 86, 87, 88, 89, 90, 91, 92, 93, 94, 95, 96, 97, 98, 99] (by decide +kernel) (by decide +kernel)
set_option maxRecDepth 20000 in
theorem ggL_does_L_tells_r5 : GoodIn wsL_does (wsL_tells_r5) := goodIn_r (big := wsL_does) (wsL_tells_r5) [100, 101, 102, 103, 104, 105, 106, 107, 108, 109, 110, 111, 112, 113, 114, 115, 116, 117, 118, 119, 120] (by decide +kernel) (by decide +kernel)
set_option maxRecDepth 20000 in
theorem ggL_does_L_tells_x0 : GoodIn wsL_does (wsX40) := goodIn_r (big := wsL_does) (wsX40) [453, 454, 455, 456, 457, 458, 459, 460, 461, 462, 463, 464, 465] (by decide +kernel) (by decide +kernel)
set_option maxRecDepth 20000 in
theorem ggL_does_L_tells_x1 : GoodIn wsL_does (wsX30) := goodIn_r (big := wsL_does) (wsX30) [466, 467, 468, 469] (by decide +kernel) (by decide +kernel)
set_option maxRecDepth 20000 in
theorem ggL_does_L_tells_x2 : GoodIn wsL_does (wsX10) := goodIn_r (big := wsL_does) (wsX10) [470, 471, 472, 473, 474] (by decide +kernel) (by decide +kernel)
set_option maxRecDepth 20000 in
theorem ggL_does_L_tells_x3 : GoodIn wsL_does (wsX00) := goodIn_r (big := wsL_does) (wsX00) [475, 476, 477, 478, 479, 480, 481, 482, 483, 484, 485, 486, 487, 488] (by decide +kernel) (by decide +kernel)
set_option maxRecDepth 20000 in
theorem ggL_does_L_tells_x4 : GoodIn wsL_does (wsX20) := goodIn_r (big := wsL_does) (wsX20) [489, 490, 491, 492, 493, 494, 495, 496, 497, 498] (by decide +kernel) (by decide +kernel)
theorem ggL_does_L_tells : GoodIn wsL_does wsL_tells := (goodIn_ca (goodIn_ca (goodIn_ca (goodIn_ca (goodIn_ca (goodIn_ca (goodIn_ca (goodIn_ca (show GoodIn wsL_does (.code yL_tells cL_tells 8 (some .int) :: (wsL_tells_r1 ++ (wsL_tells_r2 ++ (wsL_tells_r3 ++ (wsL_tells_r4 ++ wsL_tells_r5))))) from goodIn_app (a := .code yL_tells cL_tells 8 (some .int) :: []) (b := wsL_tells_r1 ++ (wsL_tells_r2 ++ (wsL_tells_r3 ++ (wsL_tells_r4 ++ wsL_tells_r5)))) ggL_does_L_tells_c (goodIn_app ggL_does_L_tells_r1 (goodIn_app ggL_does_L_tells_r2 (goodIn_app ggL_does_L_tells_r3 (goodIn_app ggL_does_L_tells_r4 (ggL_does_L_tells_r5)))))) ggL_does_L_tells_x0) ggL_does_L_tells_x1) ggL_does_L_tells_x2) ggL_does_L_tells_x3) ggL_does_L_tells_x4) (goodIn_sub (fun _ h => List.mem_cons_of_mem _ (List.mem_append_left _ (List.mem_append_left _ (List.mem_append_right _ h)))) (by decide +kernel))) (goodIn_sub (fun _ h => List.mem_cons_of_mem _ (List.mem_append_left _ (List.mem_append_right _ h))) (by decide +kernel))) (goodIn_sub (fun _ h => List.mem_cons_of_mem _ (List.mem_append_right _ h)) (by decide +kernel)))
set_option maxRecDepth 20000 in
theorem gL_does_L_tells : GoodIn wsL_does (va_wsS RL 180 yL_tells wsL_tells) := goodIn_app (goodIn_of _ (by decide +kernel)) ggL_does_L_tells
set_option maxRecDepth 20000 in
theorem ggL_does_L_exclude : GoodIn wsL_does wsL_exclude := goodIn_ca (goodIn_ca (goodIn_r _ [123, 89, 41, 10, 124, 125, 126, 15, 127, 94, 95, 17, 18, 128, 129, 130, 131, 132, 22, 133, 134, 135, 25, 136, 137, 75, 76, 466, 467, 468, 469, 453, 454, 455, 456, 457, 458, 459, 460, 461, 462, 463, 464, 465] (by decide +kernel) (by decide +kernel)) (goodIn_sub (fun _ h => List.mem_cons_of_mem _ (List.mem_append_right _ h)) (by decide +kernel))) (goodIn_sub (fun _ h => List.mem_cons_of_mem _ (List.mem_append_left _ (List.mem_append_left _ (List.mem_append_right _ h)))) (by decide +kernel))
set_option maxRecDepth 20000 in
theorem gL_does_L_exclude : GoodIn wsL_does (va_wsS RL 184 yL_exclude wsL_exclude) := goodIn_app (goodIn_of _ (by decide +kernel)) ggL_does_L_exclude
set_option maxRecDepth 20000 in
theorem ggL_does_L_admit : GoodIn wsL_does wsL_admit := goodIn_ca (goodIn_ca (goodIn_r _ [140, 89, 41, 11, 141, 142, 143, 15, 144, 94, 95, 19, 20, 145, 146, 46, 147, 148, 149, 150, 97, 489, 490, 491, 492, 493, 494, 495, 496, 497, 498, 453, 454, 455, 456, 457, 458, 459, 460, 461, 462, 463, 464, 465] (by decide +kernel) (by decide +kernel)) (goodIn_sub (fun _ h => List.mem_cons_of_mem _ (List.mem_append_right _ h)) (by decide +kernel))) (goodIn_sub (fun _ h => List.mem_cons_of_mem _ (List.mem_append_left _ (List.mem_append_right _ h))) (by decide +kernel))
set_option maxRecDepth 20000 in
theorem gL_does_L_admit : GoodIn wsL_does (va_wsS RL 186 yL_admit wsL_admit) := goodIn_app (goodIn_of _ (by decide +kernel)) ggL_does_L_admit
set_option maxRecDepth 20000 in
theorem ggL_does_L_show_c : GoodIn wsL_does ((.codeWith yL_show cL_show 4 (some .int) [(0, 6, 7, 23), (0, 6, 11, 16)] :: [] : List Cond)) := goodIn_r (big := wsL_does) ((.codeWith yL_show cL_show 4 (some .int) [(0, 6, 7, 23), (0, 6, 11, 16)] :: [] : List Cond)) [153] (by decide +kernel) (by decide +kernel)
set_option maxRecDepth 20000 in
theorem ggL_does_L_show_r1 : GoodIn wsL_does (wsL_show_r1) := goodIn_r (big := wsL_does) (wsL_show_r1) [89, 41, 11, 154, 155, 156, 15, 157, 94, 95, 19, 20, 158, 159, 147, 148, 149, 150, 97, 26, 27, 28, 160, 161] (by decide +kernel) (by decide +kernel)
set_option maxRecDepth 20000 in
theorem ggL_does_L_show_r2 : GoodIn wsL_does (wsL_show_r2) := goodIn_r (big := wsL_does) (wsL_show_r2) [162, 100, 163, 117, 75, 76, 164, 165, 166, 167, 168, 169, 170, 171, 172, 173, 174, 175, 176, 116, 177, 178, 179] (by decide +kernel) (by decide +kernel)
set_option maxRecDepth 20000 in
theorem ggL_does_L_show_x0 : GoodIn wsL_does (wsX20) := goodIn_r (big := wsL_does) (wsX20) [489, 490, 491, 492, 493, 494, 495, 496, 497, 498] (by decide +kernel) (by decide +kernel)
set_option maxRecDepth 20000 in
theorem ggL_does_L_show_x1 : GoodIn wsL_does (wsX40) := goodIn_r (big := wsL_does) (wsX40) [453, 454, 455, 456, 457, 458, 459, 460, 461, 462, 463, 464, 465] (by decide +kernel) (by decide +kernel)
theorem ggL_does_L_show : GoodIn wsL_does wsL_show := (goodIn_ca (goodIn_ca (goodIn_ca (goodIn_ca (show GoodIn wsL_does (.codeWith yL_show cL_show 4 (some .int) [(0, 6, 7, 23), (0, 6, 11, 16)] :: (wsL_show_r1 ++ wsL_show_r2)) from goodIn_app (a := .codeWith yL_show cL_show 4 (some .int) [(0, 6, 7, 23), (0, 6, 11, 16)] :: []) (b := wsL_show_r1 ++ wsL_show_r2) ggL_does_L_show_c (goodIn_app ggL_does_L_show_r1 (ggL_does_L_show_r2))) ggL_does_L_show_x0) ggL_does_L_show_x1) (goodIn_sub (fun _ h => List.mem_cons_of_mem _ (List.mem_append_right _ h)) (by decide +kernel))) (goodIn_sub (fun _ h => List.mem_cons_of_mem _ (List.mem_append_left _ (List.mem_append_right _ h))) (by decide +kernel)))
set_option maxRecDepth 20000 in
theorem gL_does_L_show : GoodIn wsL_does (va_wsS RL 188 yL_show wsL_show) := goodIn_app (goodIn_of _ (by decide +kernel)) ggL_does_L_show
set_option maxRecDepth 20000 in
theorem ggL_does_L_withhold : GoodIn wsL_does wsL_withhold := goodIn_ca (goodIn_ca (goodIn_r _ [182, 89, 41, 11, 183, 184, 185, 15, 186, 94, 95, 19, 20, 187, 188, 147, 148, 149, 150, 97, 489, 490, 491, 492, 493, 494, 495, 496, 497, 498, 453, 454, 455, 456, 457, 458, 459, 460, 461, 462, 463, 464, 465] (by decide +kernel) (by decide +kernel)) (goodIn_sub (fun _ h => List.mem_cons_of_mem _ (List.mem_append_right _ h)) (by decide +kernel))) (goodIn_sub (fun _ h => List.mem_cons_of_mem _ (List.mem_append_left _ (List.mem_append_right _ h))) (by decide +kernel))
set_option maxRecDepth 20000 in
theorem gL_does_L_withhold : GoodIn wsL_does (va_wsS RL 190 yL_withhold wsL_withhold) := goodIn_app (goodIn_of _ (by decide +kernel)) ggL_does_L_withhold
set_option maxRecDepth 20000 in
theorem ggL_does_L_arrest_c : GoodIn wsL_does ((.codeWith yL_arrest cL_arrest 4 (some .int) [(0, 6, 7, 23), (0, 6, 11, 16)] :: [] : List Cond)) := goodIn_r (big := wsL_does) ((.codeWith yL_arrest cL_arrest 4 (some .int) [(0, 6, 7, 23), (0, 6, 11, 16)] :: [] : List Cond)) [191] (by decide +kernel) (by decide +kernel)
set_option maxRecDepth 20000 in
theorem ggL_does_L_arrest_r1 : GoodIn wsL_does (wsL_arrest_r1) := goodIn_r (big := wsL_does) (wsL_arrest_r1) [89, 41, 11, 192, 193, 194, 15, 195, 19, 20, 196, 197, 198, 199, 200, 201, 94, 95, 101, 102, 103, 104, 55, 202] (by decide +kernel) (by decide +kernel)
set_option maxRecDepth 20000 in
theorem ggL_does_L_arrest_r2 : GoodIn wsL_does (wsL_arrest_r2) := goodIn_r (big := wsL_does) (wsL_arrest_r2) [203, 204, 58, 205, 69, 206, 207, 208, 62, 209, 81, 210, 211, 212, 213, 214, 215, 216, 75, 76] (by decide +kernel) (by decide +kernel)
set_option maxRecDepth 20000 in
theorem ggL_does_L_arrest_x0 : GoodIn wsL_does (wsX00) := goodIn_r (big := wsL_does) (wsX00) [475, 476, 477, 478, 479, 480, 481, 482, 483, 484, 485, 486, 487, 488] (by decide +kernel) (by decide +kernel)
set_option maxRecDepth 20000 in
theorem ggL_does_L_arrest_x1 : GoodIn wsL_does (wsX40) := goodIn_r (big := wsL_does) (wsX40) [453, 454, 455, 456, 457, 458, 459, 460, 461, 462, 463, 464, 465] (by decide +kernel) (by decide +kernel)
set_option maxRecDepth 20000 in
theorem ggL_does_L_arrest_x2 : GoodIn wsL_does (wsX10) := goodIn_r (big := wsL_does) (wsX10) [470, 471, 472, 473, 474] (by decide +kernel) (by decide +kernel)
theorem ggL_does_L_arrest : GoodIn wsL_does wsL_arrest := (goodIn_ca (goodIn_ca (goodIn_ca (goodIn_ca (goodIn_ca (show GoodIn wsL_does (.codeWith yL_arrest cL_arrest 4 (some .int) [(0, 6, 7, 23), (0, 6, 11, 16)] :: (wsL_arrest_r1 ++ wsL_arrest_r2)) from goodIn_app (a := .codeWith yL_arrest cL_arrest 4 (some .int) [(0, 6, 7, 23), (0, 6, 11, 16)] :: []) (b := wsL_arrest_r1 ++ wsL_arrest_r2) ggL_does_L_arrest_c (goodIn_app ggL_does_L_arrest_r1 (ggL_does_L_arrest_r2))) ggL_does_L_arrest_x0) ggL_does_L_arrest_x1) ggL_does_L_arrest_x2) (goodIn_sub (fun _ h => List.mem_cons_of_mem _ (List.mem_append_left _ (List.mem_append_right _ h))) (by decide +kernel))) (goodIn_sub (fun _ h => List.mem_cons_of_mem _ (List.mem_append_right _ h)) (by decide +kernel)))
set_option maxRecDepth 20000 in
theorem gL_does_L_arrest : GoodIn wsL_does (va_wsS RL 192 yL_arrest wsL_arrest) := goodIn_app (goodIn_of _ (by decide +kernel)) ggL_does_L_arrest
set_option maxRecDepth 20000 in
theorem ggL_does_L_extend_c : GoodIn wsL_does ((.codeWith yL_extend cL_extend 5 (some .int) [(0, 7, 8, 23), (0, 7, 13, 13), (0, 7, 18, 16)] :: [] : List Cond)) := goodIn_r (big := wsL_does) ((.codeWith yL_extend cL_extend 5 (some .int) [(0, 7, 8, 23), (0, 7, 13, 13), (0, 7, 18, 16)] :: [] : List Cond)) [219] (by decide +kernel) (by decide +kernel)
set_option maxRecDepth 20000 in
theorem ggL_does_L_extend_r1 : GoodIn wsL_does (wsL_extend_r1) := goodIn_r (big := wsL_does) (wsL_extend_r1) [89, 41, 10, 11, 220, 221, 222, 15, 223, 17, 18, 19, 20, 196, 224, 198, 199, 200, 201, 94, 95, 101, 102, 103] (by decide +kernel) (by decide +kernel)
set_option maxRecDepth 20000 in
theorem ggL_does_L_extend_r2 : GoodIn wsL_does (wsL_extend_r2) := goodIn_r (big := wsL_does) (wsL_extend_r2) [104, 55, 202, 203, 204, 58, 205, 69, 26, 27, 28, 74, 75, 76, 225, 213, 214, 62, 215, 216] (by decide +kernel) (by decide +kernel)
set_option maxRecDepth 20000 in
theorem ggL_does_L_extend_x0 : GoodIn wsL_does (wsX00) := goodIn_r (big := wsL_does) (wsX00) [475, 476, 477, 478, 479, 480, 481, 482, 483, 484, 485, 486, 487, 488] (by decide +kernel) (by decide +kernel)
set_option maxRecDepth 20000 in
theorem ggL_does_L_extend_x1 : GoodIn wsL_does (wsX40) := goodIn_r (big := wsL_does) (wsX40) [453, 454, 455, 456, 457, 458, 459, 460, 461, 462, 463, 464, 465] (by decide +kernel) (by decide +kernel)
set_option maxRecDepth 20000 in
theorem ggL_does_L_extend_x2 : GoodIn wsL_does (wsX10) := goodIn_r (big := wsL_does) (wsX10) [470, 471, 472, 473, 474] (by decide +kernel) (by decide +kernel)
theorem ggL_does_L_extend : GoodIn wsL_does wsL_extend := (goodIn_ca (goodIn_ca (goodIn_ca (goodIn_ca (goodIn_ca (goodIn_ca (show GoodIn wsL_does (.codeWith yL_extend cL_extend 5 (some .int) [(0, 7, 8, 23), (0, 7, 13, 13), (0, 7, 18, 16)] :: (wsL_extend_r1 ++ wsL_extend_r2)) from goodIn_app (a := .codeWith yL_extend cL_extend 5 (some .int) [(0, 7, 8, 23), (0, 7, 13, 13), (0, 7, 18, 16)] :: []) (b := wsL_extend_r1 ++ wsL_extend_r2) ggL_does_L_extend_c (goodIn_app ggL_does_L_extend_r1 (ggL_does_L_extend_r2))) ggL_does_L_extend_x0) ggL_does_L_extend_x1) ggL_does_L_extend_x2) (goodIn_sub (fun _ h => List.mem_cons_of_mem _ (List.mem_append_left _ (List.mem_append_left _ (List.mem_append_right _ h)))) (by decide +kernel))) (goodIn_sub (fun _ h => List.mem_cons_of_mem _ (List.mem_append_left _ (List.mem_append_right _ h))) (by decide +kernel))) (goodIn_sub (fun _ h => List.mem_cons_of_mem _ (List.mem_append_right _ h)) (by decide +kernel)))
set_option maxRecDepth 20000 in
theorem gL_does_L_extend : GoodIn wsL_does (va_wsS RL 194 yL_extend wsL_extend) := goodIn_app (goodIn_of _ (by decide +kernel)) ggL_does_L_extend
set_option maxRecDepth 20000 in
theorem ggL_does_L_release_c : GoodIn wsL_does ((.codeWith yL_release cL_release 4 (some .int) [(0, 7, 8, 23), (0, 7, 12, 16)] :: [] : List Cond)) := goodIn_r (big := wsL_does) ((.codeWith yL_release cL_release 4 (some .int) [(0, 7, 8, 23), (0, 7, 12, 16)] :: [] : List Cond)) [228] (by decide +kernel) (by decide +kernel)
set_option maxRecDepth 20000 in
theorem ggL_does_L_release_r1 : GoodIn wsL_does (wsL_release_r1) := goodIn_r (big := wsL_does) (wsL_release_r1) [89, 41, 11, 229, 230, 231, 15, 232, 19, 20, 197, 198, 199, 200, 201, 94, 95, 101, 102, 103, 104, 55, 202, 203] (by decide +kernel) (by decide +kernel)
set_option maxRecDepth 20000 in
theorem ggL_does_L_release_r2 : GoodIn wsL_does (wsL_release_r2) := goodIn_r (big := wsL_does) (wsL_release_r2) [204, 58, 205, 69] (by decide +kernel) (by decide +kernel)
set_option maxRecDepth 20000 in
theorem ggL_does_L_release_x0 : GoodIn wsL_does (wsX00) := goodIn_r (big := wsL_does) (wsX00) [475, 476, 477, 478, 479, 480, 481, 482, 483, 484, 485, 486, 487, 488] (by decide +kernel) (by decide +kernel)
set_option maxRecDepth 20000 in
theorem ggL_does_L_release_x1 : GoodIn wsL_does (wsX40) := goodIn_r (big := wsL_does) (wsX40) [453, 454, 455, 456, 457, 458, 459, 460, 461, 462, 463, 464, 465] (by decide +kernel) (by decide +kernel)
set_option maxRecDepth 20000 in
theorem ggL_does_L_release_x2 : GoodIn wsL_does (wsX10) := goodIn_r (big := wsL_does) (wsX10) [470, 471, 472, 473, 474] (by decide +kernel) (by decide +kernel)
theorem ggL_does_L_release : GoodIn wsL_does wsL_release := (goodIn_ca (goodIn_ca (goodIn_ca (goodIn_ca (goodIn_ca (show GoodIn wsL_does (.codeWith yL_release cL_release 4 (some .int) [(0, 7, 8, 23), (0, 7, 12, 16)] :: (wsL_release_r1 ++ wsL_release_r2)) from goodIn_app (a := .codeWith yL_release cL_release 4 (some .int) [(0, 7, 8, 23), (0, 7, 12, 16)] :: []) (b := wsL_release_r1 ++ wsL_release_r2) ggL_does_L_release_c (goodIn_app ggL_does_L_release_r1 (ggL_does_L_release_r2))) ggL_does_L_release_x0) ggL_does_L_release_x1) ggL_does_L_release_x2) (goodIn_sub (fun _ h => List.mem_cons_of_mem _ (List.mem_append_left _ (List.mem_append_right _ h))) (by decide +kernel))) (goodIn_sub (fun _ h => List.mem_cons_of_mem _ (List.mem_append_right _ h)) (by decide +kernel)))
set_option maxRecDepth 20000 in
theorem gL_does_L_release : GoodIn wsL_does (va_wsS RL 196 yL_release wsL_release) := goodIn_app (goodIn_of _ (by decide +kernel)) ggL_does_L_release
set_option maxRecDepth 20000 in
theorem ggL_does_L_drop_c : GoodIn wsL_does ((.codeWith yL_drop cL_drop 4 (some .int) [(0, 7, 8, 23), (0, 7, 12, 16)] :: [] : List Cond)) := goodIn_r (big := wsL_does) ((.codeWith yL_drop cL_drop 4 (some .int) [(0, 7, 8, 23), (0, 7, 12, 16)] :: [] : List Cond)) [235] (by decide +kernel) (by decide +kernel)
set_option maxRecDepth 20000 in
theorem ggL_does_L_drop_r1 : GoodIn wsL_does (wsL_drop_r1) := goodIn_r (big := wsL_does) (wsL_drop_r1) [89, 41, 11, 236, 237, 238, 15, 239, 19, 20, 196, 46, 240, 241, 197, 242, 198, 199, 200, 201, 94, 95, 101, 102] (by decide +kernel) (by decide +kernel)
set_option maxRecDepth 20000 in
theorem ggL_does_L_drop_r2 : GoodIn wsL_does (wsL_drop_r2) := goodIn_r (big := wsL_does) (wsL_drop_r2) [103, 104, 55, 202, 203, 204, 58, 205, 69] (by decide +kernel) (by decide +kernel)
set_option maxRecDepth 20000 in
theorem ggL_does_L_drop_x0 : GoodIn wsL_does (wsX00) := goodIn_r (big := wsL_does) (wsX00) [475, 476, 477, 478, 479, 480, 481, 482, 483, 484, 485, 486, 487, 488] (by decide +kernel) (by decide +kernel)
set_option maxRecDepth 20000 in
theorem ggL_does_L_drop_x1 : GoodIn wsL_does (wsX40) := goodIn_r (big := wsL_does) (wsX40) [453, 454, 455, 456, 457, 458, 459, 460, 461, 462, 463, 464, 465] (by decide +kernel) (by decide +kernel)
set_option maxRecDepth 20000 in
theorem ggL_does_L_drop_x2 : GoodIn wsL_does (wsX10) := goodIn_r (big := wsL_does) (wsX10) [470, 471, 472, 473, 474] (by decide +kernel) (by decide +kernel)
theorem ggL_does_L_drop : GoodIn wsL_does wsL_drop := (goodIn_ca (goodIn_ca (goodIn_ca (goodIn_ca (goodIn_ca (show GoodIn wsL_does (.codeWith yL_drop cL_drop 4 (some .int) [(0, 7, 8, 23), (0, 7, 12, 16)] :: (wsL_drop_r1 ++ wsL_drop_r2)) from goodIn_app (a := .codeWith yL_drop cL_drop 4 (some .int) [(0, 7, 8, 23), (0, 7, 12, 16)] :: []) (b := wsL_drop_r1 ++ wsL_drop_r2) ggL_does_L_drop_c (goodIn_app ggL_does_L_drop_r1 (ggL_does_L_drop_r2))) ggL_does_L_drop_x0) ggL_does_L_drop_x1) ggL_does_L_drop_x2) (goodIn_sub (fun _ h => List.mem_cons_of_mem _ (List.mem_append_left _ (List.mem_append_right _ h))) (by decide +kernel))) (goodIn_sub (fun _ h => List.mem_cons_of_mem _ (List.mem_append_right _ h)) (by decide +kernel)))
set_option maxRecDepth 20000 in
theorem gL_does_L_drop : GoodIn wsL_does (va_wsS RL 198 yL_drop wsL_drop) := goodIn_app (goodIn_of _ (by decide +kernel)) ggL_does_L_drop
set_option maxRecDepth 20000 in
theorem ggL_does_L_review_c : GoodIn wsL_does ((.codeWith yL_review cL_review 4 (some .int) [(0, 14, 15, 23), (0, 14, 19, 16)] :: [] : List Cond)) := goodIn_r (big := wsL_does) ((.codeWith yL_review cL_review 4 (some .int) [(0, 14, 15, 23), (0, 14, 19, 16)] :: [] : List Cond)) [245] (by decide +kernel) (by decide +kernel)
set_option maxRecDepth 20000 in
theorem ggL_does_L_review_r1 : GoodIn wsL_does (wsL_review_r1) := goodIn_r (big := wsL_does) (wsL_review_r1) [89, 41, 11, 246, 247, 248, 15, 249, 19, 20, 196, 46, 240, 241, 250, 198, 199, 200, 201, 94, 95, 101, 102, 103] (by decide +kernel) (by decide +kernel)
set_option maxRecDepth 20000 in
theorem ggL_does_L_review_r2 : GoodIn wsL_does (wsL_review_r2) := goodIn_r (big := wsL_does) (wsL_review_r2) [104, 55, 202, 203, 204, 58, 205, 69, 251, 252, 253, 254, 22, 255, 256, 257, 258, 259, 260, 261, 262, 263, 264, 265] (by decide +kernel) (by decide +kernel)
set_option maxRecDepth 20000 in
theorem ggL_does_L_review_r3 : GoodIn wsL_does (wsL_review_r3) := goodIn_r (big := wsL_does) (wsL_review_r3) [266, 267, 268, 269, 270, 25, 271, 35, 272, 273, 274, 275, 276, 277, 278, 62, 279, 83, 280, 281, 282, 283, 284, 74] (by decide +kernel) (by decide +kernel)
set_option maxRecDepth 20000 in
theorem ggL_does_L_review_r4 : GoodIn wsL_does (wsL_review_r4) := goodIn_r (big := wsL_does) (wsL_review_r4) [75, 76, 285, 286, 287, 288, 97, 159, 63, 289, 290, 291, 160, 161, 162, 100, 163, 117, 292, 293, 294, 295, 113, 120] (by decide +kernel) (by decide +kernel)
set_option maxRecDepth 20000 in
theorem ggL_does_L_review_r5 : GoodIn wsL_does (wsL_review_r5) := goodIn_r (big := wsL_does) (wsL_review_r5) [118] (by decide +kernel) (by decide +kernel)
set_option maxRecDepth 20000 in
theorem ggL_does_L_review_x0 : GoodIn wsL_does (wsX00) := goodIn_r (big := wsL_does) (wsX00) [475, 476, 477, 478, 479, 480, 481, 482, 483, 484, 485, 486, 487, 488] (by decide +kernel) (by decide +kernel)
set_option maxRecDepth 20000 in
theorem ggL_does_L_review_x1 : GoodIn wsL_does (wsX40) := goodIn_r (big := wsL_does) (wsX40) [453, 454, 455, 456, 457, 458, 459, 460, 461, 462, 463, 464, 465] (by decide +kernel) (by decide +kernel)
set_option maxRecDepth 20000 in
theorem ggL_does_L_review_x2 : GoodIn wsL_does (wsX10) := goodIn_r (big := wsL_does) (wsX10) [470, 471, 472, 473, 474] (by decide +kernel) (by decide +kernel)
set_option maxRecDepth 20000 in
theorem ggL_does_L_review_x3 : GoodIn wsL_does (wsX30) := goodIn_r (big := wsL_does) (wsX30) [466, 467, 468, 469] (by decide +kernel) (by decide +kernel)
set_option maxRecDepth 20000 in
theorem ggL_does_L_review_x4 : GoodIn wsL_does (wsX20) := goodIn_r (big := wsL_does) (wsX20) [489, 490, 491, 492, 493, 494, 495, 496, 497, 498] (by decide +kernel) (by decide +kernel)
theorem ggL_does_L_review : GoodIn wsL_does wsL_review := (goodIn_ca (goodIn_ca (goodIn_ca (goodIn_ca (goodIn_ca (goodIn_ca (goodIn_ca (show GoodIn wsL_does (.codeWith yL_review cL_review 4 (some .int) [(0, 14, 15, 23), (0, 14, 19, 16)] :: (wsL_review_r1 ++ (wsL_review_r2 ++ (wsL_review_r3 ++ (wsL_review_r4 ++ wsL_review_r5))))) from goodIn_app (a := .codeWith yL_review cL_review 4 (some .int) [(0, 14, 15, 23), (0, 14, 19, 16)] :: []) (b := wsL_review_r1 ++ (wsL_review_r2 ++ (wsL_review_r3 ++ (wsL_review_r4 ++ wsL_review_r5)))) ggL_does_L_review_c (goodIn_app ggL_does_L_review_r1 (goodIn_app ggL_does_L_review_r2 (goodIn_app ggL_does_L_review_r3 (goodIn_app ggL_does_L_review_r4 (ggL_does_L_review_r5)))))) ggL_does_L_review_x0) ggL_does_L_review_x1) ggL_does_L_review_x2) ggL_does_L_review_x3) ggL_does_L_review_x4) (goodIn_sub (fun _ h => List.mem_cons_of_mem _ (List.mem_append_left _ (List.mem_append_right _ h))) (by decide +kernel))) (goodIn_sub (fun _ h => List.mem_cons_of_mem _ (List.mem_append_right _ h)) (by decide +kernel)))
set_option maxRecDepth 20000 in
theorem gL_does_L_review : GoodIn wsL_does (va_wsS RL 200 yL_review wsL_review) := goodIn_app (goodIn_of _ (by decide +kernel)) ggL_does_L_review
set_option maxRecDepth 20000 in
theorem ggL_does_L_decides_c : GoodIn wsL_does ((.code yL_decides cL_decides 11 (some .int) :: [] : List Cond)) := goodIn_r (big := wsL_does) ((.code yL_decides cL_decides 11 (some .int) :: [] : List Cond)) [298] (by decide +kernel) (by decide +kernel)
set_option maxRecDepth 20000 in
theorem ggL_does_L_decides_r1 : GoodIn wsL_does (wsL_decides_r1) := goodIn_r (big := wsL_does) (wsL_decides_r1) [42, 43, 44, 15, 45, 46, 299, 300, 3, 301, 89, 41, 10, 302, 303, 304, 305, 198, 199, 200, 201, 94, 95, 101] (by decide +kernel) (by decide +kernel)
set_option maxRecDepth 20000 in
theorem ggL_does_L_decides_r2 : GoodIn wsL_does (wsL_decides_r2) := goodIn_r (big := wsL_does) (wsL_decides_r2) [102, 103, 104, 55, 202, 203, 204, 58, 205, 69, 306, 307, 308, 309, 17, 18, 26, 27, 28, 251, 252, 253, 254, 22] (by decide +kernel) (by decide +kernel)
set_option maxRecDepth 20000 in
theorem ggL_does_L_decides_r3 : GoodIn wsL_does (wsL_decides_r3) := goodIn_r (big := wsL_does) (wsL_decides_r3) [255, 256, 257, 258, 259, 260, 261, 262, 263, 264, 265, 266, 267, 268, 269, 270, 25, 271, 35, 272, 273, 274, 275, 276] (by decide +kernel) (by decide +kernel)
set_option maxRecDepth 20000 in
theorem ggL_does_L_decides_r4 : GoodIn wsL_does (wsL_decides_r4) := goodIn_r (big := wsL_does) (wsL_decides_r4) [277, 278, 62, 279, 83, 280, 281, 282, 283, 284, 74, 75, 76, 285, 286, 287, 288, 97, 159, 63, 289, 290, 291, 160] (by decide +kernel) (by decide +kernel)
set_option maxRecDepth 20000 in
theorem ggL_does_L_decides_r5 : GoodIn wsL_does (wsL_decides_r5) := goodIn_r (big := wsL_does) (wsL_decides_r5) [161, 162, 100, 163, 117, 292, 293, 294, 295, 113, 120, 118, 310, 311, 312, 313, 314, 315, 316, 317, 318, 319, 320, 321] (by decide +kernel) (by decide +kernel)
set_option maxRecDepth 20000 in
theorem ggL_does_L_decides_r6 : GoodIn wsL_does (wsL_decides_r6) := goodIn_r (big := wsL_does) (wsL_decides_r6) [322, 323, 324, 325, 326, 327, 328, 329, 330, 331, 332, 129, 130, 131, 132, 133, 134, 135, 136, 137, 333, 334, 335, 336] (by decide +kernel) (by decide +kernel)
set_option maxRecDepth 20000 in
theorem ggL_does_L_decides_r7 : GoodIn wsL_does (wsL_decides_r7) := goodIn_r (big := wsL_does) (wsL_decides_r7) [337, 338, 339, 340, 341, 342, 343, 38, 39, 40, 11, 344, 345, 346, 347, 348, 349, 350, 196, 351, 197, 352, 353, 354] (by decide +kernel) (by decide +kernel)
set_option maxRecDepth 20000 in
theorem ggL_does_L_decides_r8 : GoodIn wsL_does (wsL_decides_r8) := goodIn_r (big := wsL_does) (wsL_decides_r8) [355, 356, 357, 358, 359, 360, 361, 362, 363, 364, 365, 366, 19, 20, 367, 368, 369, 370, 371, 21, 372, 373, 374, 375] (by decide +kernel) (by decide +kernel)
set_option maxRecDepth 20000 in
theorem ggL_does_L_decides_r9 : GoodIn wsL_does (wsL_decides_r9) := goodIn_r (big := wsL_does) (wsL_decides_r9) [376, 377, 378, 379, 380, 381, 382, 383, 384, 385, 386, 387, 388, 389, 169, 170, 171, 172, 173, 174, 175, 176, 116, 177] (by decide +kernel) (by decide +kernel)
set_option maxRecDepth 20000 in
theorem ggL_does_L_decides_r10 : GoodIn wsL_does (wsL_decides_r10) := goodIn_r (big := wsL_does) (wsL_decides_r10) [178, 179, 165, 166, 167, 168, 390, 391, 392, 9, 393, 394, 395, 396, 397, 398, 399, 242, 250, 400, 401, 402, 403, 404] (by decide +kernel) (by decide +kernel)
set_option maxRecDepth 20000 in
theorem ggL_does_L_decides_r11 : GoodIn wsL_does (wsL_decides_r11) := goodIn_r (big := wsL_does) (wsL_decides_r11) [405, 406, 407, 408, 409, 410, 411, 412, 413, 414, 415, 416, 417, 210, 418, 81, 419, 420, 421, 422, 423, 424, 425, 426] (by decide +kernel) (by decide +kernel)
set_option maxRecDepth 20000 in
theorem ggL_does_L_decides_r12 : GoodIn wsL_does (wsL_decides_r12) := goodIn_r (big := wsL_does) (wsL_decides_r12) [427, 428, 429, 430, 431] (by decide +kernel) (by decide +kernel)
set_option maxRecDepth 20000 in
theorem ggL_does_L_decides_x0 : GoodIn wsL_does (wsX40) := goodIn_r (big := wsL_does) (wsX40) [453, 454, 455, 456, 457, 458, 459, 460, 461, 462, 463, 464, 465] (by decide +kernel) (by decide +kernel)
set_option maxRecDepth 20000 in
theorem ggL_does_L_decides_x1 : GoodIn wsL_does (wsX10) := goodIn_r (big := wsL_does) (wsX10) [470, 471, 472, 473, 474] (by decide +kernel) (by decide +kernel)
set_option maxRecDepth 20000 in
theorem ggL_does_L_decides_x2 : GoodIn wsL_does (wsX00) := goodIn_r (big := wsL_does) (wsX00) [475, 476, 477, 478, 479, 480, 481, 482, 483, 484, 485, 486, 487, 488] (by decide +kernel) (by decide +kernel)
set_option maxRecDepth 20000 in
theorem ggL_does_L_decides_x3 : GoodIn wsL_does (wsX30) := goodIn_r (big := wsL_does) (wsX30) [466, 467, 468, 469] (by decide +kernel) (by decide +kernel)
set_option maxRecDepth 20000 in
theorem ggL_does_L_decides_x4 : GoodIn wsL_does (wsX20) := goodIn_r (big := wsL_does) (wsX20) [489, 490, 491, 492, 493, 494, 495, 496, 497, 498] (by decide +kernel) (by decide +kernel)
theorem ggL_does_L_decides : GoodIn wsL_does wsL_decides := (goodIn_ca (goodIn_ca (goodIn_ca (goodIn_ca (goodIn_ca (goodIn_ca (goodIn_ca (goodIn_ca (show GoodIn wsL_does (.code yL_decides cL_decides 11 (some .int) :: (wsL_decides_r1 ++ (wsL_decides_r2 ++ (wsL_decides_r3 ++ (wsL_decides_r4 ++ (wsL_decides_r5 ++ (wsL_decides_r6 ++ (wsL_decides_r7 ++ (wsL_decides_r8 ++ (wsL_decides_r9 ++ (wsL_decides_r10 ++ (wsL_decides_r11 ++ wsL_decides_r12)))))))))))) from goodIn_app (a := .code yL_decides cL_decides 11 (some .int) :: []) (b := wsL_decides_r1 ++ (wsL_decides_r2 ++ (wsL_decides_r3 ++ (wsL_decides_r4 ++ (wsL_decides_r5 ++ (wsL_decides_r6 ++ (wsL_decides_r7 ++ (wsL_decides_r8 ++ (wsL_decides_r9 ++ (wsL_decides_r10 ++ (wsL_decides_r11 ++ wsL_decides_r12))))))))))) ggL_does_L_decides_c (goodIn_app ggL_does_L_decides_r1 (goodIn_app ggL_does_L_decides_r2 (goodIn_app ggL_does_L_decides_r3 (goodIn_app ggL_does_L_decides_r4 (goodIn_app ggL_does_L_decides_r5 (goodIn_app ggL_does_L_decides_r6 (goodIn_app ggL_does_L_decides_r7 (goodIn_app ggL_does_L_decides_r8 (goodIn_app ggL_does_L_decides_r9 (goodIn_app ggL_does_L_decides_r10 (goodIn_app ggL_does_L_decides_r11 (ggL_does_L_decides_r12))))))))))))) ggL_does_L_decides_x0) ggL_does_L_decides_x1) ggL_does_L_decides_x2) ggL_does_L_decides_x3) ggL_does_L_decides_x4) (goodIn_sub (fun _ h => List.mem_cons_of_mem _ (List.mem_append_right _ h)) (by decide +kernel))) (goodIn_sub (fun _ h => List.mem_cons_of_mem _ (List.mem_append_left _ (List.mem_append_left _ (List.mem_append_right _ h)))) (by decide +kernel))) (goodIn_sub (fun _ h => List.mem_cons_of_mem _ (List.mem_append_left _ (List.mem_append_right _ h))) (by decide +kernel)))
set_option maxRecDepth 20000 in
theorem gL_does_L_decides : GoodIn wsL_does (va_wsS RL 202 yL_decides wsL_decides) := goodIn_app (goodIn_of _ (by decide +kernel)) ggL_does_L_decides
set_option maxRecDepth 20000 in
theorem ggL_does_L_pass_c : GoodIn wsL_does ((.codeWith yL_pass cL_pass 3 (some .int) [(0, 5, 6, 13), (0, 5, 10, 16)] :: [] : List Cond)) := goodIn_r (big := wsL_does) ((.codeWith yL_pass cL_pass 3 (some .int) [(0, 5, 6, 13), (0, 5, 10, 16)] :: [] : List Cond)) [434] (by decide +kernel) (by decide +kernel)
set_option maxRecDepth 20000 in
theorem ggL_does_L_pass_r1 : GoodIn wsL_does (wsL_pass_r1) := goodIn_r (big := wsL_does) (wsL_pass_r1) [9, 10, 11, 435, 436, 437, 15, 438, 17, 18, 19, 20, 46, 55, 400, 26, 27, 28, 439, 440, 441, 58, 442, 69] (by decide +kernel) (by decide +kernel)
set_option maxRecDepth 20000 in
theorem ggL_does_L_pass_r2 : GoodIn wsL_does (wsL_pass_r2) := goodIn_r (big := wsL_does) (wsL_pass_r2) [443, 444, 445, 446, 62, 447, 448, 449, 450, 451, 81, 210, 211, 418, 452, 207, 208, 209, 212, 213, 214, 215, 216, 75] (by decide +kernel) (by decide +kernel)
set_option maxRecDepth 20000 in
theorem ggL_does_L_pass_r3 : GoodIn wsL_does (wsL_pass_r3) := goodIn_r (big := wsL_does) (wsL_pass_r3) [76] (by decide +kernel) (by decide +kernel)
set_option maxRecDepth 20000 in
theorem ggL_does_L_pass_x0 : GoodIn wsL_does (wsX40) := goodIn_r (big := wsL_does) (wsX40) [453, 454, 455, 456, 457, 458, 459, 460, 461, 462, 463, 464, 465] (by decide +kernel) (by decide +kernel)
set_option maxRecDepth 20000 in
theorem ggL_does_L_pass_x1 : GoodIn wsL_does (wsX10) := goodIn_r (big := wsL_does) (wsX10) [470, 471, 472, 473, 474] (by decide +kernel) (by decide +kernel)
set_option maxRecDepth 20000 in
theorem ggL_does_L_pass_x2 : GoodIn wsL_does (wsX00) := goodIn_r (big := wsL_does) (wsX00) [475, 476, 477, 478, 479, 480, 481, 482, 483, 484, 485, 486, 487, 488] (by decide +kernel) (by decide +kernel)
theorem ggL_does_L_pass : GoodIn wsL_does wsL_pass := (goodIn_ca (goodIn_ca (goodIn_ca (goodIn_ca (goodIn_ca (show GoodIn wsL_does (.codeWith yL_pass cL_pass 3 (some .int) [(0, 5, 6, 13), (0, 5, 10, 16)] :: (wsL_pass_r1 ++ (wsL_pass_r2 ++ wsL_pass_r3))) from goodIn_app (a := .codeWith yL_pass cL_pass 3 (some .int) [(0, 5, 6, 13), (0, 5, 10, 16)] :: []) (b := wsL_pass_r1 ++ (wsL_pass_r2 ++ wsL_pass_r3)) ggL_does_L_pass_c (goodIn_app ggL_does_L_pass_r1 (goodIn_app ggL_does_L_pass_r2 (ggL_does_L_pass_r3)))) ggL_does_L_pass_x0) ggL_does_L_pass_x1) ggL_does_L_pass_x2) (goodIn_sub (fun _ h => List.mem_cons_of_mem _ (List.mem_append_left _ (List.mem_append_left _ (List.mem_append_right _ h)))) (by decide +kernel))) (goodIn_sub (fun _ h => List.mem_cons_of_mem _ (List.mem_append_left _ (List.mem_append_right _ h))) (by decide +kernel)))
set_option maxRecDepth 20000 in
theorem gL_does_L_pass : GoodIn wsL_does (va_wsS RL 205 yL_pass wsL_pass) := goodIn_app (goodIn_of _ (by decide +kernel)) ggL_does_L_pass
theorem dL_does_0 : decode cL_does 0 = .ok (.iload_n 3, 1) := by decide +kernel
theorem dL_does_1 : decode cL_does 1 = .ok (.bipush 26, 2) := by decide +kernel
theorem dL_does_3 : decode cL_does 3 = .ok (.idiv, 1) := by decide +kernel
theorem dL_does_4 : decode cL_does 4 = .ok (.istore 4, 2) := by decide +kernel
theorem dL_does_6 : decode cL_does 6 = .ok (.iload 4, 2) := by decide +kernel
theorem dL_does_8 : decode cL_does 8 = .ok (.bipush 30, 2) := by decide +kernel
theorem dL_does_10 : decode cL_does 10 = .ok (.idiv, 1) := by decide +kernel
theorem dL_does_11 : decode cL_does 11 = .ok (.istore 5, 2) := by decide +kernel
theorem dL_does_13 : decode cL_does 13 = .ok (.iload 4, 2) := by decide +kernel
theorem dL_does_15 : decode cL_does 15 = .ok (.aload_n 1, 1) := by decide +kernel
theorem dL_does_16 : decode cL_does 16 = .ok (.iconst 1, 1) := by decide +kernel
theorem dL_does_17 : decode cL_does 17 = .ok (.iaload, 1) := by decide +kernel
theorem dL_does_18 : decode cL_does 18 = .ok (.iconst 1, 1) := by decide +kernel
theorem dL_does_19 : decode cL_does 19 = .ok (.iadd, 1) := by decide +kernel
theorem dL_does_20 : decode cL_does 20 = .ok (.irem, 1) := by decide +kernel
theorem dL_does_21 : decode cL_does 21 = .ok (.istore 6, 2) := by decide +kernel
theorem dL_does_23 : decode cL_does 23 = .ok (.iload 4, 2) := by decide +kernel
theorem dL_does_25 : decode cL_does 25 = .ok (.bipush 6, 2) := by decide +kernel
theorem dL_does_27 : decode cL_does 27 = .ok (.idiv, 1) := by decide +kernel
theorem dL_does_28 : decode cL_does 28 = .ok (.iconst 5, 1) := by decide +kernel
theorem dL_does_29 : decode cL_does 29 = .ok (.irem, 1) := by decide +kernel
theorem dL_does_30 : decode cL_does 30 = .ok (.istore 7, 2) := by decide +kernel
theorem dL_does_32 : decode cL_does 32 = .ok (.iload_n 3, 1) := by decide +kernel
theorem dL_does_33 : decode cL_does 33 = .ok (.bipush 26, 2) := by decide +kernel
theorem dL_does_35 : decode cL_does 35 = .ok (.irem, 1) := by decide +kernel
theorem dL_does_36 : decode cL_does 36 = .ok (.tableswitch 314 0 22 #[108, 118, 128, 128, 128, 138, 157, 170, 170, 170, 188, 201, 210, 223, 250, 259, 268, 268, 268, 280, 280, 292, 304], 108) := by decide +kernel
theorem dL_does_144 : decode cL_does 144 = .ok (.aload_n 0, 1) := by decide +kernel
theorem dL_does_145 : decode cL_does 145 = .ok (.aload_n 1, 1) := by decide +kernel
theorem dL_does_146 : decode cL_does 146 = .ok (.aload_n 2, 1) := by decide +kernel
theorem dL_does_147 : decode cL_does 147 = .ok (.iload 4, 2) := by decide +kernel
theorem dL_does_149 : decode cL_does 149 = .ok (.iconst 0, 1) := by decide +kernel
theorem dL_does_150 : decode cL_does 150 = .ok (.invokestatic 180, 3) := by decide +kernel
theorem dL_does_153 : decode cL_does 153 = .ok (.ireturn, 1) := by decide +kernel
theorem dL_does_154 : decode cL_does 154 = .ok (.aload_n 0, 1) := by decide +kernel
theorem dL_does_155 : decode cL_does 155 = .ok (.aload_n 1, 1) := by decide +kernel
theorem dL_does_156 : decode cL_does 156 = .ok (.aload_n 2, 1) := by decide +kernel
theorem dL_does_157 : decode cL_does 157 = .ok (.iload 4, 2) := by decide +kernel
theorem dL_does_159 : decode cL_does 159 = .ok (.iconst 1, 1) := by decide +kernel
theorem dL_does_160 : decode cL_does 160 = .ok (.invokestatic 180, 3) := by decide +kernel
theorem dL_does_163 : decode cL_does 163 = .ok (.ireturn, 1) := by decide +kernel
theorem dL_does_164 : decode cL_does 164 = .ok (.aload_n 0, 1) := by decide +kernel
theorem dL_does_165 : decode cL_does 165 = .ok (.aload_n 1, 1) := by decide +kernel
theorem dL_does_166 : decode cL_does 166 = .ok (.aload_n 2, 1) := by decide +kernel
theorem dL_does_167 : decode cL_does 167 = .ok (.iload 4, 2) := by decide +kernel
theorem dL_does_169 : decode cL_does 169 = .ok (.iconst 2, 1) := by decide +kernel
theorem dL_does_170 : decode cL_does 170 = .ok (.invokestatic 180, 3) := by decide +kernel
theorem dL_does_173 : decode cL_does 173 = .ok (.ireturn, 1) := by decide +kernel
theorem dL_does_174 : decode cL_does 174 = .ok (.aload_n 0, 1) := by decide +kernel
theorem dL_does_175 : decode cL_does 175 = .ok (.iload 4, 2) := by decide +kernel
theorem dL_does_177 : decode cL_does 177 = .ok (.bipush 9, 2) := by decide +kernel
theorem dL_does_179 : decode cL_does 179 = .ok (.irem, 1) := by decide +kernel
theorem dL_does_180 : decode cL_does 180 = .ok (.iload 5, 2) := by decide +kernel
theorem dL_does_182 : decode cL_does 182 = .ok (.bipush 9, 2) := by decide +kernel
theorem dL_does_184 : decode cL_does 184 = .ok (.irem, 1) := by decide +kernel
theorem dL_does_185 : decode cL_does 185 = .ok (.invokestatic 184, 3) := by decide +kernel
theorem dL_does_188 : decode cL_does 188 = .ok (.istore 8, 2) := by decide +kernel
theorem dL_does_190 : decode cL_does 190 = .ok (.iload 8, 2) := by decide +kernel
theorem dL_does_192 : decode cL_does 192 = .ok (.ireturn, 1) := by decide +kernel
theorem dL_does_193 : decode cL_does 193 = .ok (.aload_n 0, 1) := by decide +kernel
theorem dL_does_194 : decode cL_does 194 = .ok (.iload 4, 2) := by decide +kernel
theorem dL_does_196 : decode cL_does 196 = .ok (.aload_n 1, 1) := by decide +kernel
theorem dL_does_197 : decode cL_does 197 = .ok (.iconst 2, 1) := by decide +kernel
theorem dL_does_198 : decode cL_does 198 = .ok (.iaload, 1) := by decide +kernel
theorem dL_does_199 : decode cL_does 199 = .ok (.iconst 1, 1) := by decide +kernel
theorem dL_does_200 : decode cL_does 200 = .ok (.iadd, 1) := by decide +kernel
theorem dL_does_201 : decode cL_does 201 = .ok (.irem, 1) := by decide +kernel
theorem dL_does_202 : decode cL_does 202 = .ok (.invokestatic 186, 3) := by decide +kernel
theorem dL_does_205 : decode cL_does 205 = .ok (.ireturn, 1) := by decide +kernel
theorem dL_does_206 : decode cL_does 206 = .ok (.aload_n 0, 1) := by decide +kernel
theorem dL_does_207 : decode cL_does 207 = .ok (.iload 4, 2) := by decide +kernel
theorem dL_does_209 : decode cL_does 209 = .ok (.aload_n 1, 1) := by decide +kernel
theorem dL_does_210 : decode cL_does 210 = .ok (.iconst 2, 1) := by decide +kernel
theorem dL_does_211 : decode cL_does 211 = .ok (.iaload, 1) := by decide +kernel
theorem dL_does_212 : decode cL_does 212 = .ok (.iconst 1, 1) := by decide +kernel
theorem dL_does_213 : decode cL_does 213 = .ok (.iadd, 1) := by decide +kernel
theorem dL_does_214 : decode cL_does 214 = .ok (.irem, 1) := by decide +kernel
theorem dL_does_215 : decode cL_does 215 = .ok (.iload 5, 2) := by decide +kernel
theorem dL_does_217 : decode cL_does 217 = .ok (.bipush 6, 2) := by decide +kernel
theorem dL_does_219 : decode cL_does 219 = .ok (.irem, 1) := by decide +kernel
theorem dL_does_220 : decode cL_does 220 = .ok (.invokestatic 188, 3) := by decide +kernel
theorem dL_does_223 : decode cL_does 223 = .ok (.ireturn, 1) := by decide +kernel
theorem dL_does_224 : decode cL_does 224 = .ok (.aload_n 0, 1) := by decide +kernel
theorem dL_does_225 : decode cL_does 225 = .ok (.iload 4, 2) := by decide +kernel
theorem dL_does_227 : decode cL_does 227 = .ok (.aload_n 1, 1) := by decide +kernel
theorem dL_does_228 : decode cL_does 228 = .ok (.iconst 2, 1) := by decide +kernel
theorem dL_does_229 : decode cL_does 229 = .ok (.iaload, 1) := by decide +kernel
theorem dL_does_230 : decode cL_does 230 = .ok (.iconst 1, 1) := by decide +kernel
theorem dL_does_231 : decode cL_does 231 = .ok (.iadd, 1) := by decide +kernel
theorem dL_does_232 : decode cL_does 232 = .ok (.irem, 1) := by decide +kernel
theorem dL_does_233 : decode cL_does 233 = .ok (.invokestatic 190, 3) := by decide +kernel
theorem dL_does_236 : decode cL_does 236 = .ok (.ireturn, 1) := by decide +kernel
theorem dL_does_237 : decode cL_does 237 = .ok (.aload_n 0, 1) := by decide +kernel
theorem dL_does_238 : decode cL_does 238 = .ok (.iload 6, 2) := by decide +kernel
theorem dL_does_240 : decode cL_does 240 = .ok (.iload 7, 2) := by decide +kernel
theorem dL_does_242 : decode cL_does 242 = .ok (.invokestatic 192, 3) := by decide +kernel
theorem dL_does_245 : decode cL_does 245 = .ok (.ireturn, 1) := by decide +kernel
theorem dL_does_246 : decode cL_does 246 = .ok (.aload_n 0, 1) := by decide +kernel
theorem dL_does_247 : decode cL_does 247 = .ok (.iload 6, 2) := by decide +kernel
theorem dL_does_249 : decode cL_does 249 = .ok (.iload 7, 2) := by decide +kernel
theorem dL_does_251 : decode cL_does 251 = .ok (.iload 5, 2) := by decide +kernel
theorem dL_does_253 : decode cL_does 253 = .ok (.iconst 4, 1) := by decide +kernel
theorem dL_does_254 : decode cL_does 254 = .ok (.irem, 1) := by decide +kernel
theorem dL_does_255 : decode cL_does 255 = .ok (.invokestatic 194, 3) := by decide +kernel
theorem dL_does_258 : decode cL_does 258 = .ok (.ireturn, 1) := by decide +kernel
theorem dL_does_259 : decode cL_does 259 = .ok (.iload 5, 2) := by decide +kernel
theorem dL_does_261 : decode cL_does 261 = .ok (.iconst 3, 1) := by decide +kernel
theorem dL_does_262 : decode cL_does 262 = .ok (.irem, 1) := by decide +kernel
theorem dL_does_263 : decode cL_does 263 = .ok (.ifCond .le 14, 3) := by decide +kernel
theorem dL_does_266 : decode cL_does 266 = .ok (.aload_n 0, 1) := by decide +kernel
theorem dL_does_267 : decode cL_does 267 = .ok (.iload 6, 2) := by decide +kernel
theorem dL_does_269 : decode cL_does 269 = .ok (.iload 7, 2) := by decide +kernel
theorem dL_does_271 : decode cL_does 271 = .ok (.invokestatic 192, 3) := by decide +kernel
theorem dL_does_274 : decode cL_does 274 = .ok (.goto 11, 3) := by decide +kernel
theorem dL_does_277 : decode cL_does 277 = .ok (.aload_n 0, 1) := by decide +kernel
theorem dL_does_278 : decode cL_does 278 = .ok (.iload 6, 2) := by decide +kernel
theorem dL_does_280 : decode cL_does 280 = .ok (.iload 7, 2) := by decide +kernel
theorem dL_does_282 : decode cL_does 282 = .ok (.invokestatic 196, 3) := by decide +kernel
theorem dL_does_285 : decode cL_does 285 = .ok (.ireturn, 1) := by decide +kernel
theorem dL_does_286 : decode cL_does 286 = .ok (.aload_n 0, 1) := by decide +kernel
theorem dL_does_287 : decode cL_does 287 = .ok (.iload 6, 2) := by decide +kernel
theorem dL_does_289 : decode cL_does 289 = .ok (.iload 7, 2) := by decide +kernel
theorem dL_does_291 : decode cL_does 291 = .ok (.invokestatic 198, 3) := by decide +kernel
theorem dL_does_294 : decode cL_does 294 = .ok (.ireturn, 1) := by decide +kernel
theorem dL_does_295 : decode cL_does 295 = .ok (.aload_n 0, 1) := by decide +kernel
theorem dL_does_296 : decode cL_does 296 = .ok (.iload 6, 2) := by decide +kernel
theorem dL_does_298 : decode cL_does 298 = .ok (.iload 7, 2) := by decide +kernel
theorem dL_does_300 : decode cL_does 300 = .ok (.invokestatic 200, 3) := by decide +kernel
theorem dL_does_303 : decode cL_does 303 = .ok (.ireturn, 1) := by decide +kernel
theorem dL_does_304 : decode cL_does 304 = .ok (.aload_n 0, 1) := by decide +kernel
theorem dL_does_305 : decode cL_does 305 = .ok (.iload 6, 2) := by decide +kernel
theorem dL_does_307 : decode cL_does 307 = .ok (.iload 7, 2) := by decide +kernel
theorem dL_does_309 : decode cL_does 309 = .ok (.iload 5, 2) := by decide +kernel
theorem dL_does_311 : decode cL_does 311 = .ok (.iconst 0, 1) := by decide +kernel
theorem dL_does_312 : decode cL_does 312 = .ok (.invokestatic 202, 3) := by decide +kernel
theorem dL_does_315 : decode cL_does 315 = .ok (.ireturn, 1) := by decide +kernel
theorem dL_does_316 : decode cL_does 316 = .ok (.aload_n 0, 1) := by decide +kernel
theorem dL_does_317 : decode cL_does 317 = .ok (.iload 6, 2) := by decide +kernel
theorem dL_does_319 : decode cL_does 319 = .ok (.iload 7, 2) := by decide +kernel
theorem dL_does_321 : decode cL_does 321 = .ok (.iload 5, 2) := by decide +kernel
theorem dL_does_323 : decode cL_does 323 = .ok (.iconst 1, 1) := by decide +kernel
theorem dL_does_324 : decode cL_does 324 = .ok (.invokestatic 202, 3) := by decide +kernel
theorem dL_does_327 : decode cL_does 327 = .ok (.ireturn, 1) := by decide +kernel
theorem dL_does_328 : decode cL_does 328 = .ok (.aload_n 0, 1) := by decide +kernel
theorem dL_does_329 : decode cL_does 329 = .ok (.iload 6, 2) := by decide +kernel
theorem dL_does_331 : decode cL_does 331 = .ok (.iload 7, 2) := by decide +kernel
theorem dL_does_333 : decode cL_does 333 = .ok (.iload 5, 2) := by decide +kernel
theorem dL_does_335 : decode cL_does 335 = .ok (.iconst 2, 1) := by decide +kernel
theorem dL_does_336 : decode cL_does 336 = .ok (.invokestatic 202, 3) := by decide +kernel
theorem dL_does_339 : decode cL_does 339 = .ok (.ireturn, 1) := by decide +kernel
theorem dL_does_340 : decode cL_does 340 = .ok (.aload_n 0, 1) := by decide +kernel
theorem dL_does_341 : decode cL_does 341 = .ok (.iload 5, 2) := by decide +kernel
theorem dL_does_343 : decode cL_does 343 = .ok (.bipush 40, 2) := by decide +kernel
theorem dL_does_345 : decode cL_does 345 = .ok (.irem, 1) := by decide +kernel
theorem dL_does_346 : decode cL_does 346 = .ok (.invokestatic 205, 3) := by decide +kernel
theorem dL_does_349 : decode cL_does 349 = .ok (.ireturn, 1) := by decide +kernel
theorem dL_does_350 : decode cL_does 350 = .ok (.aload_n 0, 1) := by decide +kernel
theorem dL_does_351 : decode cL_does 351 = .ok (.iload 5, 2) := by decide +kernel
theorem dL_does_353 : decode cL_does 353 = .ok (.iconst 5, 1) := by decide +kernel
theorem dL_does_354 : decode cL_does 354 = .ok (.irem, 1) := by decide +kernel
theorem dL_does_355 : decode cL_does 355 = .ok (.invokestatic 205, 3) := by decide +kernel
theorem dL_does_358 : decode cL_does 358 = .ok (.ireturn, 1) := by decide +kernel
set_option maxRecDepth 20000 in
theorem ggL_law_X4_init : GoodIn wsL_law wsX4_init := goodIn_r _ [8, 9, 10, 11, 12, 13, 14, 15, 16, 17, 528, 529, 530, 531, 532, 533, 534, 535, 536, 537, 538, 539, 540] (by decide +kernel) (by decide +kernel)
set_option maxRecDepth 20000 in
theorem gL_law_X4_init : GoodIn wsL_law (wsX4_init) := ggL_law_X4_init
set_option maxRecDepth 20000 in
theorem ggL_law_L_drawn : GoodIn wsL_law wsL_drawn := goodIn_r _ [21, 22, 23] (by decide +kernel) (by decide +kernel)
set_option maxRecDepth 20000 in
theorem gL_law_L_drawn : GoodIn wsL_law (va_wsS RL 208 yL_drawn wsL_drawn) := goodIn_app (goodIn_of _ (by decide +kernel)) ggL_law_L_drawn
set_option maxRecDepth 20000 in
theorem ggL_law_L_mix_c : GoodIn wsL_law ((.code yL_mix cL_mix 7 (some .long) :: [] : List Cond)) := goodIn_r (big := wsL_law) ((.code yL_mix cL_mix 7 (some .long) :: [] : List Cond)) [26] (by decide +kernel) (by decide +kernel)
set_option maxRecDepth 20000 in
theorem ggL_law_L_mix_r1 : GoodIn wsL_law (wsL_mix_r1) := goodIn_r (big := wsL_law) (wsL_mix_r1) [27, 28, 29, 30, 31, 32, 33, 34, 35, 36, 2, 37, 38, 39, 40, 20, 41, 42, 43, 44, 45, 46, 47, 48] (by decide +kernel) (by decide +kernel)
set_option maxRecDepth 20000 in
theorem ggL_law_L_mix_r2 : GoodIn wsL_law (wsL_mix_r2) := goodIn_r (big := wsL_law) (wsL_mix_r2) [49, 50, 51, 52, 53, 54, 55, 56, 57, 58, 59, 60, 61, 62, 63, 64, 65, 66, 67, 68, 69, 70, 71, 72] (by decide +kernel) (by decide +kernel)
set_option maxRecDepth 20000 in
theorem ggL_law_L_mix_r3 : GoodIn wsL_law (wsL_mix_r3) := goodIn_r (big := wsL_law) (wsL_mix_r3) [73, 74, 75, 76, 77, 78, 79, 80, 81, 15, 82, 83, 84, 85, 86, 87, 88, 89, 90, 91, 13, 92, 93, 94] (by decide +kernel) (by decide +kernel)
set_option maxRecDepth 20000 in
theorem ggL_law_L_mix_r4 : GoodIn wsL_law (wsL_mix_r4) := goodIn_r (big := wsL_law) (wsL_mix_r4) [95, 96, 97, 98, 99, 100, 101, 102, 103, 104, 105, 106, 107, 108, 109, 110, 111, 112, 113, 114, 115, 116, 117, 118] (by decide +kernel) (by decide +kernel)
set_option maxRecDepth 20000 in
theorem ggL_law_L_mix_r5 : GoodIn wsL_law (wsL_mix_r5) := goodIn_r (big := wsL_law) (wsL_mix_r5) [119, 120, 121, 122, 123, 124, 125, 126, 127, 128, 129, 130, 17, 131, 132, 133, 134, 135, 136, 137, 138, 139, 140, 141] (by decide +kernel) (by decide +kernel)
set_option maxRecDepth 20000 in
theorem ggL_law_L_mix_r6 : GoodIn wsL_law (wsL_mix_r6) := goodIn_r (big := wsL_law) (wsL_mix_r6) [142] (by decide +kernel) (by decide +kernel)
set_option maxRecDepth 20000 in
theorem ggL_law_L_mix_x0 : GoodIn wsL_law (wsX40) := goodIn_r (big := wsL_law) (wsX40) [528, 529, 530, 531, 532, 533, 534, 535, 536, 537, 538, 539, 540] (by decide +kernel) (by decide +kernel)
set_option maxRecDepth 20000 in
theorem ggL_law_L_mix_x1 : GoodIn wsL_law (wsX00) := goodIn_r (big := wsL_law) (wsX00) [541, 542, 543, 544, 545, 546, 547, 548, 549, 550, 551, 552, 553, 554] (by decide +kernel) (by decide +kernel)
set_option maxRecDepth 20000 in
theorem ggL_law_L_mix_x2 : GoodIn wsL_law (wsX10) := goodIn_r (big := wsL_law) (wsX10) [555, 556, 557, 558, 559] (by decide +kernel) (by decide +kernel)
set_option maxRecDepth 20000 in
theorem ggL_law_L_mix_x3 : GoodIn wsL_law (wsX30) := goodIn_r (big := wsL_law) (wsX30) [560, 561, 562, 563] (by decide +kernel) (by decide +kernel)
set_option maxRecDepth 20000 in
theorem ggL_law_L_mix_x4 : GoodIn wsL_law (wsX20) := goodIn_r (big := wsL_law) (wsX20) [564, 565, 566, 567, 568, 569, 570, 571, 572, 573] (by decide +kernel) (by decide +kernel)
theorem ggL_law_L_mix : GoodIn wsL_law wsL_mix := (goodIn_ca (goodIn_ca (goodIn_ca (goodIn_ca (goodIn_ca (goodIn_ca (goodIn_ca (show GoodIn wsL_law (.code yL_mix cL_mix 7 (some .long) :: (wsL_mix_r1 ++ (wsL_mix_r2 ++ (wsL_mix_r3 ++ (wsL_mix_r4 ++ (wsL_mix_r5 ++ wsL_mix_r6)))))) from goodIn_app (a := .code yL_mix cL_mix 7 (some .long) :: []) (b := wsL_mix_r1 ++ (wsL_mix_r2 ++ (wsL_mix_r3 ++ (wsL_mix_r4 ++ (wsL_mix_r5 ++ wsL_mix_r6))))) ggL_law_L_mix_c (goodIn_app ggL_law_L_mix_r1 (goodIn_app ggL_law_L_mix_r2 (goodIn_app ggL_law_L_mix_r3 (goodIn_app ggL_law_L_mix_r4 (goodIn_app ggL_law_L_mix_r5 (ggL_law_L_mix_r6))))))) ggL_law_L_mix_x0) ggL_law_L_mix_x1) ggL_law_L_mix_x2) ggL_law_L_mix_x3) ggL_law_L_mix_x4) (goodIn_sub (fun _ h => List.mem_append_left _ (List.mem_append_left _ (List.mem_append_right _ h))) (by decide +kernel))) (goodIn_sub (fun _ h => List.mem_append_left _ (List.mem_append_right _ h)) (by decide +kernel)))
set_option maxRecDepth 20000 in
theorem gL_law_L_mix : GoodIn wsL_law (va_wsS RL 213 yL_mix wsL_mix) := goodIn_app (goodIn_of _ (by decide +kernel)) ggL_law_L_mix
set_option maxRecDepth 20000 in
theorem ggL_law_X4_day : GoodIn wsL_law wsX4_day := goodIn_r _ [37, 38, 528, 529, 530, 531, 532, 533, 534, 535, 536, 537, 538, 539, 540] (by decide +kernel) (by decide +kernel)
set_option maxRecDepth 20000 in
theorem gL_law_X4_day : GoodIn wsL_law (wsV RL 105 RX4 yX4_day wsX4_day) := goodIn_app (goodIn_of _ (by decide +kernel)) ggL_law_X4_day
set_option maxRecDepth 20000 in
theorem ggL_law_L_known_c : GoodIn wsL_law ((.code yL_known cL_known 7 (some .long) :: [] : List Cond)) := goodIn_r (big := wsL_law) ((.code yL_known cL_known 7 (some .long) :: [] : List Cond)) [145] (by decide +kernel) (by decide +kernel)
set_option maxRecDepth 20000 in
theorem ggL_law_L_known_r1 : GoodIn wsL_law (wsL_known_r1) := goodIn_r (big := wsL_law) (wsL_known_r1) [27, 28, 146, 147, 20, 148, 59, 60, 43, 149, 150, 151, 2, 152, 76, 77, 72, 73, 74, 75, 78, 79, 80, 81] (by decide +kernel) (by decide +kernel)
set_option maxRecDepth 20000 in
theorem ggL_law_L_known_r2 : GoodIn wsL_law (wsL_known_r2) := goodIn_r (big := wsL_law) (wsL_known_r2) [15, 82, 83, 84, 85, 86, 87, 138, 139, 140, 141, 13, 153, 154, 155, 156, 48, 49, 38, 157, 158, 159, 160, 161] (by decide +kernel) (by decide +kernel)
set_option maxRecDepth 20000 in
theorem ggL_law_L_known_r3 : GoodIn wsL_law (wsL_known_r3) := goodIn_r (big := wsL_law) (wsL_known_r3) [162, 163, 164, 165, 166, 167, 168, 92, 93, 94, 95, 96, 97, 98, 99, 100, 101, 102, 103, 104, 105, 106, 107, 108] (by decide +kernel) (by decide +kernel)
set_option maxRecDepth 20000 in
theorem ggL_law_L_known_r4 : GoodIn wsL_law (wsL_known_r4) := goodIn_r (big := wsL_law) (wsL_known_r4) [109, 110, 111, 169, 170, 171, 172, 173, 174, 175, 176, 177, 178, 179, 180, 17, 119, 181, 120, 182, 121, 183, 184, 185] (by decide +kernel) (by decide +kernel)
set_option maxRecDepth 20000 in
theorem ggL_law_L_known_r5 : GoodIn wsL_law (wsL_known_r5) := goodIn_r (big := wsL_law) (wsL_known_r5) [186, 187, 188, 189, 190, 191, 192, 193, 194, 195, 196, 197, 198, 199, 200, 201, 202] (by decide +kernel) (by decide +kernel)
set_option maxRecDepth 20000 in
theorem ggL_law_L_known_x0 : GoodIn wsL_law (wsX40) := goodIn_r (big := wsL_law) (wsX40) [528, 529, 530, 531, 532, 533, 534, 535, 536, 537, 538, 539, 540] (by decide +kernel) (by decide +kernel)
set_option maxRecDepth 20000 in
theorem ggL_law_L_known_x1 : GoodIn wsL_law (wsX10) := goodIn_r (big := wsL_law) (wsX10) [555, 556, 557, 558, 559] (by decide +kernel) (by decide +kernel)
set_option maxRecDepth 20000 in
theorem ggL_law_L_known_x2 : GoodIn wsL_law (wsX00) := goodIn_r (big := wsL_law) (wsX00) [541, 542, 543, 544, 545, 546, 547, 548, 549, 550, 551, 552, 553, 554] (by decide +kernel) (by decide +kernel)
set_option maxRecDepth 20000 in
theorem ggL_law_L_known_x3 : GoodIn wsL_law (wsX30) := goodIn_r (big := wsL_law) (wsX30) [560, 561, 562, 563] (by decide +kernel) (by decide +kernel)
set_option maxRecDepth 20000 in
theorem ggL_law_L_known_x4 : GoodIn wsL_law (wsX20) := goodIn_r (big := wsL_law) (wsX20) [564, 565, 566, 567, 568, 569, 570, 571, 572, 573] (by decide +kernel) (by decide +kernel)
theorem ggL_law_L_known : GoodIn wsL_law wsL_known := (goodIn_ca (goodIn_ca (goodIn_ca (goodIn_ca (goodIn_ca (goodIn_ca (goodIn_ca (show GoodIn wsL_law (.code yL_known cL_known 7 (some .long) :: (wsL_known_r1 ++ (wsL_known_r2 ++ (wsL_known_r3 ++ (wsL_known_r4 ++ wsL_known_r5))))) from goodIn_app (a := .code yL_known cL_known 7 (some .long) :: []) (b := wsL_known_r1 ++ (wsL_known_r2 ++ (wsL_known_r3 ++ (wsL_known_r4 ++ wsL_known_r5)))) ggL_law_L_known_c (goodIn_app ggL_law_L_known_r1 (goodIn_app ggL_law_L_known_r2 (goodIn_app ggL_law_L_known_r3 (goodIn_app ggL_law_L_known_r4 (ggL_law_L_known_r5)))))) ggL_law_L_known_x0) ggL_law_L_known_x1) ggL_law_L_known_x2) ggL_law_L_known_x3) ggL_law_L_known_x4) (goodIn_sub (fun _ h => List.mem_append_left _ (List.mem_append_right _ h)) (by decide +kernel))) (goodIn_sub (fun _ h => List.mem_append_left _ (List.mem_append_left _ (List.mem_append_right _ h))) (by decide +kernel)))
set_option maxRecDepth 20000 in
theorem gL_law_L_known : GoodIn wsL_law (va_wsS RL 217 yL_known wsL_known) := goodIn_app (goodIn_of _ (by decide +kernel)) ggL_law_L_known
set_option maxRecDepth 20000 in
theorem ggL_law_L_does_c : GoodIn wsL_law ((.code yL_does cL_does 9 (some .int) :: [] : List Cond)) := goodIn_r (big := wsL_law) ((.code yL_does cL_does 9 (some .int) :: [] : List Cond)) [205] (by decide +kernel) (by decide +kernel)
set_option maxRecDepth 20000 in
theorem ggL_law_L_does_r1 : GoodIn wsL_law (wsL_does_r1) := goodIn_r (big := wsL_law) (wsL_does_r1) [206, 207, 20, 208, 209, 210, 211, 212, 42, 43, 213, 214, 215, 216, 2, 217, 48, 49, 218, 219, 220, 13, 12, 221] (by decide +kernel) (by decide +kernel)
set_option maxRecDepth 20000 in
theorem ggL_law_L_does_r2 : GoodIn wsL_law (wsL_does_r2) := goodIn_r (big := wsL_law) (wsL_does_r2) [99, 157, 158, 159, 222, 223, 224, 225, 10, 11, 101, 226, 227, 228, 229, 230, 60, 34, 35, 36, 37, 38, 231, 232] (by decide +kernel) (by decide +kernel)
set_option maxRecDepth 20000 in
theorem ggL_law_L_does_r3 : GoodIn wsL_law (wsL_does_r3) := goodIn_r (big := wsL_law) (wsL_does_r3) [233, 234, 235, 236, 237, 238, 15, 14, 239, 85, 240, 241, 242, 109, 181, 243, 244, 245, 246, 247, 87, 248, 249, 250] (by decide +kernel) (by decide +kernel)
set_option maxRecDepth 20000 in
theorem ggL_law_L_does_r4 : GoodIn wsL_law (wsL_does_r4) := goodIn_r (big := wsL_law) (wsL_does_r4) [251, 174, 175, 176, 252, 253, 254, 255, 256, 3, 111, 257, 258, 259, 260, 261, 59, 262, 263, 264, 265, 76, 77, 266] (by decide +kernel) (by decide +kernel)
set_option maxRecDepth 20000 in
theorem ggL_law_L_does_r5 : GoodIn wsL_law (wsL_does_r5) := goodIn_r (big := wsL_law) (wsL_does_r5) [17, 16, 267, 186, 78, 79, 80, 81, 268, 269, 270, 271, 272, 273, 274, 275, 193, 276, 277, 278, 188, 195, 279, 194] (by decide +kernel) (by decide +kernel)
set_option maxRecDepth 20000 in
theorem ggL_law_L_does_r6 : GoodIn wsL_law (wsL_does_r6) := goodIn_r (big := wsL_law) (wsL_does_r6) [280, 281, 282, 283, 284, 285, 286, 287, 138, 139, 140, 141, 288, 289, 290, 291, 292, 293, 294, 295, 296, 297, 298, 299] (by decide +kernel) (by decide +kernel)
set_option maxRecDepth 20000 in
theorem ggL_law_L_does_r7 : GoodIn wsL_law (wsL_does_r7) := goodIn_r (big := wsL_law) (wsL_does_r7) [300, 124, 127, 128, 129, 130, 301, 302, 303, 304, 305, 306, 307, 125, 119, 183, 184, 185, 187, 308, 309, 310, 311, 312] (by decide +kernel) (by decide +kernel)
set_option maxRecDepth 20000 in
theorem ggL_law_L_does_r8 : GoodIn wsL_law (wsL_does_r8) := goodIn_r (big := wsL_law) (wsL_does_r8) [313, 314, 315, 316, 317, 318, 319, 320, 321, 322, 323, 324, 325, 326, 327, 328, 329, 330, 331, 126, 332, 333, 334, 335] (by decide +kernel) (by decide +kernel)
set_option maxRecDepth 20000 in
theorem ggL_law_L_does_r9 : GoodIn wsL_law (wsL_does_r9) := goodIn_r (big := wsL_law) (wsL_does_r9) [336, 337, 338, 65, 67, 72, 73, 74, 75, 82, 83, 84, 86, 339, 340, 341, 342, 343, 344, 345, 346, 347, 348, 349] (by decide +kernel) (by decide +kernel)
set_option maxRecDepth 20000 in
theorem ggL_law_L_does_r10 : GoodIn wsL_law (wsL_does_r10) := goodIn_r (big := wsL_law) (wsL_does_r10) [350, 351, 352, 353, 354, 355, 356, 357, 358, 359, 360, 361, 362, 363, 364, 365, 366, 367, 368, 369, 370, 371, 372, 373] (by decide +kernel) (by decide +kernel)
set_option maxRecDepth 20000 in
theorem ggL_law_L_does_r11 : GoodIn wsL_law (wsL_does_r11) := goodIn_r (big := wsL_law) (wsL_does_r11) [374, 53, 375, 376, 377, 378, 379, 380, 381, 54, 382, 383, 384, 385, 160, 161, 162, 163, 164, 165, 166, 167, 168, 92] (by decide +kernel) (by decide +kernel)
set_option maxRecDepth 20000 in
theorem ggL_law_L_does_r12 : GoodIn wsL_law (wsL_does_r12) := goodIn_r (big := wsL_law) (wsL_does_r12) [93, 94, 95, 96, 97, 98, 100, 102, 103, 104, 105, 106, 107, 108, 110, 169, 170, 171, 172, 173, 177, 178, 179, 180] (by decide +kernel) (by decide +kernel)
set_option maxRecDepth 20000 in
theorem ggL_law_L_does_r13 : GoodIn wsL_law (wsL_does_r13) := goodIn_r (big := wsL_law) (wsL_does_r13) [120, 182, 121, 189, 190, 191, 192, 386, 387, 388, 389, 390, 391, 392, 393, 394, 395, 153, 154, 155, 156, 396, 397, 398] (by decide +kernel) (by decide +kernel)
set_option maxRecDepth 20000 in
theorem ggL_law_L_does_r14 : GoodIn wsL_law (wsL_does_r14) := goodIn_r (big := wsL_law) (wsL_does_r14) [399, 400, 401, 402, 403, 404, 405, 406, 407, 408, 409, 410, 411, 412, 413, 414, 415, 416, 417, 418, 419, 420, 421, 422] (by decide +kernel) (by decide +kernel)
set_option maxRecDepth 20000 in
theorem ggL_law_L_does_r15 : GoodIn wsL_law (wsL_does_r15) := goodIn_r (big := wsL_law) (wsL_does_r15) [423, 424, 425, 426, 427, 428, 429, 56, 57, 58, 61, 62, 63, 64, 66, 68, 69, 70, 71, 88, 89, 90, 91, 430] (by decide +kernel) (by decide +kernel)
set_option maxRecDepth 20000 in
theorem ggL_law_L_does_r16 : GoodIn wsL_law (wsL_does_r16) := goodIn_r (big := wsL_law) (wsL_does_r16) [431, 432, 433, 434, 435, 436, 437, 438, 439, 440, 441, 442, 443, 444, 445, 146, 147, 148, 149, 150, 151, 152, 446, 447] (by decide +kernel) (by decide +kernel)
set_option maxRecDepth 20000 in
theorem ggL_law_L_does_r17 : GoodIn wsL_law (wsL_does_r17) := goodIn_r (big := wsL_law) (wsL_does_r17) [448, 449, 450, 451, 452, 39, 40, 41, 44, 45, 46, 47, 50, 51, 52, 55, 453, 454, 455, 456, 457, 458, 459, 460] (by decide +kernel) (by decide +kernel)
set_option maxRecDepth 20000 in
theorem ggL_law_L_does_r18 : GoodIn wsL_law (wsL_does_r18) := goodIn_r (big := wsL_law) (wsL_does_r18) [461, 462, 463, 464, 465, 466, 467, 468, 469, 470, 471, 472, 473, 474, 475, 476, 477, 478, 479, 480, 481, 482, 483, 484] (by decide +kernel) (by decide +kernel)
set_option maxRecDepth 20000 in
theorem ggL_law_L_does_r19 : GoodIn wsL_law (wsL_does_r19) := goodIn_r (big := wsL_law) (wsL_does_r19) [485, 486, 487, 488, 489, 490, 491, 492, 493, 494, 495, 496, 497, 498, 499, 500, 501, 502, 503, 504] (by decide +kernel) (by decide +kernel)
set_option maxRecDepth 20000 in
theorem ggL_law_L_does_x0 : GoodIn wsL_law (wsX40) := goodIn_r (big := wsL_law) (wsX40) [528, 529, 530, 531, 532, 533, 534, 535, 536, 537, 538, 539, 540] (by decide +kernel) (by decide +kernel)
set_option maxRecDepth 20000 in
theorem ggL_law_L_does_x1 : GoodIn wsL_law (wsX30) := goodIn_r (big := wsL_law) (wsX30) [560, 561, 562, 563] (by decide +kernel) (by decide +kernel)
set_option maxRecDepth 20000 in
theorem ggL_law_L_does_x2 : GoodIn wsL_law (wsX10) := goodIn_r (big := wsL_law) (wsX10) [555, 556, 557, 558, 559] (by decide +kernel) (by decide +kernel)
set_option maxRecDepth 20000 in
theorem ggL_law_L_does_x3 : GoodIn wsL_law (wsX00) := goodIn_r (big := wsL_law) (wsX00) [541, 542, 543, 544, 545, 546, 547, 548, 549, 550, 551, 552, 553, 554] (by decide +kernel) (by decide +kernel)
set_option maxRecDepth 20000 in
theorem ggL_law_L_does_x4 : GoodIn wsL_law (wsX20) := goodIn_r (big := wsL_law) (wsX20) [564, 565, 566, 567, 568, 569, 570, 571, 572, 573] (by decide +kernel) (by decide +kernel)
theorem ggL_law_L_does : GoodIn wsL_law wsL_does := (goodIn_ca (goodIn_ca (goodIn_ca (goodIn_ca (goodIn_ca (goodIn_ca (goodIn_ca (goodIn_ca (show GoodIn wsL_law (.code yL_does cL_does 9 (some .int) :: (wsL_does_r1 ++ (wsL_does_r2 ++ (wsL_does_r3 ++ (wsL_does_r4 ++ (wsL_does_r5 ++ (wsL_does_r6 ++ (wsL_does_r7 ++ (wsL_does_r8 ++ (wsL_does_r9 ++ (wsL_does_r10 ++ (wsL_does_r11 ++ (wsL_does_r12 ++ (wsL_does_r13 ++ (wsL_does_r14 ++ (wsL_does_r15 ++ (wsL_does_r16 ++ (wsL_does_r17 ++ (wsL_does_r18 ++ wsL_does_r19))))))))))))))))))) from goodIn_app (a := .code yL_does cL_does 9 (some .int) :: []) (b := wsL_does_r1 ++ (wsL_does_r2 ++ (wsL_does_r3 ++ (wsL_does_r4 ++ (wsL_does_r5 ++ (wsL_does_r6 ++ (wsL_does_r7 ++ (wsL_does_r8 ++ (wsL_does_r9 ++ (wsL_does_r10 ++ (wsL_does_r11 ++ (wsL_does_r12 ++ (wsL_does_r13 ++ (wsL_does_r14 ++ (wsL_does_r15 ++ (wsL_does_r16 ++ (wsL_does_r17 ++ (wsL_does_r18 ++ wsL_does_r19)))))))))))))))))) ggL_law_L_does_c (goodIn_app ggL_law_L_does_r1 (goodIn_app ggL_law_L_does_r2 (goodIn_app ggL_law_L_does_r3 (goodIn_app ggL_law_L_does_r4 (goodIn_app ggL_law_L_does_r5 (goodIn_app ggL_law_L_does_r6 (goodIn_app ggL_law_L_does_r7 (goodIn_app ggL_law_L_does_r8 (goodIn_app ggL_law_L_does_r9 (goodIn_app ggL_law_L_does_r10 (goodIn_app ggL_law_L_does_r11 (goodIn_app ggL_law_L_does_r12 (goodIn_app ggL_law_L_does_r13 (goodIn_app ggL_law_L_does_r14 (goodIn_app ggL_law_L_does_r15 (goodIn_app ggL_law_L_does_r16 (goodIn_app ggL_law_L_does_r17 (goodIn_app ggL_law_L_does_r18 (ggL_law_L_does_r19)))))))))))))))))))) ggL_law_L_does_x0) ggL_law_L_does_x1) ggL_law_L_does_x2) ggL_law_L_does_x3) ggL_law_L_does_x4) (goodIn_sub (fun _ h => List.mem_append_left _ (List.mem_append_left _ (List.mem_append_right _ h))) (by decide +kernel))) (goodIn_sub (fun _ h => List.mem_append_right _ h) (by decide +kernel))) (goodIn_sub (fun _ h => List.mem_append_left _ (List.mem_append_right _ h)) (by decide +kernel)))
set_option maxRecDepth 20000 in
theorem gL_law_L_does : GoodIn wsL_law (va_wsS RL 221 yL_does wsL_does) := goodIn_app (goodIn_of _ (by decide +kernel)) ggL_law_L_does
set_option maxRecDepth 20000 in
theorem ggL_law_L_isRefused : GoodIn wsL_law wsL_isRefused := goodIn_r _ [230, 60, 43, 213] (by decide +kernel) (by decide +kernel)
set_option maxRecDepth 20000 in
theorem gL_law_L_isRefused : GoodIn wsL_law (va_wsS RL 162 yL_isRefused wsL_isRefused) := goodIn_app (goodIn_of _ (by decide +kernel)) ggL_law_L_isRefused
set_option maxRecDepth 20000 in
theorem ggL_law_L_isLawful_c : GoodIn wsL_law ((.code yL_isLawful cL_isLawful 11 (some .boolean) :: [] : List Cond)) := goodIn_r (big := wsL_law) ((.code yL_isLawful cL_isLawful 11 (some .boolean) :: [] : List Cond)) [507] (by decide +kernel) (by decide +kernel)
set_option maxRecDepth 20000 in
theorem ggL_law_L_isLawful_r1 : GoodIn wsL_law (wsL_isLawful_r1) := goodIn_r (big := wsL_law) (wsL_isLawful_r1) [39, 40, 20, 41, 42, 43, 44, 45, 46, 2, 47, 48, 49, 50, 51, 52, 53, 54, 55, 508, 509, 510, 56, 57] (by decide +kernel) (by decide +kernel)
set_option maxRecDepth 20000 in
theorem ggL_law_L_isLawful_r2 : GoodIn wsL_law (wsL_isLawful_r2) := goodIn_r (big := wsL_law) (wsL_isLawful_r2) [58, 59, 60, 61, 62, 63, 64, 65, 66, 67, 68, 69, 70, 71, 72, 73, 74, 75, 76, 77, 78, 79, 80, 81] (by decide +kernel) (by decide +kernel)
set_option maxRecDepth 20000 in
theorem ggL_law_L_isLawful_r3 : GoodIn wsL_law (wsL_isLawful_r3) := goodIn_r (big := wsL_law) (wsL_isLawful_r3) [15, 82, 83, 84, 85, 86, 87, 88, 89, 90, 91, 13, 38, 92, 93, 94, 95, 96, 97, 98, 99, 100, 101, 102] (by decide +kernel) (by decide +kernel)
set_option maxRecDepth 20000 in
theorem ggL_law_L_isLawful_r4 : GoodIn wsL_law (wsL_isLawful_r4) := goodIn_r (big := wsL_law) (wsL_isLawful_r4) [103, 104, 105, 106, 107, 108, 109, 110, 111, 34, 35, 36, 37, 511, 512, 513, 389, 390, 391, 392, 393, 394, 395, 153] (by decide +kernel) (by decide +kernel)
set_option maxRecDepth 20000 in
theorem ggL_law_L_isLawful_r5 : GoodIn wsL_law (wsL_isLawful_r5) := goodIn_r (big := wsL_law) (wsL_isLawful_r5) [154, 155, 156, 157, 158, 159, 382, 383, 384, 385, 160, 161, 162, 163, 164, 165, 166, 167, 168, 169, 170, 171, 172, 173] (by decide +kernel) (by decide +kernel)
set_option maxRecDepth 20000 in
theorem ggL_law_L_isLawful_r6 : GoodIn wsL_law (wsL_isLawful_r6) := goodIn_r (big := wsL_law) (wsL_isLawful_r6) [174, 175, 176, 177, 178, 179, 180, 17, 119, 181, 120, 182, 121, 183, 184, 185, 186, 187, 188, 189, 190, 191, 192, 193] (by decide +kernel) (by decide +kernel)
set_option maxRecDepth 20000 in
theorem ggL_law_L_isLawful_r7 : GoodIn wsL_law (wsL_isLawful_r7) := goodIn_r (big := wsL_law) (wsL_isLawful_r7) [194, 195, 396, 397, 398, 399, 400, 401, 402, 403, 404, 405, 406, 407, 408, 409, 410, 411, 412, 413, 414, 415, 416, 417] (by decide +kernel) (by decide +kernel)
set_option maxRecDepth 20000 in
theorem ggL_law_L_isLawful_r8 : GoodIn wsL_law (wsL_isLawful_r8) := goodIn_r (big := wsL_law) (wsL_isLawful_r8) [418, 138, 139, 140, 141, 288, 289, 290, 291, 292, 419, 420, 421, 422, 423, 424, 425, 426, 427, 428, 429, 514, 515, 516] (by decide +kernel) (by decide +kernel)
set_option maxRecDepth 20000 in
theorem ggL_law_L_isLawful_r9 : GoodIn wsL_law (wsL_isLawful_r9) := goodIn_r (big := wsL_law) (wsL_isLawful_r9) [517, 518, 519, 520, 521, 522, 523, 524, 442, 443, 444, 445, 471, 472, 473, 146, 147, 148, 149, 150, 151, 152, 131, 132] (by decide +kernel) (by decide +kernel)
set_option maxRecDepth 20000 in
theorem ggL_law_L_isLawful_r10 : GoodIn wsL_law (wsL_isLawful_r10) := goodIn_r (big := wsL_law) (wsL_isLawful_r10) [133, 134, 135, 136, 137, 142, 525, 526, 527] (by decide +kernel) (by decide +kernel)
set_option maxRecDepth 20000 in
theorem ggL_law_L_isLawful_x0 : GoodIn wsL_law (wsX40) := goodIn_r (big := wsL_law) (wsX40) [528, 529, 530, 531, 532, 533, 534, 535, 536, 537, 538, 539, 540] (by decide +kernel) (by decide +kernel)
set_option maxRecDepth 20000 in
theorem ggL_law_L_isLawful_x1 : GoodIn wsL_law (wsX00) := goodIn_r (big := wsL_law) (wsX00) [541, 542, 543, 544, 545, 546, 547, 548, 549, 550, 551, 552, 553, 554] (by decide +kernel) (by decide +kernel)
set_option maxRecDepth 20000 in
theorem ggL_law_L_isLawful_x2 : GoodIn wsL_law (wsX10) := goodIn_r (big := wsL_law) (wsX10) [555, 556, 557, 558, 559] (by decide +kernel) (by decide +kernel)
set_option maxRecDepth 20000 in
theorem ggL_law_L_isLawful_x3 : GoodIn wsL_law (wsX30) := goodIn_r (big := wsL_law) (wsX30) [560, 561, 562, 563] (by decide +kernel) (by decide +kernel)
set_option maxRecDepth 20000 in
theorem ggL_law_L_isLawful_x4 : GoodIn wsL_law (wsX20) := goodIn_r (big := wsL_law) (wsX20) [564, 565, 566, 567, 568, 569, 570, 571, 572, 573] (by decide +kernel) (by decide +kernel)
theorem ggL_law_L_isLawful : GoodIn wsL_law wsL_isLawful := (goodIn_ca (goodIn_ca (goodIn_ca (goodIn_ca (goodIn_ca (goodIn_ca (goodIn_ca (show GoodIn wsL_law (.code yL_isLawful cL_isLawful 11 (some .boolean) :: (wsL_isLawful_r1 ++ (wsL_isLawful_r2 ++ (wsL_isLawful_r3 ++ (wsL_isLawful_r4 ++ (wsL_isLawful_r5 ++ (wsL_isLawful_r6 ++ (wsL_isLawful_r7 ++ (wsL_isLawful_r8 ++ (wsL_isLawful_r9 ++ wsL_isLawful_r10)))))))))) from goodIn_app (a := .code yL_isLawful cL_isLawful 11 (some .boolean) :: []) (b := wsL_isLawful_r1 ++ (wsL_isLawful_r2 ++ (wsL_isLawful_r3 ++ (wsL_isLawful_r4 ++ (wsL_isLawful_r5 ++ (wsL_isLawful_r6 ++ (wsL_isLawful_r7 ++ (wsL_isLawful_r8 ++ (wsL_isLawful_r9 ++ wsL_isLawful_r10))))))))) ggL_law_L_isLawful_c (goodIn_app ggL_law_L_isLawful_r1 (goodIn_app ggL_law_L_isLawful_r2 (goodIn_app ggL_law_L_isLawful_r3 (goodIn_app ggL_law_L_isLawful_r4 (goodIn_app ggL_law_L_isLawful_r5 (goodIn_app ggL_law_L_isLawful_r6 (goodIn_app ggL_law_L_isLawful_r7 (goodIn_app ggL_law_L_isLawful_r8 (goodIn_app ggL_law_L_isLawful_r9 (ggL_law_L_isLawful_r10))))))))))) ggL_law_L_isLawful_x0) ggL_law_L_isLawful_x1) ggL_law_L_isLawful_x2) ggL_law_L_isLawful_x3) ggL_law_L_isLawful_x4) (goodIn_sub (fun _ h => List.mem_append_left _ (List.mem_append_left _ (List.mem_append_right _ h))) (by decide +kernel))) (goodIn_sub (fun _ h => List.mem_append_left _ (List.mem_append_right _ h)) (by decide +kernel)))
set_option maxRecDepth 20000 in
theorem gL_law_L_isLawful : GoodIn wsL_law (va_wsS RL 226 yL_isLawful wsL_isLawful) := goodIn_app (goodIn_of _ (by decide +kernel)) ggL_law_L_isLawful
theorem dL_law_0 : decode cL_law 0 = .ok (.iconst 1, 1) := by decide +kernel
theorem dL_law_1 : decode cL_law 1 = .ok (.istore_n 1, 1) := by decide +kernel
theorem dL_law_2 : decode cL_law 2 = .ok (.iconst 0, 1) := by decide +kernel
theorem dL_law_3 : decode cL_law 3 = .ok (.istore_n 2, 1) := by decide +kernel
theorem dL_law_4 : decode cL_law 4 = .ok (.iload_n 2, 1) := by decide +kernel
theorem dL_law_5 : decode cL_law 5 = .ok (.iconst 3, 1) := by decide +kernel
theorem dL_law_6 : decode cL_law 6 = .ok (.if_icmp .ge 339, 3) := by decide +kernel
theorem dL_law_9 : decode cL_law 9 = .ok (.iload_n 1, 1) := by decide +kernel
theorem dL_law_10 : decode cL_law 10 = .ok (.ifCond .eq 335, 3) := by decide +kernel
theorem dL_law_13 : decode cL_law 13 = .ok (.new 8, 3) := by decide +kernel
theorem dL_law_16 : decode cL_law 16 = .ok (.dup, 1) := by decide +kernel
theorem dL_law_17 : decode cL_law 17 = .ok (.invokespecial 207, 3) := by decide +kernel
theorem dL_law_20 : decode cL_law 20 = .ok (.astore_n 3, 1) := by decide +kernel
theorem dL_law_21 : decode cL_law 21 = .ok (.iconst 3, 1) := by decide +kernel
theorem dL_law_22 : decode cL_law 22 = .ok (.newarray .int, 2) := by decide +kernel
theorem dL_law_24 : decode cL_law 24 = .ok (.astore 4, 2) := by decide +kernel
theorem dL_law_26 : decode cL_law 26 = .ok (.bipush 6, 2) := by decide +kernel
theorem dL_law_28 : decode cL_law 28 = .ok (.newarray .int, 2) := by decide +kernel
theorem dL_law_30 : decode cL_law 30 = .ok (.astore 5, 2) := by decide +kernel
theorem dL_law_32 : decode cL_law 32 = .ok (.bipush 48, 2) := by decide +kernel
theorem dL_law_34 : decode cL_law 34 = .ok (.newarray .int, 2) := by decide +kernel
theorem dL_law_36 : decode cL_law 36 = .ok (.astore 6, 2) := by decide +kernel
theorem dL_law_38 : decode cL_law 38 = .ok (.bipush 6, 2) := by decide +kernel
theorem dL_law_40 : decode cL_law 40 = .ok (.newarray .int, 2) := by decide +kernel
theorem dL_law_42 : decode cL_law 42 = .ok (.astore 7, 2) := by decide +kernel
theorem dL_law_44 : decode cL_law 44 = .ok (.iconst 0, 1) := by decide +kernel
theorem dL_law_45 : decode cL_law 45 = .ok (.istore 8, 2) := by decide +kernel
theorem dL_law_47 : decode cL_law 47 = .ok (.iload 8, 2) := by decide +kernel
theorem dL_law_49 : decode cL_law 49 = .ok (.bipush 56, 2) := by decide +kernel
theorem dL_law_51 : decode cL_law 51 = .ok (.if_icmp .ge 288, 3) := by decide +kernel
theorem dL_law_54 : decode cL_law 54 = .ok (.iload_n 1, 1) := by decide +kernel
theorem dL_law_55 : decode cL_law 55 = .ok (.ifCond .eq 284, 3) := by decide +kernel
theorem dL_law_58 : decode cL_law 58 = .ok (.aload_n 0, 1) := by decide +kernel
theorem dL_law_59 : decode cL_law 59 = .ok (.bipush 56, 2) := by decide +kernel
theorem dL_law_61 : decode cL_law 61 = .ok (.iload_n 2, 1) := by decide +kernel
theorem dL_law_62 : decode cL_law 62 = .ok (.imul, 1) := by decide +kernel
theorem dL_law_63 : decode cL_law 63 = .ok (.iload 8, 2) := by decide +kernel
theorem dL_law_65 : decode cL_law 65 = .ok (.iadd, 1) := by decide +kernel
theorem dL_law_66 : decode cL_law 66 = .ok (.invokestatic 208, 3) := by decide +kernel
theorem dL_law_69 : decode cL_law 69 = .ok (.ldc 212, 2) := by decide +kernel
theorem dL_law_71 : decode cL_law 71 = .ok (.irem, 1) := by decide +kernel
theorem dL_law_72 : decode cL_law 72 = .ok (.istore 9, 2) := by decide +kernel
theorem dL_law_74 : decode cL_law 74 = .ok (.iload 8, 2) := by decide +kernel
theorem dL_law_76 : decode cL_law 76 = .ok (.iconst 4, 1) := by decide +kernel
theorem dL_law_77 : decode cL_law 77 = .ok (.if_icmp .ge 14, 3) := by decide +kernel
theorem dL_law_80 : decode cL_law 80 = .ok (.bipush 26, 2) := by decide +kernel
theorem dL_law_82 : decode cL_law 82 = .ok (.iload 9, 2) := by decide +kernel
theorem dL_law_84 : decode cL_law 84 = .ok (.bipush 26, 2) := by decide +kernel
theorem dL_law_86 : decode cL_law 86 = .ok (.idiv, 1) := by decide +kernel
theorem dL_law_87 : decode cL_law 87 = .ok (.imul, 1) := by decide +kernel
theorem dL_law_88 : decode cL_law 88 = .ok (.goto 45, 3) := by decide +kernel
theorem dL_law_91 : decode cL_law 91 = .ok (.iload 8, 2) := by decide +kernel
theorem dL_law_93 : decode cL_law 93 = .ok (.bipush 6, 2) := by decide +kernel
theorem dL_law_95 : decode cL_law 95 = .ok (.if_icmp .ge 16, 3) := by decide +kernel
theorem dL_law_98 : decode cL_law 98 = .ok (.bipush 26, 2) := by decide +kernel
theorem dL_law_100 : decode cL_law 100 = .ok (.iload 9, 2) := by decide +kernel
theorem dL_law_102 : decode cL_law 102 = .ok (.bipush 26, 2) := by decide +kernel
theorem dL_law_104 : decode cL_law 104 = .ok (.idiv, 1) := by decide +kernel
theorem dL_law_105 : decode cL_law 105 = .ok (.imul, 1) := by decide +kernel
theorem dL_law_106 : decode cL_law 106 = .ok (.iconst 1, 1) := by decide +kernel
theorem dL_law_107 : decode cL_law 107 = .ok (.iadd, 1) := by decide +kernel
theorem dL_law_108 : decode cL_law 108 = .ok (.goto 25, 3) := by decide +kernel
theorem dL_law_111 : decode cL_law 111 = .ok (.iload 8, 2) := by decide +kernel
theorem dL_law_113 : decode cL_law 113 = .ok (.bipush 18, 2) := by decide +kernel
theorem dL_law_115 : decode cL_law 115 = .ok (.if_icmp .ge 16, 3) := by decide +kernel
theorem dL_law_118 : decode cL_law 118 = .ok (.bipush 26, 2) := by decide +kernel
theorem dL_law_120 : decode cL_law 120 = .ok (.iload 9, 2) := by decide +kernel
theorem dL_law_122 : decode cL_law 122 = .ok (.bipush 26, 2) := by decide +kernel
theorem dL_law_124 : decode cL_law 124 = .ok (.idiv, 1) := by decide +kernel
theorem dL_law_125 : decode cL_law 125 = .ok (.imul, 1) := by decide +kernel
theorem dL_law_126 : decode cL_law 126 = .ok (.iconst 2, 1) := by decide +kernel
theorem dL_law_127 : decode cL_law 127 = .ok (.iadd, 1) := by decide +kernel
theorem dL_law_128 : decode cL_law 128 = .ok (.goto 5, 3) := by decide +kernel
theorem dL_law_131 : decode cL_law 131 = .ok (.iload 9, 2) := by decide +kernel
theorem dL_law_133 : decode cL_law 133 = .ok (.istore 9, 2) := by decide +kernel
theorem dL_law_135 : decode cL_law 135 = .ok (.aload_n 3, 1) := by decide +kernel
theorem dL_law_136 : decode cL_law 136 = .ok (.aload 4, 2) := by decide +kernel
theorem dL_law_138 : decode cL_law 138 = .ok (.aload 5, 2) := by decide +kernel
theorem dL_law_140 : decode cL_law 140 = .ok (.invokestatic 213, 3) := by decide +kernel
theorem dL_law_143 : decode cL_law 143 = .ok (.lstore 10, 2) := by decide +kernel
theorem dL_law_145 : decode cL_law 145 = .ok (.iload 9, 2) := by decide +kernel
theorem dL_law_147 : decode cL_law 147 = .ok (.bipush 24, 2) := by decide +kernel
theorem dL_law_149 : decode cL_law 149 = .ok (.irem, 1) := by decide +kernel
theorem dL_law_150 : decode cL_law 150 = .ok (.istore 12, 2) := by decide +kernel
theorem dL_law_152 : decode cL_law 152 = .ok (.iload 12, 2) := by decide +kernel
theorem dL_law_154 : decode cL_law 154 = .ok (.bipush 8, 2) := by decide +kernel
theorem dL_law_156 : decode cL_law 156 = .ok (.idiv, 1) := by decide +kernel
theorem dL_law_157 : decode cL_law 157 = .ok (.aload 4, 2) := by decide +kernel
theorem dL_law_159 : decode cL_law 159 = .ok (.iconst 1, 1) := by decide +kernel
theorem dL_law_160 : decode cL_law 160 = .ok (.iaload, 1) := by decide +kernel
theorem dL_law_161 : decode cL_law 161 = .ok (.if_icmp .ge 27, 3) := by decide +kernel
theorem dL_law_164 : decode cL_law 164 = .ok (.aload 5, 2) := by decide +kernel
theorem dL_law_166 : decode cL_law 166 = .ok (.iload 12, 2) := by decide +kernel
theorem dL_law_168 : decode cL_law 168 = .ok (.bipush 8, 2) := by decide +kernel
theorem dL_law_170 : decode cL_law 170 = .ok (.idiv, 1) := by decide +kernel
theorem dL_law_171 : decode cL_law 171 = .ok (.iaload, 1) := by decide +kernel
theorem dL_law_172 : decode cL_law 172 = .ok (.iload 12, 2) := by decide +kernel
theorem dL_law_174 : decode cL_law 174 = .ok (.bipush 8, 2) := by decide +kernel
theorem dL_law_176 : decode cL_law 176 = .ok (.irem, 1) := by decide +kernel
theorem dL_law_177 : decode cL_law 177 = .ok (.ishr, 1) := by decide +kernel
theorem dL_law_178 : decode cL_law 178 = .ok (.iconst 1, 1) := by decide +kernel
theorem dL_law_179 : decode cL_law 179 = .ok (.iand, 1) := by decide +kernel
theorem dL_law_180 : decode cL_law 180 = .ok (.iconst 1, 1) := by decide +kernel
theorem dL_law_181 : decode cL_law 181 = .ok (.if_icmp .ne 7, 3) := by decide +kernel
theorem dL_law_184 : decode cL_law 184 = .ok (.iconst 1, 1) := by decide +kernel
theorem dL_law_185 : decode cL_law 185 = .ok (.goto 4, 3) := by decide +kernel
theorem dL_law_188 : decode cL_law 188 = .ok (.iconst 0, 1) := by decide +kernel
theorem dL_law_189 : decode cL_law 189 = .ok (.istore 13, 2) := by decide +kernel
theorem dL_law_191 : decode cL_law 191 = .ok (.aload_n 3, 1) := by decide +kernel
theorem dL_law_192 : decode cL_law 192 = .ok (.invokevirtual 105, 3) := by decide +kernel
theorem dL_law_195 : decode cL_law 195 = .ok (.iconst 1, 1) := by decide +kernel
theorem dL_law_196 : decode cL_law 196 = .ok (.isub, 1) := by decide +kernel
theorem dL_law_197 : decode cL_law 197 = .ok (.istore 14, 2) := by decide +kernel
theorem dL_law_199 : decode cL_law 199 = .ok (.aload 4, 2) := by decide +kernel
theorem dL_law_201 : decode cL_law 201 = .ok (.iconst 0, 1) := by decide +kernel
theorem dL_law_202 : decode cL_law 202 = .ok (.iaload, 1) := by decide +kernel
theorem dL_law_203 : decode cL_law 203 = .ok (.istore 15, 2) := by decide +kernel
theorem dL_law_205 : decode cL_law 205 = .ok (.iload 13, 2) := by decide +kernel
theorem dL_law_207 : decode cL_law 207 = .ok (.ifCond .eq 21, 3) := by decide +kernel
theorem dL_law_210 : decode cL_law 210 = .ok (.iload 14, 2) := by decide +kernel
theorem dL_law_212 : decode cL_law 212 = .ok (.ifCond .lt 16, 3) := by decide +kernel
theorem dL_law_215 : decode cL_law 215 = .ok (.aload_n 3, 1) := by decide +kernel
theorem dL_law_216 : decode cL_law 216 = .ok (.aload 4, 2) := by decide +kernel
theorem dL_law_218 : decode cL_law 218 = .ok (.iload 12, 2) := by decide +kernel
theorem dL_law_220 : decode cL_law 220 = .ok (.iload 14, 2) := by decide +kernel
theorem dL_law_222 : decode cL_law 222 = .ok (.invokestatic 217, 3) := by decide +kernel
theorem dL_law_225 : decode cL_law 225 = .ok (.goto 4, 3) := by decide +kernel
theorem dL_law_228 : decode cL_law 228 = .ok (.lconst 0, 1) := by decide +kernel
theorem dL_law_229 : decode cL_law 229 = .ok (.lstore 16, 2) := by decide +kernel
theorem dL_law_231 : decode cL_law 231 = .ok (.aload_n 3, 1) := by decide +kernel
theorem dL_law_232 : decode cL_law 232 = .ok (.aload 4, 2) := by decide +kernel
theorem dL_law_234 : decode cL_law 234 = .ok (.aload 5, 2) := by decide +kernel
theorem dL_law_236 : decode cL_law 236 = .ok (.iload 9, 2) := by decide +kernel
theorem dL_law_238 : decode cL_law 238 = .ok (.invokestatic 221, 3) := by decide +kernel
theorem dL_law_241 : decode cL_law 241 = .ok (.istore 18, 2) := by decide +kernel
theorem dL_law_243 : decode cL_law 243 = .ok (.iload 18, 2) := by decide +kernel
theorem dL_law_245 : decode cL_law 245 = .ok (.bipush (-9), 2) := by decide +kernel
theorem dL_law_247 : decode cL_law 247 = .ok (.if_icmp .eq 84, 3) := by decide +kernel
theorem dL_law_250 : decode cL_law 250 = .ok (.iload 18, 2) := by decide +kernel
theorem dL_law_252 : decode cL_law 252 = .ok (.invokestatic 162, 3) := by decide +kernel
theorem dL_law_255 : decode cL_law 255 = .ok (.ifCond .eq 17, 3) := by decide +kernel
theorem dL_law_258 : decode cL_law 258 = .ok (.aload_n 3, 1) := by decide +kernel
theorem dL_law_259 : decode cL_law 259 = .ok (.aload 4, 2) := by decide +kernel
theorem dL_law_261 : decode cL_law 261 = .ok (.aload 5, 2) := by decide +kernel
theorem dL_law_263 : decode cL_law 263 = .ok (.invokestatic 213, 3) := by decide +kernel
theorem dL_law_266 : decode cL_law 266 = .ok (.lload 10, 2) := by decide +kernel
theorem dL_law_268 : decode cL_law 268 = .ok (.lcmp, 1) := by decide +kernel
theorem dL_law_269 : decode cL_law 269 = .ok (.ifCond .ne 62, 3) := by decide +kernel
theorem dL_law_272 : decode cL_law 272 = .ok (.iload 13, 2) := by decide +kernel
theorem dL_law_274 : decode cL_law 274 = .ok (.ifCond .eq 33, 3) := by decide +kernel
theorem dL_law_277 : decode cL_law 277 = .ok (.iload 14, 2) := by decide +kernel
theorem dL_law_279 : decode cL_law 279 = .ok (.ifCond .lt 28, 3) := by decide +kernel
theorem dL_law_282 : decode cL_law 282 = .ok (.aload 4, 2) := by decide +kernel
theorem dL_law_284 : decode cL_law 284 = .ok (.iconst 0, 1) := by decide +kernel
theorem dL_law_285 : decode cL_law 285 = .ok (.iaload, 1) := by decide +kernel
theorem dL_law_286 : decode cL_law 286 = .ok (.iload 15, 2) := by decide +kernel
theorem dL_law_288 : decode cL_law 288 = .ok (.if_icmp .ne 19, 3) := by decide +kernel
theorem dL_law_291 : decode cL_law 291 = .ok (.aload_n 3, 1) := by decide +kernel
theorem dL_law_292 : decode cL_law 292 = .ok (.aload 4, 2) := by decide +kernel
theorem dL_law_294 : decode cL_law 294 = .ok (.iload 12, 2) := by decide +kernel
theorem dL_law_296 : decode cL_law 296 = .ok (.iload 14, 2) := by decide +kernel
theorem dL_law_298 : decode cL_law 298 = .ok (.invokestatic 217, 3) := by decide +kernel
theorem dL_law_301 : decode cL_law 301 = .ok (.lload 16, 2) := by decide +kernel
theorem dL_law_303 : decode cL_law 303 = .ok (.lcmp, 1) := by decide +kernel
theorem dL_law_304 : decode cL_law 304 = .ok (.ifCond .ne 27, 3) := by decide +kernel
theorem dL_law_307 : decode cL_law 307 = .ok (.aload_n 3, 1) := by decide +kernel
theorem dL_law_308 : decode cL_law 308 = .ok (.aload 4, 2) := by decide +kernel
theorem dL_law_310 : decode cL_law 310 = .ok (.aload 5, 2) := by decide +kernel
theorem dL_law_312 : decode cL_law 312 = .ok (.aload 6, 2) := by decide +kernel
theorem dL_law_314 : decode cL_law 314 = .ok (.aload 7, 2) := by decide +kernel
theorem dL_law_316 : decode cL_law 316 = .ok (.iload 9, 2) := by decide +kernel
theorem dL_law_318 : decode cL_law 318 = .ok (.ldc 225, 2) := by decide +kernel
theorem dL_law_320 : decode cL_law 320 = .ok (.irem, 1) := by decide +kernel
theorem dL_law_321 : decode cL_law 321 = .ok (.invokestatic 226, 3) := by decide +kernel
theorem dL_law_324 : decode cL_law 324 = .ok (.ifCond .eq 7, 3) := by decide +kernel
theorem dL_law_327 : decode cL_law 327 = .ok (.iconst 1, 1) := by decide +kernel
theorem dL_law_328 : decode cL_law 328 = .ok (.goto 4, 3) := by decide +kernel
theorem dL_law_331 : decode cL_law 331 = .ok (.iconst 0, 1) := by decide +kernel
theorem dL_law_332 : decode cL_law 332 = .ok (.istore_n 1, 1) := by decide +kernel
theorem dL_law_333 : decode cL_law 333 = .ok (.iinc 8 1, 3) := by decide +kernel
theorem dL_law_336 : decode cL_law 336 = .ok (.goto (-289), 3) := by decide +kernel
theorem dL_law_339 : decode cL_law 339 = .ok (.iinc 2 1, 3) := by decide +kernel
theorem dL_law_342 : decode cL_law 342 = .ok (.goto (-338), 3) := by decide +kernel
theorem dL_law_345 : decode cL_law 345 = .ok (.iload_n 1, 1) := by decide +kernel
theorem dL_law_346 : decode cL_law 346 = .ok (.ireturn, 1) := by decide +kernel
abbrev vwCl : List vw_C := [(RX0, TX0, 14), (RX1, TX1, 5), (RX2, TX2, 10), (RX3, TX3, 4), (RX4, TX4, 13)]
