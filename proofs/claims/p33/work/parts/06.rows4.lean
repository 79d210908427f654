theorem dL_turns_0 : decode cL_turns 0 = .ok (.aload_n 0, 1) := by decide +kernel
theorem dL_turns_1 : decode cL_turns 1 = .ok (.invokestatic 95, 3) := by decide +kernel
theorem dL_turns_4 : decode cL_turns 4 = .ok (.lstore 4, 2) := by decide +kernel
theorem dL_turns_6 : decode cL_turns 6 = .ok (.aload_n 0, 1) := by decide +kernel
theorem dL_turns_7 : decode cL_turns 7 = .ok (.invokevirtual 38, 3) := by decide +kernel
theorem dL_turns_10 : decode cL_turns 10 = .ok (.istore 6, 2) := by decide +kernel
theorem dL_turns_12 : decode cL_turns 12 = .ok (.iload 6, 2) := by decide +kernel
theorem dL_turns_14 : decode cL_turns 14 = .ok (.ifCond .ne 38, 3) := by decide +kernel
theorem dL_turns_17 : decode cL_turns 17 = .ok (.aload_n 0, 1) := by decide +kernel
theorem dL_turns_18 : decode cL_turns 18 = .ok (.invokevirtual 99, 3) := by decide +kernel
theorem dL_turns_21 : decode cL_turns 21 = .ok (.ldc 102, 2) := by decide +kernel
theorem dL_turns_23 : decode cL_turns 23 = .ok (.if_icmp .ne 27, 3) := by decide +kernel
theorem dL_turns_26 : decode cL_turns 26 = .ok (.aload_n 0, 1) := by decide +kernel
theorem dL_turns_27 : decode cL_turns 27 = .ok (.iconst 0, 1) := by decide +kernel
theorem dL_turns_28 : decode cL_turns 28 = .ok (.invokevirtual 103, 3) := by decide +kernel
theorem dL_turns_31 : decode cL_turns 31 = .ok (.ldc 106, 2) := by decide +kernel
theorem dL_turns_33 : decode cL_turns 33 = .ok (.if_icmp .ne 17, 3) := by decide +kernel
theorem dL_turns_36 : decode cL_turns 36 = .ok (.aload_n 0, 1) := by decide +kernel
theorem dL_turns_37 : decode cL_turns 37 = .ok (.invokestatic 95, 3) := by decide +kernel
theorem dL_turns_40 : decode cL_turns 40 = .ok (.lload 4, 2) := by decide +kernel
theorem dL_turns_42 : decode cL_turns 42 = .ok (.lcmp, 1) := by decide +kernel
theorem dL_turns_43 : decode cL_turns 43 = .ok (.ifCond .ne 7, 3) := by decide +kernel
theorem dL_turns_46 : decode cL_turns 46 = .ok (.iconst 1, 1) := by decide +kernel
theorem dL_turns_47 : decode cL_turns 47 = .ok (.goto 4, 3) := by decide +kernel
theorem dL_turns_50 : decode cL_turns 50 = .ok (.iconst 0, 1) := by decide +kernel
theorem dL_turns_51 : decode cL_turns 51 = .ok (.ireturn, 1) := by decide +kernel
theorem dL_turns_52 : decode cL_turns 52 = .ok (.iload_n 1, 1) := by decide +kernel
theorem dL_turns_53 : decode cL_turns 53 = .ok (.iload 6, 2) := by decide +kernel
theorem dL_turns_55 : decode cL_turns 55 = .ok (.invokestatic 21, 3) := by decide +kernel
theorem dL_turns_58 : decode cL_turns 58 = .ok (.istore 7, 2) := by decide +kernel
theorem dL_turns_60 : decode cL_turns 60 = .ok (.aload_n 0, 1) := by decide +kernel
theorem dL_turns_61 : decode cL_turns 61 = .ok (.aload_n 2, 1) := by decide +kernel
theorem dL_turns_62 : decode cL_turns 62 = .ok (.iconst 0, 1) := by decide +kernel
theorem dL_turns_63 : decode cL_turns 63 = .ok (.invokestatic 107, 3) := by decide +kernel
theorem dL_turns_66 : decode cL_turns 66 = .ok (.aload_n 0, 1) := by decide +kernel
theorem dL_turns_67 : decode cL_turns 67 = .ok (.iload 7, 2) := by decide +kernel
theorem dL_turns_69 : decode cL_turns 69 = .ok (.invokevirtual 103, 3) := by decide +kernel
theorem dL_turns_72 : decode cL_turns 72 = .ok (.aload_n 0, 1) := by decide +kernel
theorem dL_turns_73 : decode cL_turns 73 = .ok (.iload 7, 2) := by decide +kernel
theorem dL_turns_75 : decode cL_turns 75 = .ok (.invokevirtual 61, 3) := by decide +kernel
theorem dL_turns_78 : decode cL_turns 78 = .ok (.if_icmp .ne 18, 3) := by decide +kernel
theorem dL_turns_81 : decode cL_turns 81 = .ok (.aload_n 0, 1) := by decide +kernel
theorem dL_turns_82 : decode cL_turns 82 = .ok (.iload 7, 2) := by decide +kernel
theorem dL_turns_84 : decode cL_turns 84 = .ok (.invokevirtual 103, 3) := by decide +kernel
theorem dL_turns_87 : decode cL_turns 87 = .ok (.aload_n 0, 1) := by decide +kernel
theorem dL_turns_88 : decode cL_turns 88 = .ok (.iload 7, 2) := by decide +kernel
theorem dL_turns_90 : decode cL_turns 90 = .ok (.invokevirtual 61, 3) := by decide +kernel
theorem dL_turns_93 : decode cL_turns 93 = .ok (.if_icmp .eq 5, 3) := by decide +kernel
theorem dL_turns_96 : decode cL_turns 96 = .ok (.iconst 0, 1) := by decide +kernel
theorem dL_turns_97 : decode cL_turns 97 = .ok (.ireturn, 1) := by decide +kernel
theorem dL_turns_98 : decode cL_turns 98 = .ok (.aload_n 0, 1) := by decide +kernel
theorem dL_turns_99 : decode cL_turns 99 = .ok (.aload_n 3, 1) := by decide +kernel
theorem dL_turns_100 : decode cL_turns 100 = .ok (.iconst 0, 1) := by decide +kernel
theorem dL_turns_101 : decode cL_turns 101 = .ok (.invokestatic 107, 3) := by decide +kernel
theorem dL_turns_104 : decode cL_turns 104 = .ok (.bipush 12, 2) := by decide +kernel
theorem dL_turns_106 : decode cL_turns 106 = .ok (.istore 8, 2) := by decide +kernel
theorem dL_turns_108 : decode cL_turns 108 = .ok (.iload 8, 2) := by decide +kernel
theorem dL_turns_110 : decode cL_turns 110 = .ok (.bipush 48, 2) := by decide +kernel
theorem dL_turns_112 : decode cL_turns 112 = .ok (.if_icmp .ge 22, 3) := by decide +kernel
theorem dL_turns_115 : decode cL_turns 115 = .ok (.aload_n 2, 1) := by decide +kernel
theorem dL_turns_116 : decode cL_turns 116 = .ok (.iload 8, 2) := by decide +kernel
theorem dL_turns_118 : decode cL_turns 118 = .ok (.iaload, 1) := by decide +kernel
theorem dL_turns_119 : decode cL_turns 119 = .ok (.aload_n 3, 1) := by decide +kernel
theorem dL_turns_120 : decode cL_turns 120 = .ok (.iload 8, 2) := by decide +kernel
theorem dL_turns_122 : decode cL_turns 122 = .ok (.iaload, 1) := by decide +kernel
theorem dL_turns_123 : decode cL_turns 123 = .ok (.if_icmp .eq 5, 3) := by decide +kernel
theorem dL_turns_126 : decode cL_turns 126 = .ok (.iconst 0, 1) := by decide +kernel
theorem dL_turns_127 : decode cL_turns 127 = .ok (.ireturn, 1) := by decide +kernel
theorem dL_turns_128 : decode cL_turns 128 = .ok (.iinc 8 1, 3) := by decide +kernel
theorem dL_turns_131 : decode cL_turns 131 = .ok (.goto (-23), 3) := by decide +kernel
theorem dL_turns_134 : decode cL_turns 134 = .ok (.aload_n 0, 1) := by decide +kernel
theorem dL_turns_135 : decode cL_turns 135 = .ok (.invokevirtual 111, 3) := by decide +kernel
theorem dL_turns_138 : decode cL_turns 138 = .ok (.istore 8, 2) := by decide +kernel
theorem dL_turns_140 : decode cL_turns 140 = .ok (.aload_n 0, 1) := by decide +kernel
theorem dL_turns_141 : decode cL_turns 141 = .ok (.invokevirtual 114, 3) := by decide +kernel
theorem dL_turns_144 : decode cL_turns 144 = .ok (.iload 8, 2) := by decide +kernel
theorem dL_turns_146 : decode cL_turns 146 = .ok (.iconst 1, 1) := by decide +kernel
theorem dL_turns_147 : decode cL_turns 147 = .ok (.isub, 1) := by decide +kernel
theorem dL_turns_148 : decode cL_turns 148 = .ok (.if_icmp .ne 24, 3) := by decide +kernel
theorem dL_turns_151 : decode cL_turns 151 = .ok (.aload_n 0, 1) := by decide +kernel
theorem dL_turns_152 : decode cL_turns 152 = .ok (.invokevirtual 114, 3) := by decide +kernel
theorem dL_turns_155 : decode cL_turns 155 = .ok (.iload 8, 2) := by decide +kernel
theorem dL_turns_157 : decode cL_turns 157 = .ok (.iconst 2, 1) := by decide +kernel
theorem dL_turns_158 : decode cL_turns 158 = .ok (.isub, 1) := by decide +kernel
theorem dL_turns_159 : decode cL_turns 159 = .ok (.if_icmp .ne 13, 3) := by decide +kernel
theorem dL_turns_162 : decode cL_turns 162 = .ok (.aload_n 0, 1) := by decide +kernel
theorem dL_turns_163 : decode cL_turns 163 = .ok (.invokestatic 95, 3) := by decide +kernel
theorem dL_turns_166 : decode cL_turns 166 = .ok (.lload 4, 2) := by decide +kernel
theorem dL_turns_168 : decode cL_turns 168 = .ok (.lcmp, 1) := by decide +kernel
theorem dL_turns_169 : decode cL_turns 169 = .ok (.ifCond .eq 5, 3) := by decide +kernel
theorem dL_turns_172 : decode cL_turns 172 = .ok (.iconst 0, 1) := by decide +kernel
theorem dL_turns_173 : decode cL_turns 173 = .ok (.ireturn, 1) := by decide +kernel
theorem dL_turns_174 : decode cL_turns 174 = .ok (.aload_n 0, 1) := by decide +kernel
theorem dL_turns_175 : decode cL_turns 175 = .ok (.invokevirtual 49, 3) := by decide +kernel
theorem dL_turns_178 : decode cL_turns 178 = .ok (.istore 9, 2) := by decide +kernel
theorem dL_turns_180 : decode cL_turns 180 = .ok (.aload_n 0, 1) := by decide +kernel
theorem dL_turns_181 : decode cL_turns 181 = .ok (.invokevirtual 80, 3) := by decide +kernel
theorem dL_turns_184 : decode cL_turns 184 = .ok (.istore 10, 2) := by decide +kernel
theorem dL_turns_186 : decode cL_turns 186 = .ok (.aload_n 0, 1) := by decide +kernel
theorem dL_turns_187 : decode cL_turns 187 = .ok (.invokevirtual 86, 3) := by decide +kernel
theorem dL_turns_190 : decode cL_turns 190 = .ok (.istore 11, 2) := by decide +kernel
theorem dL_turns_192 : decode cL_turns 192 = .ok (.aload_n 0, 1) := by decide +kernel
theorem dL_turns_193 : decode cL_turns 193 = .ok (.invokevirtual 58, 3) := by decide +kernel
theorem dL_turns_196 : decode cL_turns 196 = .ok (.istore 12, 2) := by decide +kernel
theorem dL_turns_198 : decode cL_turns 198 = .ok (.aload_n 0, 1) := by decide +kernel
theorem dL_turns_199 : decode cL_turns 199 = .ok (.invokevirtual 117, 3) := by decide +kernel
theorem dL_turns_202 : decode cL_turns 202 = .ok (.istore 13, 2) := by decide +kernel
theorem dL_turns_204 : decode cL_turns 204 = .ok (.aload_n 0, 1) := by decide +kernel
theorem dL_turns_205 : decode cL_turns 205 = .ok (.invokevirtual 89, 3) := by decide +kernel
theorem dL_turns_208 : decode cL_turns 208 = .ok (.istore 14, 2) := by decide +kernel
theorem dL_turns_210 : decode cL_turns 210 = .ok (.aload_n 0, 1) := by decide +kernel
theorem dL_turns_211 : decode cL_turns 211 = .ok (.invokevirtual 99, 3) := by decide +kernel
theorem dL_turns_214 : decode cL_turns 214 = .ok (.aload_n 0, 1) := by decide +kernel
theorem dL_turns_215 : decode cL_turns 215 = .ok (.invokevirtual 49, 3) := by decide +kernel
theorem dL_turns_218 : decode cL_turns 218 = .ok (.if_icmp .ne 69, 3) := by decide +kernel
theorem dL_turns_221 : decode cL_turns 221 = .ok (.aload_n 0, 1) := by decide +kernel
theorem dL_turns_222 : decode cL_turns 222 = .ok (.invokevirtual 80, 3) := by decide +kernel
theorem dL_turns_225 : decode cL_turns 225 = .ok (.iload 10, 2) := by decide +kernel
theorem dL_turns_227 : decode cL_turns 227 = .ok (.if_icmp .ne 60, 3) := by decide +kernel
theorem dL_turns_230 : decode cL_turns 230 = .ok (.aload_n 0, 1) := by decide +kernel
theorem dL_turns_231 : decode cL_turns 231 = .ok (.invokevirtual 86, 3) := by decide +kernel
theorem dL_turns_234 : decode cL_turns 234 = .ok (.iload 11, 2) := by decide +kernel
theorem dL_turns_236 : decode cL_turns 236 = .ok (.if_icmp .ne 51, 3) := by decide +kernel
theorem dL_turns_239 : decode cL_turns 239 = .ok (.aload_n 0, 1) := by decide +kernel
theorem dL_turns_240 : decode cL_turns 240 = .ok (.invokevirtual 58, 3) := by decide +kernel
theorem dL_turns_243 : decode cL_turns 243 = .ok (.iload 12, 2) := by decide +kernel
theorem dL_turns_245 : decode cL_turns 245 = .ok (.if_icmp .ne 42, 3) := by decide +kernel
theorem dL_turns_248 : decode cL_turns 248 = .ok (.aload_n 0, 1) := by decide +kernel
theorem dL_turns_249 : decode cL_turns 249 = .ok (.invokevirtual 117, 3) := by decide +kernel
theorem dL_turns_252 : decode cL_turns 252 = .ok (.iload 13, 2) := by decide +kernel
theorem dL_turns_254 : decode cL_turns 254 = .ok (.if_icmp .ne 33, 3) := by decide +kernel
theorem dL_turns_257 : decode cL_turns 257 = .ok (.iload 12, 2) := by decide +kernel
theorem dL_turns_259 : decode cL_turns 259 = .ok (.ifCond .ne 12, 3) := by decide +kernel
theorem dL_turns_262 : decode cL_turns 262 = .ok (.aload_n 0, 1) := by decide +kernel
theorem dL_turns_263 : decode cL_turns 263 = .ok (.invokevirtual 89, 3) := by decide +kernel
theorem dL_turns_266 : decode cL_turns 266 = .ok (.iload 14, 2) := by decide +kernel
theorem dL_turns_268 : decode cL_turns 268 = .ok (.if_icmp .ne 19, 3) := by decide +kernel
theorem dL_turns_271 : decode cL_turns 271 = .ok (.iload 10, 2) := by decide +kernel
theorem dL_turns_273 : decode cL_turns 273 = .ok (.iconst 1, 1) := by decide +kernel
theorem dL_turns_274 : decode cL_turns 274 = .ok (.if_icmp .ne 15, 3) := by decide +kernel
theorem dL_turns_277 : decode cL_turns 277 = .ok (.aload_n 0, 1) := by decide +kernel
theorem dL_turns_278 : decode cL_turns 278 = .ok (.invokevirtual 49, 3) := by decide +kernel
theorem dL_turns_281 : decode cL_turns 281 = .ok (.iload 9, 2) := by decide +kernel
theorem dL_turns_283 : decode cL_turns 283 = .ok (.ineg, 1) := by decide +kernel
theorem dL_turns_284 : decode cL_turns 284 = .ok (.if_icmp .eq 5, 3) := by decide +kernel
theorem dL_turns_287 : decode cL_turns 287 = .ok (.iconst 0, 1) := by decide +kernel
theorem dL_turns_288 : decode cL_turns 288 = .ok (.ireturn, 1) := by decide +kernel
theorem dL_turns_289 : decode cL_turns 289 = .ok (.aload_n 0, 1) := by decide +kernel
theorem dL_turns_290 : decode cL_turns 290 = .ok (.aload_n 3, 1) := by decide +kernel
theorem dL_turns_291 : decode cL_turns 291 = .ok (.iconst 0, 1) := by decide +kernel
theorem dL_turns_292 : decode cL_turns 292 = .ok (.invokestatic 107, 3) := by decide +kernel
theorem dL_turns_295 : decode cL_turns 295 = .ok (.bipush 13, 2) := by decide +kernel
theorem dL_turns_297 : decode cL_turns 297 = .ok (.istore 15, 2) := by decide +kernel
theorem dL_turns_299 : decode cL_turns 299 = .ok (.iload 15, 2) := by decide +kernel
theorem dL_turns_301 : decode cL_turns 301 = .ok (.bipush 47, 2) := by decide +kernel
theorem dL_turns_303 : decode cL_turns 303 = .ok (.if_icmp .ge 30, 3) := by decide +kernel
theorem dL_turns_306 : decode cL_turns 306 = .ok (.aload_n 2, 1) := by decide +kernel
theorem dL_turns_307 : decode cL_turns 307 = .ok (.iload 15, 2) := by decide +kernel
theorem dL_turns_309 : decode cL_turns 309 = .ok (.iaload, 1) := by decide +kernel
theorem dL_turns_310 : decode cL_turns 310 = .ok (.aload_n 3, 1) := by decide +kernel
theorem dL_turns_311 : decode cL_turns 311 = .ok (.bipush 60, 2) := by decide +kernel
theorem dL_turns_313 : decode cL_turns 313 = .ok (.iload 15, 2) := by decide +kernel
theorem dL_turns_315 : decode cL_turns 315 = .ok (.isub, 1) := by decide +kernel
theorem dL_turns_316 : decode cL_turns 316 = .ok (.aload_n 2, 1) := by decide +kernel
theorem dL_turns_317 : decode cL_turns 317 = .ok (.bipush 60, 2) := by decide +kernel
theorem dL_turns_319 : decode cL_turns 319 = .ok (.iaload, 1) := by decide +kernel
theorem dL_turns_320 : decode cL_turns 320 = .ok (.isub, 1) := by decide +kernel
theorem dL_turns_321 : decode cL_turns 321 = .ok (.iaload, 1) := by decide +kernel
theorem dL_turns_322 : decode cL_turns 322 = .ok (.if_icmp .eq 5, 3) := by decide +kernel
theorem dL_turns_325 : decode cL_turns 325 = .ok (.iconst 0, 1) := by decide +kernel
theorem dL_turns_326 : decode cL_turns 326 = .ok (.ireturn, 1) := by decide +kernel
theorem dL_turns_327 : decode cL_turns 327 = .ok (.iinc 15 1, 3) := by decide +kernel
theorem dL_turns_330 : decode cL_turns 330 = .ok (.goto (-31), 3) := by decide +kernel
theorem dL_turns_333 : decode cL_turns 333 = .ok (.aload_n 0, 1) := by decide +kernel
theorem dL_turns_334 : decode cL_turns 334 = .ok (.invokevirtual 114, 3) := by decide +kernel
theorem dL_turns_337 : decode cL_turns 337 = .ok (.ifCond .lt 17, 3) := by decide +kernel
theorem dL_turns_340 : decode cL_turns 340 = .ok (.aload_n 0, 1) := by decide +kernel
theorem dL_turns_341 : decode cL_turns 341 = .ok (.invokestatic 95, 3) := by decide +kernel
theorem dL_turns_344 : decode cL_turns 344 = .ok (.lload 4, 2) := by decide +kernel
theorem dL_turns_346 : decode cL_turns 346 = .ok (.lcmp, 1) := by decide +kernel
theorem dL_turns_347 : decode cL_turns 347 = .ok (.ifCond .ne 7, 3) := by decide +kernel
theorem dL_turns_350 : decode cL_turns 350 = .ok (.iconst 1, 1) := by decide +kernel
theorem dL_turns_351 : decode cL_turns 351 = .ok (.goto 4, 3) := by decide +kernel
theorem dL_turns_354 : decode cL_turns 354 = .ok (.iconst 0, 1) := by decide +kernel
theorem dL_turns_355 : decode cL_turns 355 = .ok (.ireturn, 1) := by decide +kernel
set_option maxRecDepth 20000 in
theorem ggL_removes_L_hash : GoodIn wsL_removes wsL_hash := goodIn_r _ [8, 9, 10, 11, 12, 13, 14, 15, 16, 17, 18, 19, 20, 21, 22, 23, 24, 25, 26, 27, 28, 29, 30, 31, 32, 33, 34, 35, 36, 37, 38, 354, 355, 356, 357, 358, 359, 360, 361, 362, 363, 364, 365] (by decide +kernel) (by decide +kernel)
set_option maxRecDepth 20000 in
theorem gL_removes_L_hash : GoodIn wsL_removes (va_wsS RL 95 yL_hash wsL_hash) := goodIn_app (goodIn_of _ (by decide +kernel)) ggL_removes_L_hash
set_option maxRecDepth 20000 in
theorem ggL_removes_X9_crossingCount : GoodIn wsL_removes wsX9_crossingCount := goodIn_r _ [15, 16, 17, 354, 355, 356, 357, 358, 359, 360, 361, 362, 363, 364, 365] (by decide +kernel) (by decide +kernel)
set_option maxRecDepth 20000 in
theorem gL_removes_X9_crossingCount : GoodIn wsL_removes (wsV RL 38 RX9 yX9_crossingCount wsX9_crossingCount) := goodIn_app (goodIn_of _ (by decide +kernel)) ggL_removes_X9_crossingCount
set_option maxRecDepth 20000 in
theorem ggL_removes_L_low : GoodIn wsL_removes wsL_low := goodIn_r _ [41, 42] (by decide +kernel) (by decide +kernel)
set_option maxRecDepth 20000 in
theorem gL_removes_L_low : GoodIn wsL_removes (va_wsS RL 21 yL_low wsL_low) := goodIn_app (goodIn_of _ (by decide +kernel)) ggL_removes_L_low
set_option maxRecDepth 20000 in
theorem ggL_removes_X9_isKink : GoodIn wsL_removes wsX9_isKink := goodIn_r _ [46, 16, 27, 28, 29, 30, 31, 32, 33, 47, 48, 49, 50, 51, 52, 53, 54, 35, 36, 37, 38, 354, 355, 356, 357, 358, 359, 360, 361, 362, 363, 364, 365] (by decide +kernel) (by decide +kernel)
set_option maxRecDepth 20000 in
theorem gL_removes_X9_isKink : GoodIn wsL_removes (wsV RL 67 RX9 yX9_isKink wsX9_isKink) := goodIn_app (goodIn_of _ (by decide +kernel)) ggL_removes_X9_isKink
set_option maxRecDepth 20000 in
theorem ggL_removes_X9_bigonPartner : GoodIn wsL_removes wsX9_bigonPartner := goodIn_r _ [58, 16, 27, 17, 59, 28, 29, 30, 31, 32, 33, 60, 61, 49, 62, 63, 64, 65, 51, 52, 53, 54, 35, 36, 37, 38, 354, 355, 356, 357, 358, 359, 360, 361, 362, 363, 364, 365] (by decide +kernel) (by decide +kernel)
set_option maxRecDepth 20000 in
theorem gL_removes_X9_bigonPartner : GoodIn wsL_removes (wsV RL 64 RX9 yX9_bigonPartner wsX9_bigonPartner) := goodIn_app (goodIn_of _ (by decide +kernel)) ggL_removes_X9_bigonPartner
set_option maxRecDepth 20000 in
theorem ggL_removes_X9_removeKink : GoodIn wsL_removes wsX9_removeKink := goodIn_r _ [69, 16, 27, 70, 71, 28, 29, 30, 31, 32, 33, 47, 48, 49, 50, 51, 52, 53, 54, 35, 36, 37, 38, 72, 73, 74, 75, 76, 77, 78, 79, 80, 81, 82, 83, 84, 85, 86, 87, 88, 89, 90, 91, 92, 93, 94, 95, 96, 97, 98, 99, 100, 101, 102, 103, 104, 105, 106, 14, 107, 22, 108, 17, 109, 110, 111, 112, 113, 114, 115, 116, 117, 118, 119, 120, 121, 122, 123, 124, 125, 126, 127, 128, 129, 130, 131, 132, 133, 354, 355, 356, 357, 358, 359, 360, 361, 362, 363, 364, 365, 366, 367, 368, 369, 370, 371, 372] (by decide +kernel) (by decide +kernel)
set_option maxRecDepth 20000 in
theorem gL_removes_X9_removeKink : GoodIn wsL_removes (wsV RL 120 RX9 yX9_removeKink wsX9_removeKink) := goodIn_app (goodIn_of _ (by decide +kernel)) ggL_removes_X9_removeKink
set_option maxRecDepth 20000 in
theorem ggL_removes_X9_removeBigon : GoodIn wsL_removes wsX9_removeBigon := goodIn_r _ [137, 16, 27, 70, 71, 28, 29, 30, 31, 32, 33, 60, 61, 49, 62, 63, 64, 65, 51, 52, 53, 54, 35, 36, 37, 38, 72, 73, 74, 75, 76, 138, 139, 140, 141, 85, 86, 87, 142, 89, 90, 80, 81, 82, 83, 84, 88, 91, 92, 93, 94, 95, 96, 97, 98, 99, 100, 101, 102, 103, 104, 105, 106, 14, 107, 22, 108, 17, 109, 110, 111, 112, 113, 114, 115, 116, 117, 118, 119, 120, 121, 122, 123, 124, 125, 126, 127, 128, 129, 130, 131, 132, 133, 354, 355, 356, 357, 358, 359, 360, 361, 362, 363, 364, 365, 366, 367, 368, 369, 370, 371, 372] (by decide +kernel) (by decide +kernel)
set_option maxRecDepth 20000 in
theorem gL_removes_X9_removeBigon : GoodIn wsL_removes (wsV RL 123 RX9 yX9_removeBigon wsX9_removeBigon) := goodIn_app (goodIn_of _ (by decide +kernel)) ggL_removes_X9_removeBigon
set_option maxRecDepth 20000 in
theorem ggL_removes_X9_componentCount : GoodIn wsL_removes wsX9_componentCount := goodIn_r _ [146, 16, 22, 147, 148, 149, 150, 151, 93, 94, 31, 95, 33, 152, 14, 153, 154, 155, 156, 157, 158, 159, 160, 161, 162, 91, 35, 36, 37, 38, 92, 354, 355, 356, 357, 358, 359, 360, 361, 362, 363, 364, 365] (by decide +kernel) (by decide +kernel)
set_option maxRecDepth 20000 in
theorem gL_removes_X9_componentCount : GoodIn wsL_removes (wsV RL 80 RX9 yX9_componentCount wsX9_componentCount) := goodIn_app (goodIn_of _ (by decide +kernel)) ggL_removes_X9_componentCount
set_option maxRecDepth 20000 in
theorem ggL_removes_X9_determinant : GoodIn wsL_removes wsX9_determinant := goodIn_r _ [166, 117, 16, 167, 168, 169, 131, 170, 133, 171, 172, 173, 174, 175, 176, 177, 160, 161, 31, 162, 91, 35, 36, 37, 38, 92, 93, 94, 95, 33, 178, 179, 180, 181, 182, 183, 184, 185, 186, 187, 188, 152, 14, 153, 189, 190, 191, 192, 157, 158, 193, 194, 195, 196, 197, 198, 199, 200, 201, 202, 203, 204, 205, 206, 207, 208, 209, 210, 211, 212, 213, 214, 215, 216, 217, 218, 219, 220, 221, 222, 223, 224, 225, 226, 227, 86, 228, 229, 230, 231, 232, 354, 355, 356, 357, 358, 359, 360, 361, 362, 368, 369, 370, 371, 372, 363, 364, 365] (by decide +kernel) (by decide +kernel)
set_option maxRecDepth 20000 in
theorem gL_removes_X9_determinant : GoodIn wsL_removes (wsV RL 89 RX9 yX9_determinant wsX9_determinant) := goodIn_app (goodIn_of _ (by decide +kernel)) ggL_removes_X9_determinant
set_option maxRecDepth 20000 in
theorem ggL_removes_X9_colouringDimension : GoodIn wsL_removes wsX9_colouringDimension := goodIn_r _ [236, 27, 237, 16, 238, 239, 240, 241, 242, 243, 244, 245, 246, 247, 248, 249, 250, 89, 86, 90, 251, 85, 87, 252, 35, 36, 31, 37, 38, 253, 254, 255, 256, 257, 258, 259, 260, 261, 262, 263, 264, 265, 266, 267, 268, 269, 270, 271, 272, 273, 274, 275, 276, 277, 278, 279, 280, 281, 282, 283, 284, 285, 286, 287, 288, 289, 92, 93, 94, 95, 33, 91, 290, 291, 292, 293, 294, 295, 296, 297, 298, 299, 300, 301, 302, 303, 304, 305, 354, 355, 356, 357, 358, 359, 360, 361, 362, 363, 364, 365, 373, 374] (by decide +kernel) (by decide +kernel)
set_option maxRecDepth 20000 in
theorem gL_removes_X9_colouringDimension : GoodIn wsL_removes (wsV RL 92 RX9 yX9_colouringDimension wsX9_colouringDimension) := goodIn_app (goodIn_of _ (by decide +kernel)) ggL_removes_X9_colouringDimension
set_option maxRecDepth 20000 in
theorem ggL_removes_L_bracket : GoodIn wsL_removes wsL_bracket := goodIn_r _ [308, 11, 12, 13, 14, 15, 16, 17, 309, 310, 311, 312, 313, 314, 149, 315, 316, 317, 318, 319, 320, 287, 288, 31, 289, 92, 93, 94, 95, 33, 91, 35, 36, 37, 38, 159, 160, 161, 162, 152, 153, 154, 155, 156, 157, 158, 321, 322, 323, 324, 325, 326, 327, 27, 117, 328, 329, 330, 167, 168, 169, 131, 170, 133, 171, 172, 173, 174, 175, 176, 177, 178, 179, 180, 181, 182, 183, 184, 185, 186, 187, 188, 189, 190, 191, 192, 193, 194, 195, 196, 197, 198, 199, 200, 201, 202, 203, 204, 205, 206, 207, 208, 209, 210, 211, 212, 213, 214, 215, 216, 217, 218, 219, 220, 331, 332, 333, 334, 335, 354, 355, 356, 357, 358, 359, 360, 361, 362, 363, 364, 365, 368, 369, 370, 371, 372] (by decide +kernel) (by decide +kernel)
set_option maxRecDepth 20000 in
theorem gL_removes_L_bracket : GoodIn wsL_removes (va_wsS RL 107 yL_bracket wsL_bracket) := goodIn_app (goodIn_of _ (by decide +kernel)) ggL_removes_L_bracket
set_option maxRecDepth 20000 in
theorem ggL_removes_X9_lowestExponent : GoodIn wsL_removes wsX9_lowestExponent := goodIn_r _ [339, 117, 16, 167, 168, 169, 131, 170, 133, 171, 172, 173, 174, 175, 176, 177, 160, 161, 31, 162, 91, 35, 36, 37, 38, 92, 93, 94, 95, 33, 178, 179, 180, 181, 182, 183, 184, 185, 186, 187, 188, 152, 14, 153, 189, 190, 191, 192, 157, 158, 193, 194, 195, 196, 197, 198, 199, 200, 201, 202, 203, 204, 205, 206, 207, 208, 209, 210, 211, 212, 213, 214, 215, 216, 217, 218, 219, 220, 340, 230, 231, 232, 225, 354, 355, 356, 357, 358, 359, 360, 361, 362, 368, 369, 370, 371, 372, 363, 364, 365] (by decide +kernel) (by decide +kernel)
set_option maxRecDepth 20000 in
theorem gL_removes_X9_lowestExponent : GoodIn wsL_removes (wsV RL 73 RX9 yX9_lowestExponent wsX9_lowestExponent) := goodIn_app (goodIn_of _ (by decide +kernel)) ggL_removes_X9_lowestExponent
set_option maxRecDepth 20000 in
theorem ggL_removes_X9_circleCount : GoodIn wsL_removes wsX9_circleCount := goodIn_r _ [21, 16, 22, 354, 355, 356, 357, 358, 359, 360, 361, 362, 363, 364, 365] (by decide +kernel) (by decide +kernel)
set_option maxRecDepth 20000 in
theorem gL_removes_X9_circleCount : GoodIn wsL_removes (wsV RL 41 RX9 yX9_circleCount wsX9_circleCount) := goodIn_app (goodIn_of _ (by decide +kernel)) ggL_removes_X9_circleCount
set_option maxRecDepth 20000 in
theorem ggL_removes_X9_undo : GoodIn wsL_removes wsX9_undo := goodIn_r _ [344, 115, 70, 114, 113, 16, 117, 345, 346, 347, 121, 348, 123, 124, 125, 349, 350, 351, 352, 126, 353, 97, 98, 31, 99, 38, 128, 129, 130, 131, 132, 133, 354, 355, 356, 357, 358, 359, 360, 361, 362, 366, 367, 363, 364, 365, 368, 369, 370, 371, 372] (by decide +kernel) (by decide +kernel)
set_option maxRecDepth 20000 in
theorem gL_removes_X9_undo : GoodIn wsL_removes (wsV RL 114 RX9 yX9_undo wsX9_undo) := goodIn_app (goodIn_of _ (by decide +kernel)) ggL_removes_X9_undo
theorem dL_removes_0 : decode cL_removes 0 = .ok (.aload_n 0, 1) := by decide +kernel
theorem dL_removes_1 : decode cL_removes 1 = .ok (.invokestatic 95, 3) := by decide +kernel
theorem dL_removes_4 : decode cL_removes 4 = .ok (.lstore 4, 2) := by decide +kernel
theorem dL_removes_6 : decode cL_removes 6 = .ok (.aload_n 0, 1) := by decide +kernel
theorem dL_removes_7 : decode cL_removes 7 = .ok (.invokevirtual 38, 3) := by decide +kernel
theorem dL_removes_10 : decode cL_removes 10 = .ok (.istore 6, 2) := by decide +kernel
theorem dL_removes_12 : decode cL_removes 12 = .ok (.iload_n 1, 1) := by decide +kernel
theorem dL_removes_13 : decode cL_removes 13 = .ok (.iload 6, 2) := by decide +kernel
theorem dL_removes_15 : decode cL_removes 15 = .ok (.iconst 1, 1) := by decide +kernel
theorem dL_removes_16 : decode cL_removes 16 = .ok (.iadd, 1) := by decide +kernel
theorem dL_removes_17 : decode cL_removes 17 = .ok (.invokestatic 21, 3) := by decide +kernel
theorem dL_removes_20 : decode cL_removes 20 = .ok (.istore 7, 2) := by decide +kernel
theorem dL_removes_22 : decode cL_removes 22 = .ok (.aload_n 0, 1) := by decide +kernel
theorem dL_removes_23 : decode cL_removes 23 = .ok (.iload 7, 2) := by decide +kernel
theorem dL_removes_25 : decode cL_removes 25 = .ok (.invokevirtual 67, 3) := by decide +kernel
theorem dL_removes_28 : decode cL_removes 28 = .ok (.istore 8, 2) := by decide +kernel
theorem dL_removes_30 : decode cL_removes 30 = .ok (.aload_n 0, 1) := by decide +kernel
theorem dL_removes_31 : decode cL_removes 31 = .ok (.iload 7, 2) := by decide +kernel
theorem dL_removes_33 : decode cL_removes 33 = .ok (.invokevirtual 64, 3) := by decide +kernel
theorem dL_removes_36 : decode cL_removes 36 = .ok (.istore 9, 2) := by decide +kernel
theorem dL_removes_38 : decode cL_removes 38 = .ok (.iload 7, 2) := by decide +kernel
theorem dL_removes_40 : decode cL_removes 40 = .ok (.iload 6, 2) := by decide +kernel
theorem dL_removes_42 : decode cL_removes 42 = .ok (.if_icmp .ne 56, 3) := by decide +kernel
theorem dL_removes_45 : decode cL_removes 45 = .ok (.iload 8, 2) := by decide +kernel
theorem dL_removes_47 : decode cL_removes 47 = .ok (.ldc 106, 2) := by decide +kernel
theorem dL_removes_49 : decode cL_removes 49 = .ok (.if_icmp .ne 47, 3) := by decide +kernel
theorem dL_removes_52 : decode cL_removes 52 = .ok (.iload 9, 2) := by decide +kernel
theorem dL_removes_54 : decode cL_removes 54 = .ok (.ldc 106, 2) := by decide +kernel
theorem dL_removes_56 : decode cL_removes 56 = .ok (.if_icmp .ne 40, 3) := by decide +kernel
theorem dL_removes_59 : decode cL_removes 59 = .ok (.aload_n 0, 1) := by decide +kernel
theorem dL_removes_60 : decode cL_removes 60 = .ok (.iload 7, 2) := by decide +kernel
theorem dL_removes_62 : decode cL_removes 62 = .ok (.invokevirtual 120, 3) := by decide +kernel
theorem dL_removes_65 : decode cL_removes 65 = .ok (.ldc 106, 2) := by decide +kernel
theorem dL_removes_67 : decode cL_removes 67 = .ok (.if_icmp .ne 29, 3) := by decide +kernel
theorem dL_removes_70 : decode cL_removes 70 = .ok (.aload_n 0, 1) := by decide +kernel
theorem dL_removes_71 : decode cL_removes 71 = .ok (.iload 7, 2) := by decide +kernel
theorem dL_removes_73 : decode cL_removes 73 = .ok (.iconst 0, 1) := by decide +kernel
theorem dL_removes_74 : decode cL_removes 74 = .ok (.invokevirtual 123, 3) := by decide +kernel
theorem dL_removes_77 : decode cL_removes 77 = .ok (.ldc 106, 2) := by decide +kernel
theorem dL_removes_79 : decode cL_removes 79 = .ok (.if_icmp .ne 17, 3) := by decide +kernel
theorem dL_removes_82 : decode cL_removes 82 = .ok (.aload_n 0, 1) := by decide +kernel
theorem dL_removes_83 : decode cL_removes 83 = .ok (.invokestatic 95, 3) := by decide +kernel
theorem dL_removes_86 : decode cL_removes 86 = .ok (.lload 4, 2) := by decide +kernel
theorem dL_removes_88 : decode cL_removes 88 = .ok (.lcmp, 1) := by decide +kernel
theorem dL_removes_89 : decode cL_removes 89 = .ok (.ifCond .ne 7, 3) := by decide +kernel
theorem dL_removes_92 : decode cL_removes 92 = .ok (.iconst 1, 1) := by decide +kernel
theorem dL_removes_93 : decode cL_removes 93 = .ok (.goto 4, 3) := by decide +kernel
theorem dL_removes_96 : decode cL_removes 96 = .ok (.iconst 0, 1) := by decide +kernel
theorem dL_removes_97 : decode cL_removes 97 = .ok (.ireturn, 1) := by decide +kernel
theorem dL_removes_98 : decode cL_removes 98 = .ok (.iload 8, 2) := by decide +kernel
theorem dL_removes_100 : decode cL_removes 100 = .ok (.iconst 1, 1) := by decide +kernel
theorem dL_removes_101 : decode cL_removes 101 = .ok (.if_icmp .ne 22, 3) := by decide +kernel
theorem dL_removes_104 : decode cL_removes 104 = .ok (.iload_n 1, 1) := by decide +kernel
theorem dL_removes_105 : decode cL_removes 105 = .ok (.iconst 4, 1) := by decide +kernel
theorem dL_removes_106 : decode cL_removes 106 = .ok (.ishr, 1) := by decide +kernel
theorem dL_removes_107 : decode cL_removes 107 = .ok (.iconst 1, 1) := by decide +kernel
theorem dL_removes_108 : decode cL_removes 108 = .ok (.iand, 1) := by decide +kernel
theorem dL_removes_109 : decode cL_removes 109 = .ok (.ifCond .eq 10, 3) := by decide +kernel
theorem dL_removes_112 : decode cL_removes 112 = .ok (.iload 9, 2) := by decide +kernel
theorem dL_removes_114 : decode cL_removes 114 = .ok (.ldc 79, 2) := by decide +kernel
theorem dL_removes_116 : decode cL_removes 116 = .ok (.if_icmp .ne 7, 3) := by decide +kernel
theorem dL_removes_119 : decode cL_removes 119 = .ok (.iconst 1, 1) := by decide +kernel
theorem dL_removes_120 : decode cL_removes 120 = .ok (.goto 4, 3) := by decide +kernel
theorem dL_removes_123 : decode cL_removes 123 = .ok (.iconst 0, 1) := by decide +kernel
theorem dL_removes_124 : decode cL_removes 124 = .ok (.istore 10, 2) := by decide +kernel
theorem dL_removes_126 : decode cL_removes 126 = .ok (.iload 10, 2) := by decide +kernel
theorem dL_removes_128 : decode cL_removes 128 = .ok (.ifCond .ne 74, 3) := by decide +kernel
theorem dL_removes_131 : decode cL_removes 131 = .ok (.iload 9, 2) := by decide +kernel
theorem dL_removes_133 : decode cL_removes 133 = .ok (.ldc 79, 2) := by decide +kernel
theorem dL_removes_135 : decode cL_removes 135 = .ok (.if_icmp .ne 67, 3) := by decide +kernel
theorem dL_removes_138 : decode cL_removes 138 = .ok (.aload_n 0, 1) := by decide +kernel
theorem dL_removes_139 : decode cL_removes 139 = .ok (.iload 7, 2) := by decide +kernel
theorem dL_removes_141 : decode cL_removes 141 = .ok (.invokevirtual 120, 3) := by decide +kernel
theorem dL_removes_144 : decode cL_removes 144 = .ok (.ldc 102, 2) := by decide +kernel
theorem dL_removes_146 : decode cL_removes 146 = .ok (.if_icmp .ne 54, 3) := by decide +kernel
theorem dL_removes_149 : decode cL_removes 149 = .ok (.aload_n 0, 1) := by decide +kernel
theorem dL_removes_150 : decode cL_removes 150 = .ok (.iload 7, 2) := by decide +kernel
theorem dL_removes_152 : decode cL_removes 152 = .ok (.iload 7, 2) := by decide +kernel
theorem dL_removes_154 : decode cL_removes 154 = .ok (.invokevirtual 123, 3) := by decide +kernel
theorem dL_removes_157 : decode cL_removes 157 = .ok (.ldc 106, 2) := by decide +kernel
theorem dL_removes_159 : decode cL_removes 159 = .ok (.if_icmp .ne 41, 3) := by decide +kernel
theorem dL_removes_162 : decode cL_removes 162 = .ok (.iload 6, 2) := by decide +kernel
theorem dL_removes_164 : decode cL_removes 164 = .ok (.iconst 2, 1) := by decide +kernel
theorem dL_removes_165 : decode cL_removes 165 = .ok (.if_icmp .lt 21, 3) := by decide +kernel
theorem dL_removes_168 : decode cL_removes 168 = .ok (.aload_n 0, 1) := by decide +kernel
theorem dL_removes_169 : decode cL_removes 169 = .ok (.iload 7, 2) := by decide +kernel
theorem dL_removes_171 : decode cL_removes 171 = .ok (.iload 7, 2) := by decide +kernel
theorem dL_removes_173 : decode cL_removes 173 = .ok (.iconst 1, 1) := by decide +kernel
theorem dL_removes_174 : decode cL_removes 174 = .ok (.iadd, 1) := by decide +kernel
theorem dL_removes_175 : decode cL_removes 175 = .ok (.iload 6, 2) := by decide +kernel
theorem dL_removes_177 : decode cL_removes 177 = .ok (.irem, 1) := by decide +kernel
theorem dL_removes_178 : decode cL_removes 178 = .ok (.invokevirtual 123, 3) := by decide +kernel
theorem dL_removes_181 : decode cL_removes 181 = .ok (.ldc 102, 2) := by decide +kernel
theorem dL_removes_183 : decode cL_removes 183 = .ok (.if_icmp .ne 17, 3) := by decide +kernel
theorem dL_removes_186 : decode cL_removes 186 = .ok (.aload_n 0, 1) := by decide +kernel
theorem dL_removes_187 : decode cL_removes 187 = .ok (.invokestatic 95, 3) := by decide +kernel
theorem dL_removes_190 : decode cL_removes 190 = .ok (.lload 4, 2) := by decide +kernel
theorem dL_removes_192 : decode cL_removes 192 = .ok (.lcmp, 1) := by decide +kernel
theorem dL_removes_193 : decode cL_removes 193 = .ok (.ifCond .ne 7, 3) := by decide +kernel
theorem dL_removes_196 : decode cL_removes 196 = .ok (.iconst 1, 1) := by decide +kernel
theorem dL_removes_197 : decode cL_removes 197 = .ok (.goto 4, 3) := by decide +kernel
theorem dL_removes_200 : decode cL_removes 200 = .ok (.iconst 0, 1) := by decide +kernel
theorem dL_removes_201 : decode cL_removes 201 = .ok (.ireturn, 1) := by decide +kernel
theorem dL_removes_202 : decode cL_removes 202 = .ok (.aload_n 0, 1) := by decide +kernel
theorem dL_removes_203 : decode cL_removes 203 = .ok (.invokevirtual 80, 3) := by decide +kernel
theorem dL_removes_206 : decode cL_removes 206 = .ok (.istore 11, 2) := by decide +kernel
theorem dL_removes_208 : decode cL_removes 208 = .ok (.aload_n 0, 1) := by decide +kernel
theorem dL_removes_209 : decode cL_removes 209 = .ok (.invokevirtual 89, 3) := by decide +kernel
theorem dL_removes_212 : decode cL_removes 212 = .ok (.istore 12, 2) := by decide +kernel
theorem dL_removes_214 : decode cL_removes 214 = .ok (.aload_n 0, 1) := by decide +kernel
theorem dL_removes_215 : decode cL_removes 215 = .ok (.iconst 3, 1) := by decide +kernel
theorem dL_removes_216 : decode cL_removes 216 = .ok (.invokevirtual 92, 3) := by decide +kernel
theorem dL_removes_219 : decode cL_removes 219 = .ok (.istore 13, 2) := by decide +kernel
theorem dL_removes_221 : decode cL_removes 221 = .ok (.aload_n 0, 1) := by decide +kernel
theorem dL_removes_222 : decode cL_removes 222 = .ok (.bipush 7, 2) := by decide +kernel
theorem dL_removes_224 : decode cL_removes 224 = .ok (.invokevirtual 92, 3) := by decide +kernel
theorem dL_removes_227 : decode cL_removes 227 = .ok (.istore 14, 2) := by decide +kernel
theorem dL_removes_229 : decode cL_removes 229 = .ok (.aload_n 0, 1) := by decide +kernel
theorem dL_removes_230 : decode cL_removes 230 = .ok (.aload_n 2, 1) := by decide +kernel
theorem dL_removes_231 : decode cL_removes 231 = .ok (.iload 11, 2) := by decide +kernel
theorem dL_removes_233 : decode cL_removes 233 = .ok (.iconst 1, 1) := by decide +kernel
theorem dL_removes_234 : decode cL_removes 234 = .ok (.if_icmp .ne 7, 3) := by decide +kernel
theorem dL_removes_237 : decode cL_removes 237 = .ok (.iconst 1, 1) := by decide +kernel
theorem dL_removes_238 : decode cL_removes 238 = .ok (.goto 4, 3) := by decide +kernel
theorem dL_removes_241 : decode cL_removes 241 = .ok (.iconst 0, 1) := by decide +kernel
theorem dL_removes_242 : decode cL_removes 242 = .ok (.invokestatic 107, 3) := by decide +kernel
theorem dL_removes_245 : decode cL_removes 245 = .ok (.aload_n 0, 1) := by decide +kernel
theorem dL_removes_246 : decode cL_removes 246 = .ok (.invokevirtual 73, 3) := by decide +kernel
theorem dL_removes_249 : decode cL_removes 249 = .ok (.istore 15, 2) := by decide +kernel
theorem dL_removes_251 : decode cL_removes 251 = .ok (.iload 10, 2) := by decide +kernel
theorem dL_removes_253 : decode cL_removes 253 = .ok (.ifCond .eq 12, 3) := by decide +kernel
theorem dL_removes_256 : decode cL_removes 256 = .ok (.aload_n 0, 1) := by decide +kernel
theorem dL_removes_257 : decode cL_removes 257 = .ok (.iload 7, 2) := by decide +kernel
theorem dL_removes_259 : decode cL_removes 259 = .ok (.invokevirtual 120, 3) := by decide +kernel
theorem dL_removes_262 : decode cL_removes 262 = .ok (.goto 11, 3) := by decide +kernel
theorem dL_removes_265 : decode cL_removes 265 = .ok (.aload_n 0, 1) := by decide +kernel
theorem dL_removes_266 : decode cL_removes 266 = .ok (.iload 7, 2) := by decide +kernel
theorem dL_removes_268 : decode cL_removes 268 = .ok (.iload 9, 2) := by decide +kernel
theorem dL_removes_270 : decode cL_removes 270 = .ok (.invokevirtual 123, 3) := by decide +kernel
theorem dL_removes_273 : decode cL_removes 273 = .ok (.istore 16, 2) := by decide +kernel
theorem dL_removes_275 : decode cL_removes 275 = .ok (.iload 16, 2) := by decide +kernel
theorem dL_removes_277 : decode cL_removes 277 = .ok (.ldc 126, 2) := by decide +kernel
theorem dL_removes_279 : decode cL_removes 279 = .ok (.if_icmp .ne 27, 3) := by decide +kernel
theorem dL_removes_282 : decode cL_removes 282 = .ok (.aload_n 0, 1) := by decide +kernel
theorem dL_removes_283 : decode cL_removes 283 = .ok (.invokestatic 95, 3) := by decide +kernel
theorem dL_removes_286 : decode cL_removes 286 = .ok (.lload 4, 2) := by decide +kernel
theorem dL_removes_288 : decode cL_removes 288 = .ok (.lcmp, 1) := by decide +kernel
theorem dL_removes_289 : decode cL_removes 289 = .ok (.ifCond .ne 15, 3) := by decide +kernel
theorem dL_removes_292 : decode cL_removes 292 = .ok (.aload_n 0, 1) := by decide +kernel
theorem dL_removes_293 : decode cL_removes 293 = .ok (.invokevirtual 41, 3) := by decide +kernel
theorem dL_removes_296 : decode cL_removes 296 = .ok (.iconst 2, 1) := by decide +kernel
theorem dL_removes_297 : decode cL_removes 297 = .ok (.if_icmp .le 7, 3) := by decide +kernel
theorem dL_removes_300 : decode cL_removes 300 = .ok (.iconst 1, 1) := by decide +kernel
theorem dL_removes_301 : decode cL_removes 301 = .ok (.goto 4, 3) := by decide +kernel
theorem dL_removes_304 : decode cL_removes 304 = .ok (.iconst 0, 1) := by decide +kernel
theorem dL_removes_305 : decode cL_removes 305 = .ok (.ireturn, 1) := by decide +kernel
theorem dL_removes_306 : decode cL_removes 306 = .ok (.iload 16, 2) := by decide +kernel
theorem dL_removes_308 : decode cL_removes 308 = .ok (.iload 6, 2) := by decide +kernel
theorem dL_removes_310 : decode cL_removes 310 = .ok (.iload 10, 2) := by decide +kernel
theorem dL_removes_312 : decode cL_removes 312 = .ok (.ifCond .eq 7, 3) := by decide +kernel
theorem dL_removes_315 : decode cL_removes 315 = .ok (.iconst 1, 1) := by decide +kernel
theorem dL_removes_316 : decode cL_removes 316 = .ok (.goto 4, 3) := by decide +kernel
theorem dL_removes_319 : decode cL_removes 319 = .ok (.iconst 2, 1) := by decide +kernel
theorem dL_removes_320 : decode cL_removes 320 = .ok (.isub, 1) := by decide +kernel
theorem dL_removes_321 : decode cL_removes 321 = .ok (.if_icmp .ne 51, 3) := by decide +kernel
theorem dL_removes_324 : decode cL_removes 324 = .ok (.iload 16, 2) := by decide +kernel
theorem dL_removes_326 : decode cL_removes 326 = .ok (.aload_n 0, 1) := by decide +kernel
theorem dL_removes_327 : decode cL_removes 327 = .ok (.invokevirtual 38, 3) := by decide +kernel
theorem dL_removes_330 : decode cL_removes 330 = .ok (.if_icmp .ne 42, 3) := by decide +kernel
theorem dL_removes_333 : decode cL_removes 333 = .ok (.aload_n 0, 1) := by decide +kernel
theorem dL_removes_334 : decode cL_removes 334 = .ok (.invokevirtual 80, 3) := by decide +kernel
theorem dL_removes_337 : decode cL_removes 337 = .ok (.iload 11, 2) := by decide +kernel
theorem dL_removes_339 : decode cL_removes 339 = .ok (.if_icmp .ne 33, 3) := by decide +kernel
theorem dL_removes_342 : decode cL_removes 342 = .ok (.aload_n 0, 1) := by decide +kernel
theorem dL_removes_343 : decode cL_removes 343 = .ok (.invokevirtual 89, 3) := by decide +kernel
theorem dL_removes_346 : decode cL_removes 346 = .ok (.iload 12, 2) := by decide +kernel
theorem dL_removes_348 : decode cL_removes 348 = .ok (.if_icmp .ne 24, 3) := by decide +kernel
theorem dL_removes_351 : decode cL_removes 351 = .ok (.aload_n 0, 1) := by decide +kernel
theorem dL_removes_352 : decode cL_removes 352 = .ok (.iconst 3, 1) := by decide +kernel
theorem dL_removes_353 : decode cL_removes 353 = .ok (.invokevirtual 92, 3) := by decide +kernel
theorem dL_removes_356 : decode cL_removes 356 = .ok (.iload 13, 2) := by decide +kernel
theorem dL_removes_358 : decode cL_removes 358 = .ok (.if_icmp .ne 14, 3) := by decide +kernel
theorem dL_removes_361 : decode cL_removes 361 = .ok (.aload_n 0, 1) := by decide +kernel
theorem dL_removes_362 : decode cL_removes 362 = .ok (.bipush 7, 2) := by decide +kernel
theorem dL_removes_364 : decode cL_removes 364 = .ok (.invokevirtual 92, 3) := by decide +kernel
theorem dL_removes_367 : decode cL_removes 367 = .ok (.iload 14, 2) := by decide +kernel
theorem dL_removes_369 : decode cL_removes 369 = .ok (.if_icmp .eq 5, 3) := by decide +kernel
theorem dL_removes_372 : decode cL_removes 372 = .ok (.iconst 0, 1) := by decide +kernel
theorem dL_removes_373 : decode cL_removes 373 = .ok (.ireturn, 1) := by decide +kernel
theorem dL_removes_374 : decode cL_removes 374 = .ok (.aload_n 0, 1) := by decide +kernel
theorem dL_removes_375 : decode cL_removes 375 = .ok (.aload_n 3, 1) := by decide +kernel
theorem dL_removes_376 : decode cL_removes 376 = .ok (.iload 11, 2) := by decide +kernel
theorem dL_removes_378 : decode cL_removes 378 = .ok (.iconst 1, 1) := by decide +kernel
theorem dL_removes_379 : decode cL_removes 379 = .ok (.if_icmp .ne 7, 3) := by decide +kernel
theorem dL_removes_382 : decode cL_removes 382 = .ok (.iconst 1, 1) := by decide +kernel
theorem dL_removes_383 : decode cL_removes 383 = .ok (.goto 4, 3) := by decide +kernel
theorem dL_removes_386 : decode cL_removes 386 = .ok (.iconst 0, 1) := by decide +kernel
theorem dL_removes_387 : decode cL_removes 387 = .ok (.invokestatic 107, 3) := by decide +kernel
theorem dL_removes_390 : decode cL_removes 390 = .ok (.iload 15, 2) := by decide +kernel
theorem dL_removes_392 : decode cL_removes 392 = .ok (.ldc 79, 2) := by decide +kernel
theorem dL_removes_394 : decode cL_removes 394 = .ok (.if_icmp .ne 7, 3) := by decide +kernel
theorem dL_removes_397 : decode cL_removes 397 = .ok (.iconst 0, 1) := by decide +kernel
theorem dL_removes_398 : decode cL_removes 398 = .ok (.goto 10, 3) := by decide +kernel
theorem dL_removes_401 : decode cL_removes 401 = .ok (.iload 15, 2) := by decide +kernel
theorem dL_removes_403 : decode cL_removes 403 = .ok (.aload_n 0, 1) := by decide +kernel
theorem dL_removes_404 : decode cL_removes 404 = .ok (.invokevirtual 73, 3) := by decide +kernel
theorem dL_removes_407 : decode cL_removes 407 = .ok (.isub, 1) := by decide +kernel
theorem dL_removes_408 : decode cL_removes 408 = .ok (.istore 17, 2) := by decide +kernel
theorem dL_removes_410 : decode cL_removes 410 = .ok (.iload 10, 2) := by decide +kernel
theorem dL_removes_412 : decode cL_removes 412 = .ok (.ifCond .eq 26, 3) := by decide +kernel
theorem dL_removes_415 : decode cL_removes 415 = .ok (.iload 17, 2) := by decide +kernel
theorem dL_removes_417 : decode cL_removes 417 = .ok (.iconst 3, 1) := by decide +kernel
theorem dL_removes_418 : decode cL_removes 418 = .ok (.if_icmp .eq 27, 3) := by decide +kernel
theorem dL_removes_421 : decode cL_removes 421 = .ok (.iload 17, 2) := by decide +kernel
theorem dL_removes_423 : decode cL_removes 423 = .ok (.bipush (-3), 2) := by decide +kernel
theorem dL_removes_425 : decode cL_removes 425 = .ok (.if_icmp .eq 20, 3) := by decide +kernel
theorem dL_removes_428 : decode cL_removes 428 = .ok (.iload 15, 2) := by decide +kernel
theorem dL_removes_430 : decode cL_removes 430 = .ok (.ldc 79, 2) := by decide +kernel
theorem dL_removes_432 : decode cL_removes 432 = .ok (.if_icmp .eq 13, 3) := by decide +kernel
theorem dL_removes_435 : decode cL_removes 435 = .ok (.goto 8, 3) := by decide +kernel
theorem dL_removes_438 : decode cL_removes 438 = .ok (.iload 17, 2) := by decide +kernel
theorem dL_removes_440 : decode cL_removes 440 = .ok (.ifCond .eq 5, 3) := by decide +kernel
theorem dL_removes_443 : decode cL_removes 443 = .ok (.iconst 0, 1) := by decide +kernel
theorem dL_removes_444 : decode cL_removes 444 = .ok (.ireturn, 1) := by decide +kernel
theorem dL_removes_445 : decode cL_removes 445 = .ok (.bipush 15, 2) := by decide +kernel
theorem dL_removes_447 : decode cL_removes 447 = .ok (.istore 18, 2) := by decide +kernel
theorem dL_removes_449 : decode cL_removes 449 = .ok (.iload 18, 2) := by decide +kernel
theorem dL_removes_451 : decode cL_removes 451 = .ok (.bipush 45, 2) := by decide +kernel
theorem dL_removes_453 : decode cL_removes 453 = .ok (.if_icmp .ge 71, 3) := by decide +kernel
theorem dL_removes_456 : decode cL_removes 456 = .ok (.iload 11, 2) := by decide +kernel
theorem dL_removes_458 : decode cL_removes 458 = .ok (.iconst 1, 1) := by decide +kernel
theorem dL_removes_459 : decode cL_removes 459 = .ok (.if_icmp .eq 8, 3) := by decide +kernel
theorem dL_removes_462 : decode cL_removes 462 = .ok (.iload 10, 2) := by decide +kernel
theorem dL_removes_464 : decode cL_removes 464 = .ok (.ifCond .ne 10, 3) := by decide +kernel
theorem dL_removes_467 : decode cL_removes 467 = .ok (.aload_n 3, 1) := by decide +kernel
theorem dL_removes_468 : decode cL_removes 468 = .ok (.iload 18, 2) := by decide +kernel
theorem dL_removes_470 : decode cL_removes 470 = .ok (.iaload, 1) := by decide +kernel
theorem dL_removes_471 : decode cL_removes 471 = .ok (.goto 34, 3) := by decide +kernel
theorem dL_removes_474 : decode cL_removes 474 = .ok (.iload 15, 2) := by decide +kernel
theorem dL_removes_476 : decode cL_removes 476 = .ok (.ldc 79, 2) := by decide +kernel
theorem dL_removes_478 : decode cL_removes 478 = .ok (.if_icmp .ne 7, 3) := by decide +kernel
theorem dL_removes_481 : decode cL_removes 481 = .ok (.iconst 0, 1) := by decide +kernel
theorem dL_removes_482 : decode cL_removes 482 = .ok (.goto 23, 3) := by decide +kernel
theorem dL_removes_485 : decode cL_removes 485 = .ok (.aload_n 3, 1) := by decide +kernel
theorem dL_removes_486 : decode cL_removes 486 = .ok (.iload 18, 2) := by decide +kernel
theorem dL_removes_488 : decode cL_removes 488 = .ok (.aload_n 2, 1) := by decide +kernel
theorem dL_removes_489 : decode cL_removes 489 = .ok (.bipush 60, 2) := by decide +kernel
theorem dL_removes_491 : decode cL_removes 491 = .ok (.iaload, 1) := by decide +kernel
theorem dL_removes_492 : decode cL_removes 492 = .ok (.iload 17, 2) := by decide +kernel
theorem dL_removes_494 : decode cL_removes 494 = .ok (.isub, 1) := by decide +kernel
theorem dL_removes_495 : decode cL_removes 495 = .ok (.aload_n 3, 1) := by decide +kernel
theorem dL_removes_496 : decode cL_removes 496 = .ok (.bipush 60, 2) := by decide +kernel
theorem dL_removes_498 : decode cL_removes 498 = .ok (.iaload, 1) := by decide +kernel
theorem dL_removes_499 : decode cL_removes 499 = .ok (.isub, 1) := by decide +kernel
theorem dL_removes_500 : decode cL_removes 500 = .ok (.iconst 2, 1) := by decide +kernel
theorem dL_removes_501 : decode cL_removes 501 = .ok (.idiv, 1) := by decide +kernel
theorem dL_removes_502 : decode cL_removes 502 = .ok (.iadd, 1) := by decide +kernel
theorem dL_removes_503 : decode cL_removes 503 = .ok (.iaload, 1) := by decide +kernel
theorem dL_removes_504 : decode cL_removes 504 = .ok (.ineg, 1) := by decide +kernel
theorem dL_removes_505 : decode cL_removes 505 = .ok (.istore 19, 2) := by decide +kernel
theorem dL_removes_507 : decode cL_removes 507 = .ok (.aload_n 2, 1) := by decide +kernel
theorem dL_removes_508 : decode cL_removes 508 = .ok (.iload 18, 2) := by decide +kernel
theorem dL_removes_510 : decode cL_removes 510 = .ok (.iaload, 1) := by decide +kernel
theorem dL_removes_511 : decode cL_removes 511 = .ok (.iload 19, 2) := by decide +kernel
theorem dL_removes_513 : decode cL_removes 513 = .ok (.if_icmp .eq 5, 3) := by decide +kernel
theorem dL_removes_516 : decode cL_removes 516 = .ok (.iconst 0, 1) := by decide +kernel
theorem dL_removes_517 : decode cL_removes 517 = .ok (.ireturn, 1) := by decide +kernel
theorem dL_removes_518 : decode cL_removes 518 = .ok (.iinc 18 1, 3) := by decide +kernel
theorem dL_removes_521 : decode cL_removes 521 = .ok (.goto (-72), 3) := by decide +kernel
theorem dL_removes_524 : decode cL_removes 524 = .ok (.aload_n 0, 1) := by decide +kernel
theorem dL_removes_525 : decode cL_removes 525 = .ok (.invokevirtual 114, 3) := by decide +kernel
theorem dL_removes_528 : decode cL_removes 528 = .ok (.ifCond .lt 17, 3) := by decide +kernel
theorem dL_removes_531 : decode cL_removes 531 = .ok (.aload_n 0, 1) := by decide +kernel
theorem dL_removes_532 : decode cL_removes 532 = .ok (.invokestatic 95, 3) := by decide +kernel
theorem dL_removes_535 : decode cL_removes 535 = .ok (.lload 4, 2) := by decide +kernel
theorem dL_removes_537 : decode cL_removes 537 = .ok (.lcmp, 1) := by decide +kernel
theorem dL_removes_538 : decode cL_removes 538 = .ok (.ifCond .ne 7, 3) := by decide +kernel
theorem dL_removes_541 : decode cL_removes 541 = .ok (.iconst 1, 1) := by decide +kernel
theorem dL_removes_542 : decode cL_removes 542 = .ok (.goto 4, 3) := by decide +kernel
theorem dL_removes_545 : decode cL_removes 545 = .ok (.iconst 0, 1) := by decide +kernel
theorem dL_removes_546 : decode cL_removes 546 = .ok (.ireturn, 1) := by decide +kernel
set_option maxRecDepth 20000 in
theorem ggL_refused_L_hash : GoodIn wsL_refused wsL_hash := goodIn_r _ [5, 6, 7, 8, 9, 10, 11, 12, 13, 14, 15, 16, 17, 18, 19, 20, 21, 22, 23, 24, 25, 26, 27, 28, 29, 30, 31, 32, 33, 34, 35, 354, 355, 356, 357, 358, 359, 360, 361, 362, 363, 364, 365] (by decide +kernel) (by decide +kernel)
set_option maxRecDepth 20000 in
theorem gL_refused_L_hash : GoodIn wsL_refused (va_wsS RL 95 yL_hash wsL_hash) := goodIn_app (goodIn_of _ (by decide +kernel)) ggL_refused_L_hash
set_option maxRecDepth 20000 in
theorem ggL_refused_X9_crossingCount : GoodIn wsL_refused wsX9_crossingCount := goodIn_r _ [12, 13, 14, 354, 355, 356, 357, 358, 359, 360, 361, 362, 363, 364, 365] (by decide +kernel) (by decide +kernel)
set_option maxRecDepth 20000 in
theorem gL_refused_X9_crossingCount : GoodIn wsL_refused (wsV RL 38 RX9 yX9_crossingCount wsX9_crossingCount) := goodIn_app (goodIn_of _ (by decide +kernel)) ggL_refused_X9_crossingCount
set_option maxRecDepth 20000 in
theorem ggL_refused_X9_append : GoodIn wsL_refused wsX9_append := goodIn_r _ [39, 24, 40, 41, 42, 43, 44, 45, 46, 47, 48, 49, 354, 355, 356, 357, 358, 359, 360, 361, 362, 366, 367] (by decide +kernel) (by decide +kernel)
set_option maxRecDepth 20000 in
theorem gL_refused_X9_append : GoodIn wsL_refused (wsV RL 9 RX9 yX9_append wsX9_append) := goodIn_app (goodIn_of _ (by decide +kernel)) ggL_refused_X9_append
set_option maxRecDepth 20000 in
theorem ggL_refused_X9_arcAt : GoodIn wsL_refused wsX9_arcAt := goodIn_r _ [23, 13, 24, 25, 26, 27, 28, 29, 30, 31, 32, 33, 34, 35, 354, 355, 356, 357, 358, 359, 360, 361, 362, 363, 364, 365] (by decide +kernel) (by decide +kernel)
set_option maxRecDepth 20000 in
theorem gL_refused_X9_arcAt : GoodIn wsL_refused (wsV RL 46 RX9 yX9_arcAt wsX9_arcAt) := goodIn_app (goodIn_of _ (by decide +kernel)) ggL_refused_X9_arcAt
set_option maxRecDepth 20000 in
theorem ggL_refused_X9_switchCrossing : GoodIn wsL_refused wsX9_switchCrossing := goodIn_r _ [53, 13, 24, 54, 25, 26, 27, 28, 29, 30, 55, 56, 57, 58, 59, 35, 60, 61, 62, 63, 64, 32, 33, 34, 65, 66, 67, 68, 69, 70, 71, 11, 72, 73, 74, 75, 76, 77, 78, 79, 80, 81, 82, 83, 84, 85, 86, 87, 88, 89, 90, 91, 92, 93, 94, 95, 96, 97, 98, 99, 100, 101, 102, 103, 104, 105, 106, 107, 108, 109, 110, 111, 112, 113, 114, 115, 116, 117, 118, 119, 120, 121, 122, 354, 355, 356, 357, 358, 359, 360, 361, 362, 363, 364, 365, 368, 369, 370, 371, 372, 373, 374] (by decide +kernel) (by decide +kernel)
set_option maxRecDepth 20000 in
theorem gL_refused_X9_switchCrossing : GoodIn wsL_refused (wsV RL 103 RX9 yX9_switchCrossing wsX9_switchCrossing) := goodIn_app (goodIn_of _ (by decide +kernel)) ggL_refused_X9_switchCrossing
set_option maxRecDepth 20000 in
theorem ggL_refused_X9_removeKink : GoodIn wsL_refused wsX9_removeKink := goodIn_r _ [126, 13, 24, 127, 54, 25, 26, 27, 28, 29, 30, 128, 129, 130, 131, 132, 133, 134, 135, 32, 33, 34, 35, 55, 56, 57, 58, 59, 136, 137, 138, 139, 140, 141, 142, 143, 144, 78, 145, 146, 77, 79, 64, 105, 106, 107, 108, 65, 66, 67, 68, 147, 148, 149, 150, 151, 152, 153, 11, 154, 19, 42, 14, 69, 70, 71, 72, 73, 74, 75, 76, 80, 81, 82, 83, 84, 85, 86, 87, 88, 89, 90, 91, 92, 93, 94, 95, 96, 354, 355, 356, 357, 358, 359, 360, 361, 362, 363, 364, 365, 368, 369, 370, 371, 372, 373, 374] (by decide +kernel) (by decide +kernel)
set_option maxRecDepth 20000 in
theorem gL_refused_X9_removeKink : GoodIn wsL_refused (wsV RL 120 RX9 yX9_removeKink wsX9_removeKink) := goodIn_app (goodIn_of _ (by decide +kernel)) ggL_refused_X9_removeKink
set_option maxRecDepth 20000 in
theorem ggL_refused_X9_removeBigon : GoodIn wsL_refused wsX9_removeBigon := goodIn_r _ [158, 13, 24, 127, 54, 25, 26, 27, 28, 29, 30, 159, 160, 130, 161, 162, 163, 164, 132, 133, 134, 135, 32, 33, 34, 35, 55, 56, 57, 58, 59, 165, 166, 167, 168, 144, 78, 145, 169, 77, 79, 139, 140, 141, 142, 143, 146, 64, 105, 106, 107, 108, 65, 66, 67, 68, 147, 148, 149, 150, 151, 152, 153, 11, 154, 19, 42, 14, 69, 70, 71, 72, 73, 74, 75, 76, 80, 81, 82, 83, 84, 85, 86, 87, 88, 89, 90, 91, 92, 93, 94, 95, 96, 354, 355, 356, 357, 358, 359, 360, 361, 362, 363, 364, 365, 368, 369, 370, 371, 372, 373, 374] (by decide +kernel) (by decide +kernel)
set_option maxRecDepth 20000 in
theorem gL_refused_X9_removeBigon : GoodIn wsL_refused (wsV RL 123 RX9 yX9_removeBigon wsX9_removeBigon) := goodIn_app (goodIn_of _ (by decide +kernel)) ggL_refused_X9_removeBigon
set_option maxRecDepth 20000 in
theorem ggL_refused_X9_isKink : GoodIn wsL_refused wsX9_isKink := goodIn_r _ [173, 13, 24, 25, 26, 27, 28, 29, 30, 128, 129, 130, 131, 132, 133, 134, 135, 32, 33, 34, 35, 354, 355, 356, 357, 358, 359, 360, 361, 362, 363, 364, 365] (by decide +kernel) (by decide +kernel)
set_option maxRecDepth 20000 in
theorem gL_refused_X9_isKink : GoodIn wsL_refused (wsV RL 67 RX9 yX9_isKink wsX9_isKink) := goodIn_app (goodIn_of _ (by decide +kernel)) ggL_refused_X9_isKink
set_option maxRecDepth 20000 in
theorem ggL_refused_X9_bigonPartner : GoodIn wsL_refused wsX9_bigonPartner := goodIn_r _ [177, 13, 24, 14, 178, 25, 26, 27, 28, 29, 30, 159, 160, 130, 161, 162, 163, 164, 132, 133, 134, 135, 32, 33, 34, 35, 354, 355, 356, 357, 358, 359, 360, 361, 362, 363, 364, 365] (by decide +kernel) (by decide +kernel)
set_option maxRecDepth 20000 in
theorem gL_refused_X9_bigonPartner : GoodIn wsL_refused (wsV RL 64 RX9 yX9_bigonPartner wsX9_bigonPartner) := goodIn_app (goodIn_of _ (by decide +kernel)) ggL_refused_X9_bigonPartner
set_option maxRecDepth 20000 in
theorem ggL_refused_X9_crossingSign : GoodIn wsL_refused wsX9_crossingSign := goodIn_r _ [182, 13, 24, 25, 26, 27, 28, 29, 30, 97, 98, 99, 100, 101, 102, 103, 104, 105, 106, 107, 108, 64, 32, 33, 34, 35, 109, 110, 111, 112, 113, 11, 114, 115, 116, 117, 118, 119, 120, 121, 122, 354, 355, 356, 357, 358, 359, 360, 361, 362, 363, 364, 365] (by decide +kernel) (by decide +kernel)
set_option maxRecDepth 20000 in
theorem gL_refused_X9_crossingSign : GoodIn wsL_refused (wsV RL 61 RX9 yX9_crossingSign wsX9_crossingSign) := goodIn_app (goodIn_of _ (by decide +kernel)) ggL_refused_X9_crossingSign
set_option maxRecDepth 20000 in
theorem ggL_refused_X9_stateLoops : GoodIn wsL_refused wsX9_stateLoops := goodIn_r _ [186, 13, 14, 24, 80, 187, 188, 189, 94, 190, 191, 192, 193, 194, 195, 196, 110, 111, 28, 112, 64, 32, 33, 34, 35, 105, 106, 107, 108, 30, 197, 198, 199, 200, 201, 202, 113, 11, 114, 203, 204, 205, 206, 118, 119, 354, 355, 356, 357, 358, 359, 360, 361, 362, 363, 364, 365, 370, 371, 372, 373, 374] (by decide +kernel) (by decide +kernel)
set_option maxRecDepth 20000 in
theorem gL_refused_X9_stateLoops : GoodIn wsL_refused (wsV RL 70 RX9 yX9_stateLoops wsX9_stateLoops) := goodIn_app (goodIn_of _ (by decide +kernel)) ggL_refused_X9_stateLoops
set_option maxRecDepth 20000 in
theorem ggL_refused_X9_coefficient : GoodIn wsL_refused wsX9_coefficient := goodIn_r _ [210, 24, 80, 13, 211, 212, 11, 213, 214, 215, 216, 94, 217, 96, 218, 191, 192, 193, 194, 195, 196, 110, 111, 28, 112, 64, 32, 33, 34, 35, 105, 106, 107, 108, 30, 219, 220, 221, 222, 223, 197, 198, 199, 200, 201, 202, 113, 114, 203, 204, 205, 206, 118, 119, 224, 225, 226, 227, 228, 229, 230, 231, 232, 233, 234, 235, 236, 237, 238, 239, 240, 241, 242, 243, 244, 245, 246, 247, 248, 249, 250, 251, 252, 354, 355, 356, 357, 358, 359, 360, 361, 362, 370, 371, 372, 373, 374, 363, 364, 365] (by decide +kernel) (by decide +kernel)
set_option maxRecDepth 20000 in
theorem gL_refused_X9_coefficient : GoodIn wsL_refused (wsV RL 55 RX9 yX9_coefficient wsX9_coefficient) := goodIn_app (goodIn_of _ (by decide +kernel)) ggL_refused_X9_coefficient
set_option maxRecDepth 20000 in
theorem ggL_refused_X9_normalizedCoefficient : GoodIn wsL_refused wsX9_normalizedCoefficient := goodIn_r _ [256, 24, 80, 13, 211, 212, 11, 213, 214, 215, 216, 94, 217, 96, 218, 191, 192, 193, 194, 195, 196, 110, 111, 28, 112, 64, 32, 33, 34, 35, 105, 106, 107, 108, 30, 219, 220, 221, 222, 223, 197, 198, 199, 200, 201, 202, 113, 114, 203, 204, 205, 206, 118, 119, 224, 225, 226, 227, 228, 229, 230, 231, 232, 233, 234, 235, 236, 237, 238, 239, 240, 241, 242, 243, 244, 245, 246, 247, 248, 249, 250, 251, 257, 258, 99, 259, 260, 261, 98, 100, 101, 102, 103, 104, 109, 115, 116, 117, 262, 121, 122, 252, 354, 355, 356, 357, 358, 359, 360, 361, 362, 370, 371, 372, 373, 374, 363, 364, 365] (by decide +kernel) (by decide +kernel)
set_option maxRecDepth 20000 in
theorem gL_refused_X9_normalizedCoefficient : GoodIn wsL_refused (wsV RL 52 RX9 yX9_normalizedCoefficient wsX9_normalizedCoefficient) := goodIn_app (goodIn_of _ (by decide +kernel)) ggL_refused_X9_normalizedCoefficient
set_option maxRecDepth 20000 in
theorem ggL_refused_X9_colouringDimension : GoodIn wsL_refused wsX9_colouringDimension := goodIn_r _ [266, 24, 267, 13, 268, 269, 270, 271, 272, 273, 274, 275, 276, 277, 278, 279, 280, 77, 78, 79, 281, 144, 145, 282, 32, 33, 28, 34, 35, 283, 284, 285, 286, 287, 288, 289, 290, 291, 292, 293, 294, 295, 296, 297, 298, 299, 300, 301, 302, 303, 304, 305, 306, 307, 308, 309, 310, 311, 312, 313, 314, 315, 316, 102, 103, 104, 105, 106, 107, 108, 30, 64, 317, 318, 319, 320, 321, 322, 323, 324, 325, 326, 327, 328, 329, 330, 331, 332, 354, 355, 356, 357, 358, 359, 360, 361, 362, 363, 364, 365, 375, 376] (by decide +kernel) (by decide +kernel)
set_option maxRecDepth 20000 in
theorem gL_refused_X9_colouringDimension : GoodIn wsL_refused (wsV RL 92 RX9 yX9_colouringDimension wsX9_colouringDimension) := goodIn_app (goodIn_of _ (by decide +kernel)) ggL_refused_X9_colouringDimension
set_option maxRecDepth 20000 in
theorem ggL_refused_X9_save : GoodIn wsL_refused wsX9_save := goodIn_r _ [336, 24, 74, 13, 14, 337, 338, 11, 339, 81, 82, 83, 84, 85, 86, 87, 88, 89, 90, 32, 33, 28, 34, 35, 354, 355, 356, 357, 358, 359, 360, 361, 362, 363, 364, 365, 368, 369] (by decide +kernel) (by decide +kernel)
set_option maxRecDepth 20000 in
theorem gL_refused_X9_save : GoodIn wsL_refused (wsV RL 127 RX9 yX9_save wsX9_save) := goodIn_app (goodIn_of _ (by decide +kernel)) ggL_refused_X9_save
set_option maxRecDepth 20000 in
theorem ggL_refused_X9_restore : GoodIn wsL_refused wsX9_restore := goodIn_r _ [343, 24, 74, 127, 13, 80, 75, 14, 337, 338, 11, 339, 344, 345, 346, 84, 347, 89, 348, 349, 350, 351, 86, 87, 88, 352, 353, 66, 67, 28, 68, 35, 91, 92, 93, 94, 95, 96, 354, 355, 356, 357, 358, 359, 360, 361, 362, 363, 364, 365, 368, 369, 370, 371, 372, 373, 374] (by decide +kernel) (by decide +kernel)
set_option maxRecDepth 20000 in
theorem gL_refused_X9_restore : GoodIn wsL_refused (wsV RL 130 RX9 yX9_restore wsX9_restore) := goodIn_app (goodIn_of _ (by decide +kernel)) ggL_refused_X9_restore
theorem dL_refused_0 : decode cL_refused 0 = .ok (.aload_n 0, 1) := by decide +kernel
theorem dL_refused_1 : decode cL_refused 1 = .ok (.invokestatic 95, 3) := by decide +kernel
theorem dL_refused_4 : decode cL_refused 4 = .ok (.lstore_n 2, 1) := by decide +kernel
theorem dL_refused_5 : decode cL_refused 5 = .ok (.aload_n 0, 1) := by decide +kernel
theorem dL_refused_6 : decode cL_refused 6 = .ok (.invokevirtual 38, 3) := by decide +kernel
theorem dL_refused_9 : decode cL_refused 9 = .ok (.istore 4, 2) := by decide +kernel
theorem dL_refused_11 : decode cL_refused 11 = .ok (.aload_n 0, 1) := by decide +kernel
theorem dL_refused_12 : decode cL_refused 12 = .ok (.iload_n 1, 1) := by decide +kernel
theorem dL_refused_13 : decode cL_refused 13 = .ok (.sipush 256, 3) := by decide +kernel
theorem dL_refused_16 : decode cL_refused 16 = .ok (.ior, 1) := by decide +kernel
theorem dL_refused_17 : decode cL_refused 17 = .ok (.invokevirtual 9, 3) := by decide +kernel
theorem dL_refused_20 : decode cL_refused 20 = .ok (.ldc 106, 2) := by decide +kernel
theorem dL_refused_22 : decode cL_refused 22 = .ok (.if_icmp .ne 223, 3) := by decide +kernel
theorem dL_refused_25 : decode cL_refused 25 = .ok (.aload_n 0, 1) := by decide +kernel
theorem dL_refused_26 : decode cL_refused 26 = .ok (.iload 4, 2) := by decide +kernel
theorem dL_refused_28 : decode cL_refused 28 = .ok (.iconst 0, 1) := by decide +kernel
theorem dL_refused_29 : decode cL_refused 29 = .ok (.invokevirtual 46, 3) := by decide +kernel
theorem dL_refused_32 : decode cL_refused 32 = .ok (.ldc 106, 2) := by decide +kernel
theorem dL_refused_34 : decode cL_refused 34 = .ok (.if_icmp .ne 211, 3) := by decide +kernel
theorem dL_refused_37 : decode cL_refused 37 = .ok (.aload_n 0, 1) := by decide +kernel
theorem dL_refused_38 : decode cL_refused 38 = .ok (.iconst 0, 1) := by decide +kernel
theorem dL_refused_39 : decode cL_refused 39 = .ok (.iload_n 1, 1) := by decide +kernel
theorem dL_refused_40 : decode cL_refused 40 = .ok (.iconst 4, 1) := by decide +kernel
theorem dL_refused_41 : decode cL_refused 41 = .ok (.ior, 1) := by decide +kernel
theorem dL_refused_42 : decode cL_refused 42 = .ok (.invokevirtual 46, 3) := by decide +kernel
theorem dL_refused_45 : decode cL_refused 45 = .ok (.ldc 106, 2) := by decide +kernel
theorem dL_refused_47 : decode cL_refused 47 = .ok (.if_icmp .ne 198, 3) := by decide +kernel
theorem dL_refused_50 : decode cL_refused 50 = .ok (.aload_n 0, 1) := by decide +kernel
theorem dL_refused_51 : decode cL_refused 51 = .ok (.iload_n 1, 1) := by decide +kernel
theorem dL_refused_52 : decode cL_refused 52 = .ok (.bipush 8, 2) := by decide +kernel
theorem dL_refused_54 : decode cL_refused 54 = .ok (.ior, 1) := by decide +kernel
theorem dL_refused_55 : decode cL_refused 55 = .ok (.invokevirtual 103, 3) := by decide +kernel
theorem dL_refused_58 : decode cL_refused 58 = .ok (.ldc 106, 2) := by decide +kernel
theorem dL_refused_60 : decode cL_refused 60 = .ok (.if_icmp .ne 185, 3) := by decide +kernel
theorem dL_refused_63 : decode cL_refused 63 = .ok (.aload_n 0, 1) := by decide +kernel
theorem dL_refused_64 : decode cL_refused 64 = .ok (.iload 4, 2) := by decide +kernel
theorem dL_refused_66 : decode cL_refused 66 = .ok (.invokevirtual 120, 3) := by decide +kernel
theorem dL_refused_69 : decode cL_refused 69 = .ok (.ldc 106, 2) := by decide +kernel
theorem dL_refused_71 : decode cL_refused 71 = .ok (.if_icmp .ne 174, 3) := by decide +kernel
theorem dL_refused_74 : decode cL_refused 74 = .ok (.aload_n 0, 1) := by decide +kernel
theorem dL_refused_75 : decode cL_refused 75 = .ok (.iload 4, 2) := by decide +kernel
theorem dL_refused_77 : decode cL_refused 77 = .ok (.iconst 0, 1) := by decide +kernel
theorem dL_refused_78 : decode cL_refused 78 = .ok (.invokevirtual 123, 3) := by decide +kernel
theorem dL_refused_81 : decode cL_refused 81 = .ok (.ldc 106, 2) := by decide +kernel
theorem dL_refused_83 : decode cL_refused 83 = .ok (.if_icmp .ne 162, 3) := by decide +kernel
theorem dL_refused_86 : decode cL_refused 86 = .ok (.aload_n 0, 1) := by decide +kernel
theorem dL_refused_87 : decode cL_refused 87 = .ok (.iconst 0, 1) := by decide +kernel
theorem dL_refused_88 : decode cL_refused 88 = .ok (.iload_n 1, 1) := by decide +kernel
theorem dL_refused_89 : decode cL_refused 89 = .ok (.bipush 8, 2) := by decide +kernel
theorem dL_refused_91 : decode cL_refused 91 = .ok (.ior, 1) := by decide +kernel
theorem dL_refused_92 : decode cL_refused 92 = .ok (.invokevirtual 123, 3) := by decide +kernel
theorem dL_refused_95 : decode cL_refused 95 = .ok (.ldc 106, 2) := by decide +kernel
theorem dL_refused_97 : decode cL_refused 97 = .ok (.if_icmp .ne 148, 3) := by decide +kernel
theorem dL_refused_100 : decode cL_refused 100 = .ok (.aload_n 0, 1) := by decide +kernel
theorem dL_refused_101 : decode cL_refused 101 = .ok (.iconst (-1), 1) := by decide +kernel
theorem dL_refused_102 : decode cL_refused 102 = .ok (.invokevirtual 67, 3) := by decide +kernel
theorem dL_refused_105 : decode cL_refused 105 = .ok (.ldc 106, 2) := by decide +kernel
theorem dL_refused_107 : decode cL_refused 107 = .ok (.if_icmp .ne 138, 3) := by decide +kernel
theorem dL_refused_110 : decode cL_refused 110 = .ok (.aload_n 0, 1) := by decide +kernel
theorem dL_refused_111 : decode cL_refused 111 = .ok (.iload 4, 2) := by decide +kernel
theorem dL_refused_113 : decode cL_refused 113 = .ok (.invokevirtual 64, 3) := by decide +kernel
theorem dL_refused_116 : decode cL_refused 116 = .ok (.ldc 106, 2) := by decide +kernel
theorem dL_refused_118 : decode cL_refused 118 = .ok (.if_icmp .ne 127, 3) := by decide +kernel
theorem dL_refused_121 : decode cL_refused 121 = .ok (.aload_n 0, 1) := by decide +kernel
theorem dL_refused_122 : decode cL_refused 122 = .ok (.iload_n 1, 1) := by decide +kernel
theorem dL_refused_123 : decode cL_refused 123 = .ok (.bipush 8, 2) := by decide +kernel
theorem dL_refused_125 : decode cL_refused 125 = .ok (.ior, 1) := by decide +kernel
theorem dL_refused_126 : decode cL_refused 126 = .ok (.invokevirtual 61, 3) := by decide +kernel
theorem dL_refused_129 : decode cL_refused 129 = .ok (.ldc 106, 2) := by decide +kernel
theorem dL_refused_131 : decode cL_refused 131 = .ok (.if_icmp .ne 114, 3) := by decide +kernel
theorem dL_refused_134 : decode cL_refused 134 = .ok (.aload_n 0, 1) := by decide +kernel
theorem dL_refused_135 : decode cL_refused 135 = .ok (.iconst 1, 1) := by decide +kernel
theorem dL_refused_136 : decode cL_refused 136 = .ok (.iload 4, 2) := by decide +kernel
theorem dL_refused_138 : decode cL_refused 138 = .ok (.ishl, 1) := by decide +kernel
theorem dL_refused_139 : decode cL_refused 139 = .ok (.invokevirtual 70, 3) := by decide +kernel
theorem dL_refused_142 : decode cL_refused 142 = .ok (.ldc 106, 2) := by decide +kernel
theorem dL_refused_144 : decode cL_refused 144 = .ok (.if_icmp .ne 101, 3) := by decide +kernel
theorem dL_refused_147 : decode cL_refused 147 = .ok (.aload_n 0, 1) := by decide +kernel
theorem dL_refused_148 : decode cL_refused 148 = .ok (.iload_n 1, 1) := by decide +kernel
theorem dL_refused_149 : decode cL_refused 149 = .ok (.sipush 256, 3) := by decide +kernel
theorem dL_refused_152 : decode cL_refused 152 = .ok (.ior, 1) := by decide +kernel
theorem dL_refused_153 : decode cL_refused 153 = .ok (.invokevirtual 70, 3) := by decide +kernel
theorem dL_refused_156 : decode cL_refused 156 = .ok (.ldc 106, 2) := by decide +kernel
theorem dL_refused_158 : decode cL_refused 158 = .ok (.if_icmp .ne 87, 3) := by decide +kernel
theorem dL_refused_161 : decode cL_refused 161 = .ok (.aload_n 0, 1) := by decide +kernel
theorem dL_refused_162 : decode cL_refused 162 = .ok (.bipush 61, 2) := by decide +kernel
theorem dL_refused_164 : decode cL_refused 164 = .ok (.iload_n 1, 1) := by decide +kernel
theorem dL_refused_165 : decode cL_refused 165 = .ok (.bipush 63, 2) := by decide +kernel
theorem dL_refused_167 : decode cL_refused 167 = .ok (.iand, 1) := by decide +kernel
theorem dL_refused_168 : decode cL_refused 168 = .ok (.iadd, 1) := by decide +kernel
theorem dL_refused_169 : decode cL_refused 169 = .ok (.invokevirtual 55, 3) := by decide +kernel
theorem dL_refused_172 : decode cL_refused 172 = .ok (.ldc 106, 2) := by decide +kernel
theorem dL_refused_174 : decode cL_refused 174 = .ok (.if_icmp .ne 71, 3) := by decide +kernel
theorem dL_refused_177 : decode cL_refused 177 = .ok (.aload_n 0, 1) := by decide +kernel
theorem dL_refused_178 : decode cL_refused 178 = .ok (.bipush (-61), 2) := by decide +kernel
theorem dL_refused_180 : decode cL_refused 180 = .ok (.iload_n 1, 1) := by decide +kernel
theorem dL_refused_181 : decode cL_refused 181 = .ok (.bipush 63, 2) := by decide +kernel
theorem dL_refused_183 : decode cL_refused 183 = .ok (.iand, 1) := by decide +kernel
theorem dL_refused_184 : decode cL_refused 184 = .ok (.isub, 1) := by decide +kernel
theorem dL_refused_185 : decode cL_refused 185 = .ok (.invokevirtual 55, 3) := by decide +kernel
theorem dL_refused_188 : decode cL_refused 188 = .ok (.ldc 106, 2) := by decide +kernel
theorem dL_refused_190 : decode cL_refused 190 = .ok (.if_icmp .ne 55, 3) := by decide +kernel
theorem dL_refused_193 : decode cL_refused 193 = .ok (.aload_n 0, 1) := by decide +kernel
theorem dL_refused_194 : decode cL_refused 194 = .ok (.bipush (-61), 2) := by decide +kernel
theorem dL_refused_196 : decode cL_refused 196 = .ok (.invokevirtual 52, 3) := by decide +kernel
theorem dL_refused_199 : decode cL_refused 199 = .ok (.ldc 106, 2) := by decide +kernel
theorem dL_refused_201 : decode cL_refused 201 = .ok (.if_icmp .ne 44, 3) := by decide +kernel
theorem dL_refused_204 : decode cL_refused 204 = .ok (.aload_n 0, 1) := by decide +kernel
theorem dL_refused_205 : decode cL_refused 205 = .ok (.iload_n 1, 1) := by decide +kernel
theorem dL_refused_206 : decode cL_refused 206 = .ok (.bipush 16, 2) := by decide +kernel
theorem dL_refused_208 : decode cL_refused 208 = .ok (.ior, 1) := by decide +kernel
theorem dL_refused_209 : decode cL_refused 209 = .ok (.invokevirtual 92, 3) := by decide +kernel
theorem dL_refused_212 : decode cL_refused 212 = .ok (.ldc 106, 2) := by decide +kernel
theorem dL_refused_214 : decode cL_refused 214 = .ok (.if_icmp .ne 31, 3) := by decide +kernel
theorem dL_refused_217 : decode cL_refused 217 = .ok (.aload_n 0, 1) := by decide +kernel
theorem dL_refused_218 : decode cL_refused 218 = .ok (.iload_n 1, 1) := by decide +kernel
theorem dL_refused_219 : decode cL_refused 219 = .ok (.iconst 2, 1) := by decide +kernel
theorem dL_refused_220 : decode cL_refused 220 = .ok (.ior, 1) := by decide +kernel
theorem dL_refused_221 : decode cL_refused 221 = .ok (.invokevirtual 127, 3) := by decide +kernel
theorem dL_refused_224 : decode cL_refused 224 = .ok (.ldc 106, 2) := by decide +kernel
theorem dL_refused_226 : decode cL_refused 226 = .ok (.if_icmp .ne 19, 3) := by decide +kernel
theorem dL_refused_229 : decode cL_refused 229 = .ok (.aload_n 0, 1) := by decide +kernel
theorem dL_refused_230 : decode cL_refused 230 = .ok (.iload_n 1, 1) := by decide +kernel
theorem dL_refused_231 : decode cL_refused 231 = .ok (.iconst 2, 1) := by decide +kernel
theorem dL_refused_232 : decode cL_refused 232 = .ok (.ior, 1) := by decide +kernel
theorem dL_refused_233 : decode cL_refused 233 = .ok (.invokevirtual 130, 3) := by decide +kernel
theorem dL_refused_236 : decode cL_refused 236 = .ok (.ldc 106, 2) := by decide +kernel
theorem dL_refused_238 : decode cL_refused 238 = .ok (.if_icmp .ne 7, 3) := by decide +kernel
theorem dL_refused_241 : decode cL_refused 241 = .ok (.iconst 1, 1) := by decide +kernel
theorem dL_refused_242 : decode cL_refused 242 = .ok (.goto 4, 3) := by decide +kernel
theorem dL_refused_245 : decode cL_refused 245 = .ok (.iconst 0, 1) := by decide +kernel
theorem dL_refused_246 : decode cL_refused 246 = .ok (.istore 5, 2) := by decide +kernel
theorem dL_refused_248 : decode cL_refused 248 = .ok (.iload 5, 2) := by decide +kernel
theorem dL_refused_250 : decode cL_refused 250 = .ok (.ifCond .eq 16, 3) := by decide +kernel
theorem dL_refused_253 : decode cL_refused 253 = .ok (.aload_n 0, 1) := by decide +kernel
theorem dL_refused_254 : decode cL_refused 254 = .ok (.invokestatic 95, 3) := by decide +kernel
theorem dL_refused_257 : decode cL_refused 257 = .ok (.lload_n 2, 1) := by decide +kernel
theorem dL_refused_258 : decode cL_refused 258 = .ok (.lcmp, 1) := by decide +kernel
theorem dL_refused_259 : decode cL_refused 259 = .ok (.ifCond .ne 7, 3) := by decide +kernel
theorem dL_refused_262 : decode cL_refused 262 = .ok (.iconst 1, 1) := by decide +kernel
theorem dL_refused_263 : decode cL_refused 263 = .ok (.goto 4, 3) := by decide +kernel
theorem dL_refused_266 : decode cL_refused 266 = .ok (.iconst 0, 1) := by decide +kernel
theorem dL_refused_267 : decode cL_refused 267 = .ok (.ireturn, 1) := by decide +kernel
set_option maxRecDepth 20000 in
theorem ggL_law_X9_init : GoodIn wsL_law wsX9_init := goodIn_r _ [7, 8, 9, 10, 11, 12, 13, 14, 15, 16, 17, 18, 19, 20, 21, 22, 23, 24, 25, 26, 27, 28, 29, 30, 31, 32, 33, 34, 35, 36, 37, 38, 39, 3, 40, 41, 42, 43, 44, 45, 46, 47, 48, 49, 50, 51, 52, 53, 54, 55, 56, 57, 58, 59, 60, 61, 62, 63, 64, 65, 595, 596, 586, 587, 588, 589, 590, 591, 592, 593, 594, 597, 598, 599, 600, 601, 602, 603, 604, 605, 606, 607, 608, 609, 610] (by decide +kernel) (by decide +kernel)
set_option maxRecDepth 20000 in
theorem gL_law_X9_init : GoodIn wsL_law (wsX9_init) := ggL_law_X9_init
set_option maxRecDepth 20000 in

theorem ggL_law_L_sound_h : GoodIn wsL_law [.code yL_sound cL_sound 10 (some .boolean)] := goodIn_r _ [69] (by decide +kernel) (by decide +kernel)
set_option maxRecDepth 20000 in
theorem ggL_law_L_sound_1 : GoodIn wsL_law wsL_sound_r1 := goodIn_r _ [70, 71, 72, 73, 2, 74, 22, 75, 76, 77, 78, 79, 80, 81, 82, 83, 36, 84, 85, 86, 87, 88, 89, 90] (by decide +kernel) (by decide +kernel)
set_option maxRecDepth 20000 in
theorem ggL_law_L_sound_2 : GoodIn wsL_law wsL_sound_r2 := goodIn_r _ [91, 92, 93, 94, 95, 96, 97, 98, 21, 99, 100, 101, 102, 103, 104, 105, 106, 107, 108, 47, 109, 110, 111, 112] (by decide +kernel) (by decide +kernel)
set_option maxRecDepth 20000 in
theorem ggL_law_L_sound_3 : GoodIn wsL_law wsL_sound_r3 := goodIn_r _ [113, 114, 115, 116, 117, 118, 119, 120, 121, 122, 123, 124, 125, 126, 127, 128, 129, 130, 131, 132, 133, 134, 135, 136] (by decide +kernel) (by decide +kernel)
set_option maxRecDepth 20000 in
theorem ggL_law_L_sound_4 : GoodIn wsL_law wsL_sound_r4 := goodIn_r _ [137, 138, 139, 140, 141, 142, 143, 144, 145, 146, 147, 148, 149, 150, 151, 152, 153, 154, 155, 156, 157, 158, 159, 160] (by decide +kernel) (by decide +kernel)
set_option maxRecDepth 20000 in
theorem ggL_law_L_sound_5 : GoodIn wsL_law wsL_sound_r5 := goodIn_r _ [161, 162, 163, 164, 165, 166, 167, 168, 169, 170, 171, 172, 173, 174, 175, 31, 176, 177, 178, 30, 179, 180, 181, 182] (by decide +kernel) (by decide +kernel)
set_option maxRecDepth 20000 in
theorem ggL_law_L_sound_6 : GoodIn wsL_law wsL_sound_r6 := goodIn_r _ [183, 57, 184, 185, 186, 187, 188, 189, 190, 191, 192, 193, 194, 195, 196, 197, 198, 199, 200, 201, 202, 203, 204, 205] (by decide +kernel) (by decide +kernel)
set_option maxRecDepth 20000 in
theorem ggL_law_L_sound_7 : GoodIn wsL_law wsL_sound_r7 := goodIn_r _ [206, 207, 208, 58, 209, 210, 211, 212, 213, 214, 215, 216, 217, 218, 219, 220, 221, 222, 59, 223, 224, 225, 226, 60] (by decide +kernel) (by decide +kernel)
set_option maxRecDepth 20000 in
theorem ggL_law_L_sound_8 : GoodIn wsL_law wsL_sound_r8 := goodIn_r _ [227, 228, 229, 230, 231, 232, 233, 234, 235, 236, 237, 238, 239, 240, 241, 242, 243, 244, 245, 246, 247, 248, 249, 250] (by decide +kernel) (by decide +kernel)
set_option maxRecDepth 20000 in
theorem ggL_law_L_sound_9 : GoodIn wsL_law wsL_sound_r9 := goodIn_r _ [251, 252, 253, 254, 255, 256, 257, 258, 259, 260, 261, 262, 263, 264, 265, 266, 267, 268, 269, 270, 271, 272, 273, 274] (by decide +kernel) (by decide +kernel)
set_option maxRecDepth 20000 in
theorem ggL_law_L_sound_10 : GoodIn wsL_law wsL_sound_r10 := goodIn_r _ [275, 276, 277, 278, 279, 280, 281, 282, 283, 284, 285, 286, 287, 288, 289, 290, 291, 292, 35, 293, 294, 295, 34, 296] (by decide +kernel) (by decide +kernel)
set_option maxRecDepth 20000 in
theorem ggL_law_L_sound_11 : GoodIn wsL_law wsL_sound_r11 := goodIn_r _ [297, 298, 299, 300, 301, 302, 64, 303, 304, 305, 306, 307, 308, 309, 310, 311, 312, 313, 314, 315, 316, 317, 318, 319] (by decide +kernel) (by decide +kernel)
set_option maxRecDepth 20000 in
theorem ggL_law_L_sound_12 : GoodIn wsL_law wsL_sound_r12 := goodIn_r _ [320, 321, 65, 322, 323, 324, 325, 326, 327, 328, 329, 330, 331, 332, 333, 334, 335, 336, 337, 338, 339, 340, 341, 342] (by decide +kernel) (by decide +kernel)
set_option maxRecDepth 20000 in
theorem ggL_law_L_sound_13 : GoodIn wsL_law wsL_sound_r13 := goodIn_r _ [343, 344, 345, 346, 347, 348, 349, 350, 351, 352, 353, 354, 355, 356, 357, 358] (by decide +kernel) (by decide +kernel)
set_option maxRecDepth 20000 in
theorem ggL_law_L_sound_14 : GoodIn wsL_law wsX90 := goodIn_r _ [586, 587, 588, 589, 590, 591, 592, 593, 594] (by decide +kernel) (by decide +kernel)
set_option maxRecDepth 20000 in
theorem ggL_law_L_sound_15 : GoodIn wsL_law wsX20 := goodIn_r _ [599, 600, 601] (by decide +kernel) (by decide +kernel)
set_option maxRecDepth 20000 in
theorem ggL_law_L_sound_16 : GoodIn wsL_law wsX00 := goodIn_r _ [604, 605, 606, 607, 608] (by decide +kernel) (by decide +kernel)
set_option maxRecDepth 20000 in
theorem ggL_law_L_sound_17 : GoodIn wsL_law wsX10 := goodIn_r _ [609, 610] (by decide +kernel) (by decide +kernel)
theorem ggL_law_L_sound : GoodIn wsL_law wsL_sound := goodIn_app ggL_law_L_sound_h (goodIn_app (goodIn_app (goodIn_app (goodIn_app (goodIn_app ggL_law_L_sound_1 (goodIn_app ggL_law_L_sound_2 (goodIn_app ggL_law_L_sound_3 (goodIn_app ggL_law_L_sound_4 (goodIn_app ggL_law_L_sound_5 (goodIn_app ggL_law_L_sound_6 (goodIn_app ggL_law_L_sound_7 (goodIn_app ggL_law_L_sound_8 (goodIn_app ggL_law_L_sound_9 (goodIn_app ggL_law_L_sound_10 (goodIn_app ggL_law_L_sound_11 (goodIn_app ggL_law_L_sound_12 ggL_law_L_sound_13)))))))))))) ggL_law_L_sound_14) ggL_law_L_sound_15) ggL_law_L_sound_16) ggL_law_L_sound_17)
set_option maxRecDepth 20000 in
theorem gL_law_L_sound : GoodIn wsL_law (va_wsS RL 134 yL_sound wsL_sound) := goodIn_app (goodIn_of _ (by decide +kernel)) ggL_law_L_sound
set_option maxRecDepth 20000 in
theorem ggL_law_L_cell : GoodIn wsL_law wsL_cell := goodIn_r _ [361, 362] (by decide +kernel) (by decide +kernel)
set_option maxRecDepth 20000 in
theorem gL_law_L_cell : GoodIn wsL_law (va_wsS RL 15 yL_cell wsL_cell) := goodIn_app (goodIn_of _ (by decide +kernel)) ggL_law_L_cell
set_option maxRecDepth 20000 in

theorem ggL_law_L_refused_h : GoodIn wsL_law [.code yL_refused cL_refused 6 (some .boolean)] := goodIn_r _ [365] (by decide +kernel) (by decide +kernel)
set_option maxRecDepth 20000 in
theorem ggL_law_L_refused_1 : GoodIn wsL_law wsL_refused_r1 := goodIn_r _ [366, 367, 368, 68, 369, 370, 371, 71, 72, 73, 2, 74, 22, 75, 372, 373, 374, 375, 36, 167, 168, 169, 170, 124] (by decide +kernel) (by decide +kernel)
set_option maxRecDepth 20000 in
theorem ggL_law_L_refused_2 : GoodIn wsL_law wsL_refused_r2 := goodIn_r _ [125, 126, 127, 21, 128, 100, 171, 106, 107, 108, 47, 376, 377, 378, 379, 14, 380, 381, 382, 383, 384, 13, 385, 386] (by decide +kernel) (by decide +kernel)
set_option maxRecDepth 20000 in
theorem ggL_law_L_refused_3 : GoodIn wsL_law wsL_refused_r3 := goodIn_r _ [40, 387, 388, 389, 390, 23, 391, 392, 393, 394, 395, 396, 397, 398, 399, 105, 400, 401, 402, 403, 404, 405, 406, 407] (by decide +kernel) (by decide +kernel)
set_option maxRecDepth 20000 in
theorem ggL_law_L_refused_4 : GoodIn wsL_law wsL_refused_r4 := goodIn_r _ [408, 27, 409, 410, 304, 286, 305, 31, 411, 412, 413, 26, 414, 51, 415, 416, 53, 417, 418, 419, 420, 30, 421, 203] (by decide +kernel) (by decide +kernel)
set_option maxRecDepth 20000 in
theorem ggL_law_L_refused_5 : GoodIn wsL_law wsL_refused_r5 := goodIn_r _ [129, 130, 131, 132, 133, 134, 135, 136, 109, 97, 98, 99, 137, 102, 103, 104, 89, 90, 138, 139, 140, 94, 95, 141] (by decide +kernel) (by decide +kernel)
set_option maxRecDepth 20000 in
theorem ggL_law_L_refused_6 : GoodIn wsL_law wsL_refused_r6 := goodIn_r _ [142, 143, 422, 423, 424, 425, 426, 164, 165, 151, 166, 156, 157, 158, 159, 427, 428, 429, 430, 431, 432, 433, 434, 307] (by decide +kernel) (by decide +kernel)
set_option maxRecDepth 20000 in
theorem ggL_law_L_refused_7 : GoodIn wsL_law wsL_refused_r7 := goodIn_r _ [308, 435, 436, 437, 438, 439, 440, 441, 442, 443, 444, 445, 446, 447, 149, 150, 152, 153, 154, 155, 448, 449, 450, 451] (by decide +kernel) (by decide +kernel)
set_option maxRecDepth 20000 in
theorem ggL_law_L_refused_8 : GoodIn wsL_law wsL_refused_r8 := goodIn_r _ [452, 160, 161, 162, 163, 144, 145, 146, 147, 148, 120, 121, 122, 123, 172, 173, 174, 175, 176, 177, 178, 179, 180, 181] (by decide +kernel) (by decide +kernel)
set_option maxRecDepth 20000 in
theorem ggL_law_L_refused_9 : GoodIn wsL_law wsL_refused_r9 := goodIn_r _ [182, 183, 57, 184, 185, 186, 187, 188, 189, 190, 191, 192, 193, 194, 268, 269, 270, 271, 272, 273, 274, 199, 200, 201] (by decide +kernel) (by decide +kernel)
set_option maxRecDepth 20000 in
theorem ggL_law_L_refused_10 : GoodIn wsL_law wsL_refused_r10 := goodIn_r _ [202, 204, 205, 206, 207, 208, 58, 209, 210, 211, 212, 213, 214, 215, 216, 217, 218, 219, 220, 221, 222, 59, 223, 224] (by decide +kernel) (by decide +kernel)
set_option maxRecDepth 20000 in
theorem ggL_law_L_refused_11 : GoodIn wsL_law wsL_refused_r11 := goodIn_r _ [225, 226, 60, 227, 228, 229, 230, 231, 232, 233, 234, 275, 453, 454, 455, 456, 262, 263, 264, 265, 266, 267, 289, 290] (by decide +kernel) (by decide +kernel)
set_option maxRecDepth 20000 in
theorem ggL_law_L_refused_12 : GoodIn wsL_law wsL_refused_r12 := goodIn_r _ [291, 292, 35, 293, 294, 295, 34, 296, 297, 298, 299, 300, 301, 302, 64, 303, 306, 309, 310, 311, 312, 313, 314, 315] (by decide +kernel) (by decide +kernel)
set_option maxRecDepth 20000 in
theorem ggL_law_L_refused_13 : GoodIn wsL_law wsL_refused_r13 := goodIn_r _ [316, 317, 318, 319, 320, 321, 65, 322, 323, 324, 325, 326, 327, 328, 329, 330, 331, 332, 333, 334, 335, 336, 337, 338] (by decide +kernel) (by decide +kernel)
set_option maxRecDepth 20000 in
theorem ggL_law_L_refused_14 : GoodIn wsL_law wsL_refused_r14 := goodIn_r _ [339, 340, 341, 342, 343, 344, 345, 346, 347, 348, 349, 350, 351, 352, 353, 354, 355, 356, 357, 358, 457, 458, 459, 460] (by decide +kernel) (by decide +kernel)
set_option maxRecDepth 20000 in
theorem ggL_law_L_refused_15 : GoodIn wsL_law wsL_refused_r15 := goodIn_r _ [461, 462, 463, 464, 465, 466, 467, 468, 469, 470, 471, 472, 473, 474, 475, 476, 477] (by decide +kernel) (by decide +kernel)
set_option maxRecDepth 20000 in
theorem ggL_law_L_refused_16 : GoodIn wsL_law wsX90 := goodIn_r _ [586, 587, 588, 589, 590, 591, 592, 593, 594] (by decide +kernel) (by decide +kernel)
set_option maxRecDepth 20000 in
theorem ggL_law_L_refused_17 : GoodIn wsL_law wsX20 := goodIn_r _ [599, 600, 601] (by decide +kernel) (by decide +kernel)
set_option maxRecDepth 20000 in
theorem ggL_law_L_refused_18 : GoodIn wsL_law wsX80 := goodIn_r _ [595, 596] (by decide +kernel) (by decide +kernel)
set_option maxRecDepth 20000 in
theorem ggL_law_L_refused_19 : GoodIn wsL_law wsX60 := goodIn_r _ [602, 603] (by decide +kernel) (by decide +kernel)
set_option maxRecDepth 20000 in
theorem ggL_law_L_refused_20 : GoodIn wsL_law wsX00 := goodIn_r _ [604, 605, 606, 607, 608] (by decide +kernel) (by decide +kernel)
set_option maxRecDepth 20000 in
theorem ggL_law_L_refused_21 : GoodIn wsL_law wsX10 := goodIn_r _ [609, 610] (by decide +kernel) (by decide +kernel)
theorem ggL_law_L_refused : GoodIn wsL_law wsL_refused := goodIn_app ggL_law_L_refused_h (goodIn_app (goodIn_app (goodIn_app (goodIn_app (goodIn_app (goodIn_app (goodIn_app ggL_law_L_refused_1 (goodIn_app ggL_law_L_refused_2 (goodIn_app ggL_law_L_refused_3 (goodIn_app ggL_law_L_refused_4 (goodIn_app ggL_law_L_refused_5 (goodIn_app ggL_law_L_refused_6 (goodIn_app ggL_law_L_refused_7 (goodIn_app ggL_law_L_refused_8 (goodIn_app ggL_law_L_refused_9 (goodIn_app ggL_law_L_refused_10 (goodIn_app ggL_law_L_refused_11 (goodIn_app ggL_law_L_refused_12 (goodIn_app ggL_law_L_refused_13 (goodIn_app ggL_law_L_refused_14 ggL_law_L_refused_15)))))))))))))) ggL_law_L_refused_16) ggL_law_L_refused_17) ggL_law_L_refused_18) ggL_law_L_refused_19) ggL_law_L_refused_20) ggL_law_L_refused_21)
set_option maxRecDepth 20000 in
theorem gL_law_L_refused : GoodIn wsL_law (va_wsS RL 138 yL_refused wsL_refused) := goodIn_app (goodIn_of _ (by decide +kernel)) ggL_law_L_refused
set_option maxRecDepth 20000 in

theorem ggL_law_L_turns_h : GoodIn wsL_law [.code yL_turns cL_turns 16 (some .boolean)] := goodIn_r _ [480] (by decide +kernel) (by decide +kernel)
set_option maxRecDepth 20000 in
theorem ggL_law_L_turns_1 : GoodIn wsL_law wsL_turns_r1 := goodIn_r _ [4, 366, 367, 368, 68, 369, 370, 371, 71, 72, 73, 2, 74, 22, 75, 372, 373, 374, 375, 36, 167, 168, 169, 170] (by decide +kernel) (by decide +kernel)
set_option maxRecDepth 20000 in
theorem ggL_law_L_turns_2 : GoodIn wsL_law wsL_turns_r2 := goodIn_r _ [124, 125, 126, 127, 21, 128, 100, 171, 106, 107, 108, 47, 481, 482, 483, 484, 426, 23, 391, 392, 393, 394, 395, 396] (by decide +kernel) (by decide +kernel)
set_option maxRecDepth 20000 in
theorem ggL_law_L_turns_3 : GoodIn wsL_law wsL_turns_r3 := goodIn_r _ [397, 398, 399, 105, 400, 401, 402, 403, 404, 405, 406, 407, 408, 27, 409, 410, 304, 286, 305, 31, 411, 412, 413, 26] (by decide +kernel) (by decide +kernel)
set_option maxRecDepth 20000 in
theorem ggL_law_L_turns_4 : GoodIn wsL_law wsL_turns_r4 := goodIn_r _ [414, 51, 415, 416, 53, 417, 418, 419, 420, 30, 421, 203, 262, 263, 131, 264, 265, 266, 130, 132, 133, 134, 135, 136] (by decide +kernel) (by decide +kernel)
set_option maxRecDepth 20000 in
theorem ggL_law_L_turns_5 : GoodIn wsL_law wsL_turns_r5 := goodIn_r _ [109, 97, 98, 99, 137, 102, 103, 104, 89, 90, 138, 139, 140, 94, 95, 267, 142, 143, 387, 388, 389, 390, 129, 141] (by decide +kernel) (by decide +kernel)
set_option maxRecDepth 20000 in
theorem ggL_law_L_turns_6 : GoodIn wsL_law wsL_turns_r6 := goodIn_r _ [485, 486, 487, 488, 489, 490, 491, 258, 259, 260, 261, 453, 454, 455, 456, 272, 273, 274, 199, 200, 201, 202, 204, 180] (by decide +kernel) (by decide +kernel)
set_option maxRecDepth 20000 in
theorem ggL_law_L_turns_7 : GoodIn wsL_law wsL_turns_r7 := goodIn_r _ [181, 182, 183, 57, 184, 205, 206, 207, 208, 58, 185, 186, 187, 188, 189, 190, 191, 192, 193, 194, 209, 210, 211, 212] (by decide +kernel) (by decide +kernel)
set_option maxRecDepth 20000 in
theorem ggL_law_L_turns_8 : GoodIn wsL_law wsL_turns_r8 := goodIn_r _ [213, 214, 215, 216, 217, 218, 219, 220, 221, 222, 59, 223, 224, 225, 226, 60, 227, 228, 229, 230, 231, 232, 233, 234] (by decide +kernel) (by decide +kernel)
set_option maxRecDepth 20000 in
theorem ggL_law_L_turns_9 : GoodIn wsL_law wsL_turns_r9 := goodIn_r _ [275, 268, 269, 270, 271, 120, 121, 122, 123, 492, 493, 494, 495, 496, 497, 498, 499, 472, 473, 474, 475, 476, 469, 470] (by decide +kernel) (by decide +kernel)
set_option maxRecDepth 20000 in
theorem ggL_law_L_turns_10 : GoodIn wsL_law wsL_turns_r10 := goodIn_r _ [471, 477, 248, 249, 250, 251, 252, 253, 254, 255, 257, 111, 112, 113, 114, 115, 86, 116, 96, 117, 118, 119, 101, 76] (by decide +kernel) (by decide +kernel)
set_option maxRecDepth 20000 in
theorem ggL_law_L_turns_11 : GoodIn wsL_law wsL_turns_r11 := goodIn_r _ [77, 78, 79, 80, 81, 82, 83, 84, 85, 87, 88, 91, 92, 93, 110, 500, 501, 502, 503, 504, 505, 506, 276, 277] (by decide +kernel) (by decide +kernel)
set_option maxRecDepth 20000 in
theorem ggL_law_L_turns_12 : GoodIn wsL_law wsL_turns_r12 := goodIn_r _ [278, 279, 280, 281, 282, 283, 239, 284, 285, 287, 288, 236, 237, 238] (by decide +kernel) (by decide +kernel)
set_option maxRecDepth 20000 in
theorem ggL_law_L_turns_13 : GoodIn wsL_law wsX90 := goodIn_r _ [586, 587, 588, 589, 590, 591, 592, 593, 594] (by decide +kernel) (by decide +kernel)
set_option maxRecDepth 20000 in
theorem ggL_law_L_turns_14 : GoodIn wsL_law wsX20 := goodIn_r _ [599, 600, 601] (by decide +kernel) (by decide +kernel)
set_option maxRecDepth 20000 in
theorem ggL_law_L_turns_15 : GoodIn wsL_law wsX60 := goodIn_r _ [602, 603] (by decide +kernel) (by decide +kernel)
set_option maxRecDepth 20000 in
theorem ggL_law_L_turns_16 : GoodIn wsL_law wsX00 := goodIn_r _ [604, 605, 606, 607, 608] (by decide +kernel) (by decide +kernel)
theorem ggL_law_L_turns : GoodIn wsL_law wsL_turns := goodIn_app ggL_law_L_turns_h (goodIn_app (goodIn_app (goodIn_app (goodIn_app (goodIn_app ggL_law_L_turns_1 (goodIn_app ggL_law_L_turns_2 (goodIn_app ggL_law_L_turns_3 (goodIn_app ggL_law_L_turns_4 (goodIn_app ggL_law_L_turns_5 (goodIn_app ggL_law_L_turns_6 (goodIn_app ggL_law_L_turns_7 (goodIn_app ggL_law_L_turns_8 (goodIn_app ggL_law_L_turns_9 (goodIn_app ggL_law_L_turns_10 (goodIn_app ggL_law_L_turns_11 ggL_law_L_turns_12))))))))))) ggL_law_L_turns_13) ggL_law_L_turns_14) ggL_law_L_turns_15) ggL_law_L_turns_16)
set_option maxRecDepth 20000 in
theorem gL_law_L_turns : GoodIn wsL_law (va_wsS RL 142 yL_turns wsL_turns) := goodIn_app (goodIn_of _ (by decide +kernel)) ggL_law_L_turns
set_option maxRecDepth 20000 in
theorem ggL_law_X9_undo : GoodIn wsL_law wsX9_undo := goodIn_r _ [499, 409, 426, 27, 408, 22, 31, 472, 473, 474, 26, 475, 51, 415, 416, 476, 469, 470, 471, 53, 477, 401, 402, 21, 403, 47, 418, 419, 420, 30, 421, 203, 586, 587, 588, 589, 590, 591, 592, 593, 594, 602, 603, 599, 600, 601, 604, 605, 606, 607, 608] (by decide +kernel) (by decide +kernel)
set_option maxRecDepth 20000 in
theorem gL_law_X9_undo : GoodIn wsL_law (wsV RL 114 RX9 yX9_undo wsX9_undo) := goodIn_app (goodIn_of _ (by decide +kernel)) ggL_law_X9_undo
set_option maxRecDepth 20000 in
theorem ggL_law_X9_restore : GoodIn wsL_law wsX9_restore := goodIn_r _ [467, 124, 27, 426, 22, 31, 409, 75, 461, 462, 2, 463, 468, 469, 470, 26, 471, 53, 472, 473, 474, 475, 51, 415, 416, 476, 477, 401, 402, 21, 403, 47, 418, 419, 420, 30, 421, 203, 586, 587, 588, 589, 590, 591, 592, 593, 594, 599, 600, 601, 602, 603, 604, 605, 606, 607, 608] (by decide +kernel) (by decide +kernel)
set_option maxRecDepth 20000 in
theorem gL_law_X9_restore : GoodIn wsL_law (wsV RL 130 RX9 yX9_restore wsX9_restore) := goodIn_app (goodIn_of _ (by decide +kernel)) ggL_law_X9_restore
set_option maxRecDepth 20000 in

theorem ggL_law_L_load_h : GoodIn wsL_law [.code yL_load cL_load 11 (some .boolean)] := goodIn_r _ [509] (by decide +kernel) (by decide +kernel)
set_option maxRecDepth 20000 in
theorem ggL_law_L_load_1 : GoodIn wsL_law wsL_load_r1 := goodIn_r _ [359, 360, 68, 361, 362, 485, 486, 487, 488, 510, 511, 512, 2, 513, 14, 380, 514, 515, 516, 376, 377, 378, 379, 124] (by decide +kernel) (by decide +kernel)
set_option maxRecDepth 20000 in
theorem ggL_law_L_load_2 : GoodIn wsL_law wsL_load_r2 := goodIn_r _ [381, 382, 383, 384, 13, 385, 386, 40, 517, 518, 519, 520, 18, 23, 22, 75, 521, 522, 523, 17, 524, 525, 526, 527] (by decide +kernel) (by decide +kernel)
set_option maxRecDepth 20000 in
theorem ggL_law_L_load_3 : GoodIn wsL_law wsL_load_r3 := goodIn_r _ [528, 529, 530, 21, 531, 100, 395, 47, 532, 533, 534, 535, 536, 537, 538, 539, 540, 541, 542, 543, 544, 545, 546, 547] (by decide +kernel) (by decide +kernel)
set_option maxRecDepth 20000 in
theorem ggL_law_L_load_4 : GoodIn wsL_law wsL_load_r4 := goodIn_r _ [548, 549, 550, 551, 552, 553, 554, 555, 556, 557, 558, 559, 560, 561, 562, 563, 564, 565, 566, 567, 568, 569, 570, 571] (by decide +kernel) (by decide +kernel)
set_option maxRecDepth 20000 in
theorem ggL_law_L_load_5 : GoodIn wsL_law wsL_load_r5 := goodIn_r _ [572, 573, 574, 109, 97, 98, 99, 105, 106, 107, 108, 575, 576, 401, 402, 403, 577, 578, 579, 580, 581, 404, 405, 406] (by decide +kernel) (by decide +kernel)
set_option maxRecDepth 20000 in
theorem ggL_law_L_load_6 : GoodIn wsL_law wsL_load_r6 := goodIn_r _ [407, 408, 27, 409, 410, 304, 286, 305, 31, 411, 412, 413, 26, 414, 51, 415, 416, 53, 417, 391, 392, 393, 394, 418] (by decide +kernel) (by decide +kernel)
set_option maxRecDepth 20000 in
theorem ggL_law_L_load_7 : GoodIn wsL_law wsL_load_r7 := goodIn_r _ [419, 420, 30, 421, 203] (by decide +kernel) (by decide +kernel)
set_option maxRecDepth 20000 in
theorem ggL_law_L_load_8 : GoodIn wsL_law wsX90 := goodIn_r _ [586, 587, 588, 589, 590, 591, 592, 593, 594] (by decide +kernel) (by decide +kernel)
set_option maxRecDepth 20000 in
theorem ggL_law_L_load_9 : GoodIn wsL_law wsX80 := goodIn_r _ [595, 596] (by decide +kernel) (by decide +kernel)
set_option maxRecDepth 20000 in
theorem ggL_law_L_load_10 : GoodIn wsL_law wsX20 := goodIn_r _ [599, 600, 601] (by decide +kernel) (by decide +kernel)
set_option maxRecDepth 20000 in
theorem ggL_law_L_load_11 : GoodIn wsL_law wsX40 := goodIn_r _ [597, 598] (by decide +kernel) (by decide +kernel)
set_option maxRecDepth 20000 in
theorem ggL_law_L_load_12 : GoodIn wsL_law wsX60 := goodIn_r _ [602, 603] (by decide +kernel) (by decide +kernel)
set_option maxRecDepth 20000 in
theorem ggL_law_L_load_13 : GoodIn wsL_law wsX00 := goodIn_r _ [604, 605, 606, 607, 608] (by decide +kernel) (by decide +kernel)
theorem ggL_law_L_load : GoodIn wsL_law wsL_load := goodIn_app ggL_law_L_load_h (goodIn_app (goodIn_app (goodIn_app (goodIn_app (goodIn_app (goodIn_app (goodIn_app ggL_law_L_load_1 (goodIn_app ggL_law_L_load_2 (goodIn_app ggL_law_L_load_3 (goodIn_app ggL_law_L_load_4 (goodIn_app ggL_law_L_load_5 (goodIn_app ggL_law_L_load_6 ggL_law_L_load_7)))))) ggL_law_L_load_8) ggL_law_L_load_9) ggL_law_L_load_10) ggL_law_L_load_11) ggL_law_L_load_12) ggL_law_L_load_13)
set_option maxRecDepth 20000 in
theorem gL_law_L_load : GoodIn wsL_law (va_wsS RL 146 yL_load wsL_load) := goodIn_app (goodIn_of _ (by decide +kernel)) ggL_law_L_load
set_option maxRecDepth 20000 in
theorem ggL_law_X9_save : GoodIn wsL_law wsX9_save := goodIn_r _ [460, 124, 27, 22, 75, 461, 462, 2, 463, 411, 412, 413, 26, 414, 51, 415, 416, 53, 417, 106, 107, 21, 108, 47, 586, 587, 588, 589, 590, 591, 592, 593, 594, 599, 600, 601, 602, 603] (by decide +kernel) (by decide +kernel)
set_option maxRecDepth 20000 in
theorem gL_law_X9_save : GoodIn wsL_law (wsV RL 127 RX9 yX9_save wsX9_save) := goodIn_app (goodIn_of _ (by decide +kernel)) ggL_law_X9_save
set_option maxRecDepth 20000 in
theorem ggL_law_X9_crossingCount : GoodIn wsL_law wsX9_crossingCount := goodIn_r _ [74, 22, 75, 586, 587, 588, 589, 590, 591, 592, 593, 594, 599, 600, 601] (by decide +kernel) (by decide +kernel)
set_option maxRecDepth 20000 in
theorem gL_law_X9_crossingCount : GoodIn wsL_law (wsV RL 38 RX9 yX9_crossingCount wsX9_crossingCount) := goodIn_app (goodIn_of _ (by decide +kernel)) ggL_law_X9_crossingCount
set_option maxRecDepth 20000 in

theorem ggL_law_L_hash_h : GoodIn wsL_law [.code yL_hash cL_hash 4 (some .long)] := goodIn_r _ [369] (by decide +kernel) (by decide +kernel)
set_option maxRecDepth 20000 in
theorem ggL_law_L_hash_1 : GoodIn wsL_law wsL_hash_r1 := goodIn_r _ [370, 371, 71, 72, 73, 2, 74, 22, 75, 372, 373, 374, 375, 36, 167, 168, 169, 170, 124, 125, 126, 127, 21, 128] (by decide +kernel) (by decide +kernel)
set_option maxRecDepth 20000 in
theorem ggL_law_L_hash_2 : GoodIn wsL_law wsL_hash_r2 := goodIn_r _ [100, 171, 106, 107, 108, 47] (by decide +kernel) (by decide +kernel)
set_option maxRecDepth 20000 in
theorem ggL_law_L_hash_3 : GoodIn wsL_law wsX90 := goodIn_r _ [586, 587, 588, 589, 590, 591, 592, 593, 594] (by decide +kernel) (by decide +kernel)
set_option maxRecDepth 20000 in
theorem ggL_law_L_hash_4 : GoodIn wsL_law wsX20 := goodIn_r _ [599, 600, 601] (by decide +kernel) (by decide +kernel)
theorem ggL_law_L_hash : GoodIn wsL_law wsL_hash := goodIn_app ggL_law_L_hash_h (goodIn_app (goodIn_app (goodIn_app ggL_law_L_hash_1 ggL_law_L_hash_2) ggL_law_L_hash_3) ggL_law_L_hash_4)
set_option maxRecDepth 20000 in
theorem gL_law_L_hash : GoodIn wsL_law (va_wsS RL 95 yL_hash wsL_hash) := goodIn_app (goodIn_of _ (by decide +kernel)) ggL_law_L_hash
set_option maxRecDepth 20000 in

theorem ggL_law_L_removes_h : GoodIn wsL_law [.code yL_removes cL_removes 20 (some .boolean)] := goodIn_r _ [584] (by decide +kernel) (by decide +kernel)
set_option maxRecDepth 20000 in
theorem ggL_law_L_removes_1 : GoodIn wsL_law wsL_removes_r1 := goodIn_r _ [366, 70, 4, 585, 367, 368, 68, 369, 370, 371, 71, 72, 73, 2, 74, 22, 75, 372, 373, 374, 375, 36, 167, 168] (by decide +kernel) (by decide +kernel)
set_option maxRecDepth 20000 in
theorem ggL_law_L_removes_2 : GoodIn wsL_law wsL_removes_r2 := goodIn_r _ [169, 170, 124, 125, 126, 127, 21, 128, 100, 171, 106, 107, 108, 47, 485, 486, 487, 488, 160, 161, 162, 163, 164, 165] (by decide +kernel) (by decide +kernel)
set_option maxRecDepth 20000 in
theorem ggL_law_L_removes_3 : GoodIn wsL_law wsL_removes_r3 := goodIn_r _ [151, 166, 156, 157, 158, 159, 144, 145, 146, 147, 148, 149, 150, 152, 153, 154, 155, 422, 423, 424, 425, 426, 23, 391] (by decide +kernel) (by decide +kernel)
set_option maxRecDepth 20000 in
theorem ggL_law_L_removes_4 : GoodIn wsL_law wsL_removes_r4 := goodIn_r _ [392, 393, 394, 395, 427, 428, 429, 430, 431, 432, 433, 434, 307, 286, 308, 435, 304, 305, 105, 109, 97, 98, 99, 400] (by decide +kernel) (by decide +kernel)
set_option maxRecDepth 20000 in
theorem ggL_law_L_removes_5 : GoodIn wsL_law wsL_removes_r5 := goodIn_r _ [401, 402, 403, 436, 437, 438, 439, 440, 441, 442, 443, 381, 404, 405, 406, 407, 408, 27, 409, 410, 31, 411, 412, 413] (by decide +kernel) (by decide +kernel)
set_option maxRecDepth 20000 in
theorem ggL_law_L_removes_6 : GoodIn wsL_law wsL_removes_r6 := goodIn_r _ [26, 414, 51, 415, 416, 53, 417, 418, 419, 420, 30, 421, 203, 444, 445, 446, 447, 448, 449, 450, 451, 452, 248, 249] (by decide +kernel) (by decide +kernel)
set_option maxRecDepth 20000 in
theorem ggL_law_L_removes_7 : GoodIn wsL_law wsL_removes_r7 := goodIn_r _ [250, 251, 252, 253, 131, 254, 255, 89, 90, 138, 139, 140, 94, 95, 137, 102, 103, 104, 276, 277, 278, 279, 199, 200] (by decide +kernel) (by decide +kernel)
set_option maxRecDepth 20000 in
theorem ggL_law_L_removes_8 : GoodIn wsL_law wsL_removes_r8 := goodIn_r _ [201, 202, 204, 180, 181, 182, 183, 57, 184, 205, 206, 207, 208, 58, 185, 186, 187, 188, 189, 190, 191, 192, 193, 194] (by decide +kernel) (by decide +kernel)
set_option maxRecDepth 20000 in
theorem ggL_law_L_removes_9 : GoodIn wsL_law wsL_removes_r9 := goodIn_r _ [209, 210, 211, 212, 213, 214, 215, 216, 217, 218, 219, 220, 221, 222, 59, 223, 224, 225, 226, 60, 227, 228, 229, 230] (by decide +kernel) (by decide +kernel)
set_option maxRecDepth 20000 in
theorem ggL_law_L_removes_10 : GoodIn wsL_law wsL_removes_r10 := goodIn_r _ [231, 232, 233, 234, 280, 281, 282, 283, 239, 284, 285, 287, 288, 236, 237, 238, 289, 290, 291, 292, 35, 293, 294, 295] (by decide +kernel) (by decide +kernel)
set_option maxRecDepth 20000 in
theorem ggL_law_L_removes_11 : GoodIn wsL_law wsL_removes_r11 := goodIn_r _ [34, 296, 297, 298, 299, 300, 301, 302, 64, 303, 306, 309, 310, 311, 312, 313, 314, 315, 316, 317, 318, 319, 320, 321] (by decide +kernel) (by decide +kernel)
set_option maxRecDepth 20000 in
theorem ggL_law_L_removes_12 : GoodIn wsL_law wsL_removes_r12 := goodIn_r _ [65, 322, 323, 324, 325, 326, 327, 328, 329, 330, 331, 332, 333, 334, 335, 336, 337, 338, 339, 340, 341, 342, 134, 135] (by decide +kernel) (by decide +kernel)
set_option maxRecDepth 20000 in
theorem ggL_law_L_removes_13 : GoodIn wsL_law wsL_removes_r13 := goodIn_r _ [136, 343, 344, 345, 346, 347, 348, 349, 350, 351, 352, 353, 354, 355, 356, 357, 358, 489, 490, 491, 258, 259, 260, 261] (by decide +kernel) (by decide +kernel)
set_option maxRecDepth 20000 in
theorem ggL_law_L_removes_14 : GoodIn wsL_law wsL_removes_r14 := goodIn_r _ [262, 263, 264, 265, 266, 130, 132, 133, 267, 142, 143, 453, 454, 455, 456, 272, 273, 274, 275, 268, 269, 270, 271, 195] (by decide +kernel) (by decide +kernel)
set_option maxRecDepth 20000 in
theorem ggL_law_L_removes_15 : GoodIn wsL_law wsL_removes_r15 := goodIn_r _ [196, 197, 198, 235, 496, 497, 498, 499, 472, 473, 474, 475, 476, 469, 470, 471, 477] (by decide +kernel) (by decide +kernel)
set_option maxRecDepth 20000 in
theorem ggL_law_L_removes_16 : GoodIn wsL_law wsX90 := goodIn_r _ [586, 587, 588, 589, 590, 591, 592, 593, 594] (by decide +kernel) (by decide +kernel)
set_option maxRecDepth 20000 in
theorem ggL_law_L_removes_17 : GoodIn wsL_law wsX20 := goodIn_r _ [599, 600, 601] (by decide +kernel) (by decide +kernel)
set_option maxRecDepth 20000 in
theorem ggL_law_L_removes_18 : GoodIn wsL_law wsX60 := goodIn_r _ [602, 603] (by decide +kernel) (by decide +kernel)
set_option maxRecDepth 20000 in
theorem ggL_law_L_removes_19 : GoodIn wsL_law wsX00 := goodIn_r _ [604, 605, 606, 607, 608] (by decide +kernel) (by decide +kernel)
set_option maxRecDepth 20000 in
theorem ggL_law_L_removes_20 : GoodIn wsL_law wsX10 := goodIn_r _ [609, 610] (by decide +kernel) (by decide +kernel)
theorem ggL_law_L_removes : GoodIn wsL_law wsL_removes := goodIn_app ggL_law_L_removes_h (goodIn_app (goodIn_app (goodIn_app (goodIn_app (goodIn_app (goodIn_app ggL_law_L_removes_1 (goodIn_app ggL_law_L_removes_2 (goodIn_app ggL_law_L_removes_3 (goodIn_app ggL_law_L_removes_4 (goodIn_app ggL_law_L_removes_5 (goodIn_app ggL_law_L_removes_6 (goodIn_app ggL_law_L_removes_7 (goodIn_app ggL_law_L_removes_8 (goodIn_app ggL_law_L_removes_9 (goodIn_app ggL_law_L_removes_10 (goodIn_app ggL_law_L_removes_11 (goodIn_app ggL_law_L_removes_12 (goodIn_app ggL_law_L_removes_13 (goodIn_app ggL_law_L_removes_14 ggL_law_L_removes_15)))))))))))))) ggL_law_L_removes_16) ggL_law_L_removes_17) ggL_law_L_removes_18) ggL_law_L_removes_19) ggL_law_L_removes_20)
set_option maxRecDepth 20000 in
theorem gL_law_L_removes : GoodIn wsL_law (va_wsS RL 149 yL_removes wsL_removes) := goodIn_app (goodIn_of _ (by decide +kernel)) ggL_law_L_removes
set_option maxRecDepth 20000 in
theorem ggL_law_L_low : GoodIn wsL_law wsL_low := goodIn_r _ [487, 488] (by decide +kernel) (by decide +kernel)
set_option maxRecDepth 20000 in
theorem gL_law_L_low : GoodIn wsL_law (va_wsS RL 21 yL_low wsL_low) := goodIn_app (goodIn_of _ (by decide +kernel)) ggL_law_L_low
set_option maxRecDepth 20000 in
theorem ggL_law_X9_bigonPartner : GoodIn wsL_law wsX9_bigonPartner := goodIn_r _ [147, 22, 124, 75, 148, 125, 126, 127, 21, 128, 100, 149, 150, 151, 152, 153, 154, 155, 156, 157, 158, 159, 106, 107, 108, 47, 586, 587, 588, 589, 590, 591, 592, 593, 594, 599, 600, 601] (by decide +kernel) (by decide +kernel)
set_option maxRecDepth 20000 in
theorem gL_law_X9_bigonPartner : GoodIn wsL_law (wsV RL 64 RX9 yX9_bigonPartner wsX9_bigonPartner) := goodIn_app (goodIn_of _ (by decide +kernel)) ggL_law_X9_bigonPartner
set_option maxRecDepth 20000 in
theorem ggL_law_X9_removeBigon : GoodIn wsL_law wsX9_removeBigon := goodIn_r _ [447, 22, 124, 426, 23, 125, 126, 127, 21, 128, 100, 149, 150, 151, 152, 153, 154, 155, 156, 157, 158, 159, 106, 107, 108, 47, 391, 392, 393, 394, 395, 448, 449, 450, 451, 307, 286, 308, 452, 304, 305, 430, 431, 432, 433, 434, 435, 105, 109, 97, 98, 99, 400, 401, 402, 403, 436, 437, 438, 439, 440, 441, 442, 2, 443, 36, 381, 75, 404, 405, 406, 407, 408, 27, 409, 410, 31, 411, 412, 413, 26, 414, 51, 415, 416, 53, 417, 418, 419, 420, 30, 421, 203, 586, 587, 588, 589, 590, 591, 592, 593, 594, 599, 600, 601, 602, 603, 604, 605, 606, 607, 608] (by decide +kernel) (by decide +kernel)
set_option maxRecDepth 20000 in
theorem gL_law_X9_removeBigon : GoodIn wsL_law (wsV RL 123 RX9 yX9_removeBigon wsX9_removeBigon) := goodIn_app (goodIn_of _ (by decide +kernel)) ggL_law_X9_removeBigon
set_option maxRecDepth 20000 in
theorem ggL_law_X9_removeKink : GoodIn wsL_law wsX9_removeKink := goodIn_r _ [425, 22, 124, 426, 23, 125, 126, 127, 21, 128, 100, 164, 165, 151, 166, 156, 157, 158, 159, 106, 107, 108, 47, 391, 392, 393, 394, 395, 427, 428, 429, 430, 431, 432, 433, 434, 307, 286, 308, 435, 304, 305, 105, 109, 97, 98, 99, 400, 401, 402, 403, 436, 437, 438, 439, 440, 441, 442, 2, 443, 36, 381, 75, 404, 405, 406, 407, 408, 27, 409, 410, 31, 411, 412, 413, 26, 414, 51, 415, 416, 53, 417, 418, 419, 420, 30, 421, 203, 586, 587, 588, 589, 590, 591, 592, 593, 594, 599, 600, 601, 602, 603, 604, 605, 606, 607, 608] (by decide +kernel) (by decide +kernel)
set_option maxRecDepth 20000 in
theorem gL_law_X9_removeKink : GoodIn wsL_law (wsV RL 120 RX9 yX9_removeKink wsX9_removeKink) := goodIn_app (goodIn_of _ (by decide +kernel)) ggL_law_X9_removeKink
set_option maxRecDepth 20000 in
theorem ggL_law_X9_undoDepth : GoodIn wsL_law wsX9_undoDepth := goodIn_r _ [495, 409, 586, 587, 588, 589, 590, 591, 592, 593, 594] (by decide +kernel) (by decide +kernel)
set_option maxRecDepth 20000 in
theorem gL_law_X9_undoDepth : GoodIn wsL_law (wsV RL 111 RX9 yX9_undoDepth wsX9_undoDepth) := goodIn_app (goodIn_of _ (by decide +kernel)) ggL_law_X9_undoDepth
theorem dL_law_0 : decode cL_law 0 = .ok (.new 10, 3) := by decide +kernel
theorem dL_law_3 : decode cL_law 3 = .ok (.dup, 1) := by decide +kernel
theorem dL_law_4 : decode cL_law 4 = .ok (.invokespecial 133, 3) := by decide +kernel
theorem dL_law_7 : decode cL_law 7 = .ok (.astore_n 1, 1) := by decide +kernel
theorem dL_law_8 : decode cL_law 8 = .ok (.bipush 64, 2) := by decide +kernel
theorem dL_law_10 : decode cL_law 10 = .ok (.newarray .int, 2) := by decide +kernel
theorem dL_law_12 : decode cL_law 12 = .ok (.astore_n 2, 1) := by decide +kernel
theorem dL_law_13 : decode cL_law 13 = .ok (.bipush 64, 2) := by decide +kernel
theorem dL_law_15 : decode cL_law 15 = .ok (.newarray .int, 2) := by decide +kernel
theorem dL_law_17 : decode cL_law 17 = .ok (.astore_n 3, 1) := by decide +kernel
theorem dL_law_18 : decode cL_law 18 = .ok (.bipush 64, 2) := by decide +kernel
theorem dL_law_20 : decode cL_law 20 = .ok (.newarray .int, 2) := by decide +kernel
theorem dL_law_22 : decode cL_law 22 = .ok (.astore 4, 2) := by decide +kernel
theorem dL_law_24 : decode cL_law 24 = .ok (.aload_n 1, 1) := by decide +kernel
theorem dL_law_25 : decode cL_law 25 = .ok (.invokestatic 134, 3) := by decide +kernel
theorem dL_law_28 : decode cL_law 28 = .ok (.ifCond .eq 45, 3) := by decide +kernel
theorem dL_law_31 : decode cL_law 31 = .ok (.aload_n 1, 1) := by decide +kernel
theorem dL_law_32 : decode cL_law 32 = .ok (.aload_n 0, 1) := by decide +kernel
theorem dL_law_33 : decode cL_law 33 = .ok (.iconst 0, 1) := by decide +kernel
theorem dL_law_34 : decode cL_law 34 = .ok (.invokestatic 15, 3) := by decide +kernel
theorem dL_law_37 : decode cL_law 37 = .ok (.invokestatic 138, 3) := by decide +kernel
theorem dL_law_40 : decode cL_law 40 = .ok (.ifCond .eq 33, 3) := by decide +kernel
theorem dL_law_43 : decode cL_law 43 = .ok (.aload_n 1, 1) := by decide +kernel
theorem dL_law_44 : decode cL_law 44 = .ok (.iconst 1, 1) := by decide +kernel
theorem dL_law_45 : decode cL_law 45 = .ok (.aload_n 3, 1) := by decide +kernel
theorem dL_law_46 : decode cL_law 46 = .ok (.aload 4, 2) := by decide +kernel
theorem dL_law_48 : decode cL_law 48 = .ok (.invokestatic 142, 3) := by decide +kernel
theorem dL_law_51 : decode cL_law 51 = .ok (.ifCond .eq 22, 3) := by decide +kernel
theorem dL_law_54 : decode cL_law 54 = .ok (.aload_n 1, 1) := by decide +kernel
theorem dL_law_55 : decode cL_law 55 = .ok (.invokevirtual 114, 3) := by decide +kernel
theorem dL_law_58 : decode cL_law 58 = .ok (.ldc 102, 2) := by decide +kernel
theorem dL_law_60 : decode cL_law 60 = .ok (.if_icmp .ne 13, 3) := by decide +kernel
theorem dL_law_63 : decode cL_law 63 = .ok (.aload_n 1, 1) := by decide +kernel
theorem dL_law_64 : decode cL_law 64 = .ok (.iconst 0, 1) := by decide +kernel
theorem dL_law_65 : decode cL_law 65 = .ok (.invokevirtual 130, 3) := by decide +kernel
theorem dL_law_68 : decode cL_law 68 = .ok (.ldc 102, 2) := by decide +kernel
theorem dL_law_70 : decode cL_law 70 = .ok (.if_icmp .eq 5, 3) := by decide +kernel
theorem dL_law_73 : decode cL_law 73 = .ok (.iconst 0, 1) := by decide +kernel
theorem dL_law_74 : decode cL_law 74 = .ok (.ireturn, 1) := by decide +kernel
theorem dL_law_75 : decode cL_law 75 = .ok (.iconst 0, 1) := by decide +kernel
theorem dL_law_76 : decode cL_law 76 = .ok (.istore 5, 2) := by decide +kernel
theorem dL_law_78 : decode cL_law 78 = .ok (.iload 5, 2) := by decide +kernel
theorem dL_law_80 : decode cL_law 80 = .ok (.iconst 3, 1) := by decide +kernel
theorem dL_law_81 : decode cL_law 81 = .ok (.if_icmp .ge 240, 3) := by decide +kernel
theorem dL_law_84 : decode cL_law 84 = .ok (.bipush 15, 2) := by decide +kernel
theorem dL_law_86 : decode cL_law 86 = .ok (.iload 5, 2) := by decide +kernel
theorem dL_law_88 : decode cL_law 88 = .ok (.imul, 1) := by decide +kernel
theorem dL_law_89 : decode cL_law 89 = .ok (.istore 6, 2) := by decide +kernel
theorem dL_law_91 : decode cL_law 91 = .ok (.aload_n 1, 1) := by decide +kernel
theorem dL_law_92 : decode cL_law 92 = .ok (.aload_n 2, 1) := by decide +kernel
theorem dL_law_93 : decode cL_law 93 = .ok (.aload_n 0, 1) := by decide +kernel
theorem dL_law_94 : decode cL_law 94 = .ok (.iload 6, 2) := by decide +kernel
theorem dL_law_96 : decode cL_law 96 = .ok (.iload 5, 2) := by decide +kernel
theorem dL_law_98 : decode cL_law 98 = .ok (.ifCond .ne 7, 3) := by decide +kernel
theorem dL_law_101 : decode cL_law 101 = .ok (.iconst 5, 1) := by decide +kernel
theorem dL_law_102 : decode cL_law 102 = .ok (.goto 4, 3) := by decide +kernel
theorem dL_law_105 : decode cL_law 105 = .ok (.iconst 4, 1) := by decide +kernel
theorem dL_law_106 : decode cL_law 106 = .ok (.invokestatic 146, 3) := by decide +kernel
theorem dL_law_109 : decode cL_law 109 = .ok (.ifCond .eq 41, 3) := by decide +kernel
theorem dL_law_112 : decode cL_law 112 = .ok (.aload_n 1, 1) := by decide +kernel
theorem dL_law_113 : decode cL_law 113 = .ok (.invokestatic 134, 3) := by decide +kernel
theorem dL_law_116 : decode cL_law 116 = .ok (.ifCond .eq 34, 3) := by decide +kernel
theorem dL_law_119 : decode cL_law 119 = .ok (.aload_n 1, 1) := by decide +kernel
theorem dL_law_120 : decode cL_law 120 = .ok (.aload_n 0, 1) := by decide +kernel
theorem dL_law_121 : decode cL_law 121 = .ok (.iload 6, 2) := by decide +kernel
theorem dL_law_123 : decode cL_law 123 = .ok (.bipush 12, 2) := by decide +kernel
theorem dL_law_125 : decode cL_law 125 = .ok (.iadd, 1) := by decide +kernel
theorem dL_law_126 : decode cL_law 126 = .ok (.invokestatic 15, 3) := by decide +kernel
theorem dL_law_129 : decode cL_law 129 = .ok (.invokestatic 138, 3) := by decide +kernel
theorem dL_law_132 : decode cL_law 132 = .ok (.ifCond .eq 18, 3) := by decide +kernel
theorem dL_law_135 : decode cL_law 135 = .ok (.aload_n 1, 1) := by decide +kernel
theorem dL_law_136 : decode cL_law 136 = .ok (.iload 5, 2) := by decide +kernel
theorem dL_law_138 : decode cL_law 138 = .ok (.iconst 1, 1) := by decide +kernel
theorem dL_law_139 : decode cL_law 139 = .ok (.iand, 1) := by decide +kernel
theorem dL_law_140 : decode cL_law 140 = .ok (.invokevirtual 127, 3) := by decide +kernel
theorem dL_law_143 : decode cL_law 143 = .ok (.aload_n 1, 1) := by decide +kernel
theorem dL_law_144 : decode cL_law 144 = .ok (.invokevirtual 38, 3) := by decide +kernel
theorem dL_law_147 : decode cL_law 147 = .ok (.if_icmp .eq 5, 3) := by decide +kernel
theorem dL_law_150 : decode cL_law 150 = .ok (.iconst 0, 1) := by decide +kernel
theorem dL_law_151 : decode cL_law 151 = .ok (.ireturn, 1) := by decide +kernel
theorem dL_law_152 : decode cL_law 152 = .ok (.aload_n 1, 1) := by decide +kernel
theorem dL_law_153 : decode cL_law 153 = .ok (.invokestatic 95, 3) := by decide +kernel
theorem dL_law_156 : decode cL_law 156 = .ok (.lstore 7, 2) := by decide +kernel
theorem dL_law_158 : decode cL_law 158 = .ok (.aload_n 1, 1) := by decide +kernel
theorem dL_law_159 : decode cL_law 159 = .ok (.aload_n 0, 1) := by decide +kernel
theorem dL_law_160 : decode cL_law 160 = .ok (.iload 6, 2) := by decide +kernel
theorem dL_law_162 : decode cL_law 162 = .ok (.bipush 13, 2) := by decide +kernel
theorem dL_law_164 : decode cL_law 164 = .ok (.iadd, 1) := by decide +kernel
theorem dL_law_165 : decode cL_law 165 = .ok (.invokestatic 15, 3) := by decide +kernel
theorem dL_law_168 : decode cL_law 168 = .ok (.aload_n 3, 1) := by decide +kernel
theorem dL_law_169 : decode cL_law 169 = .ok (.aload 4, 2) := by decide +kernel
theorem dL_law_171 : decode cL_law 171 = .ok (.invokestatic 142, 3) := by decide +kernel
theorem dL_law_174 : decode cL_law 174 = .ok (.ifCond .ne 5, 3) := by decide +kernel
theorem dL_law_177 : decode cL_law 177 = .ok (.iconst 0, 1) := by decide +kernel
theorem dL_law_178 : decode cL_law 178 = .ok (.ireturn, 1) := by decide +kernel
theorem dL_law_179 : decode cL_law 179 = .ok (.iconst 0, 1) := by decide +kernel
theorem dL_law_180 : decode cL_law 180 = .ok (.istore 9, 2) := by decide +kernel
theorem dL_law_182 : decode cL_law 182 = .ok (.iload 9, 2) := by decide +kernel
theorem dL_law_184 : decode cL_law 184 = .ok (.iconst 5, 1) := by decide +kernel
theorem dL_law_185 : decode cL_law 185 = .ok (.if_icmp .ge 91, 3) := by decide +kernel
theorem dL_law_188 : decode cL_law 188 = .ok (.aload_n 0, 1) := by decide +kernel
theorem dL_law_189 : decode cL_law 189 = .ok (.iload 6, 2) := by decide +kernel
theorem dL_law_191 : decode cL_law 191 = .ok (.iload 9, 2) := by decide +kernel
theorem dL_law_193 : decode cL_law 193 = .ok (.iadd, 1) := by decide +kernel
theorem dL_law_194 : decode cL_law 194 = .ok (.invokestatic 15, 3) := by decide +kernel
theorem dL_law_197 : decode cL_law 197 = .ok (.iconst 3, 1) := by decide +kernel
theorem dL_law_198 : decode cL_law 198 = .ok (.ishr, 1) := by decide +kernel
theorem dL_law_199 : decode cL_law 199 = .ok (.istore 10, 2) := by decide +kernel
theorem dL_law_201 : decode cL_law 201 = .ok (.aload_n 1, 1) := by decide +kernel
theorem dL_law_202 : decode cL_law 202 = .ok (.iload 10, 2) := by decide +kernel
theorem dL_law_204 : decode cL_law 204 = .ok (.aload_n 3, 1) := by decide +kernel
theorem dL_law_205 : decode cL_law 205 = .ok (.aload 4, 2) := by decide +kernel
theorem dL_law_207 : decode cL_law 207 = .ok (.invokestatic 149, 3) := by decide +kernel
theorem dL_law_210 : decode cL_law 210 = .ok (.ifCond .ne 5, 3) := by decide +kernel
theorem dL_law_213 : decode cL_law 213 = .ok (.iconst 0, 1) := by decide +kernel
theorem dL_law_214 : decode cL_law 214 = .ok (.ireturn, 1) := by decide +kernel
theorem dL_law_215 : decode cL_law 215 = .ok (.iload 10, 2) := by decide +kernel
theorem dL_law_217 : decode cL_law 217 = .ok (.aload_n 1, 1) := by decide +kernel
theorem dL_law_218 : decode cL_law 218 = .ok (.invokevirtual 38, 3) := by decide +kernel
theorem dL_law_221 : decode cL_law 221 = .ok (.iconst 1, 1) := by decide +kernel
theorem dL_law_222 : decode cL_law 222 = .ok (.iadd, 1) := by decide +kernel
theorem dL_law_223 : decode cL_law 223 = .ok (.invokestatic 21, 3) := by decide +kernel
theorem dL_law_226 : decode cL_law 226 = .ok (.istore 11, 2) := by decide +kernel
theorem dL_law_228 : decode cL_law 228 = .ok (.aload_n 1, 1) := by decide +kernel
theorem dL_law_229 : decode cL_law 229 = .ok (.iload 11, 2) := by decide +kernel
theorem dL_law_231 : decode cL_law 231 = .ok (.invokevirtual 64, 3) := by decide +kernel
theorem dL_law_234 : decode cL_law 234 = .ok (.istore 12, 2) := by decide +kernel
theorem dL_law_236 : decode cL_law 236 = .ok (.iload 12, 2) := by decide +kernel
theorem dL_law_238 : decode cL_law 238 = .ok (.ifCond .lt 14, 3) := by decide +kernel
theorem dL_law_241 : decode cL_law 241 = .ok (.aload_n 1, 1) := by decide +kernel
theorem dL_law_242 : decode cL_law 242 = .ok (.iload 11, 2) := by decide +kernel
theorem dL_law_244 : decode cL_law 244 = .ok (.iload 12, 2) := by decide +kernel
theorem dL_law_246 : decode cL_law 246 = .ok (.invokevirtual 123, 3) := by decide +kernel
theorem dL_law_249 : decode cL_law 249 = .ok (.goto 9, 3) := by decide +kernel
theorem dL_law_252 : decode cL_law 252 = .ok (.aload_n 1, 1) := by decide +kernel
theorem dL_law_253 : decode cL_law 253 = .ok (.iload 11, 2) := by decide +kernel
theorem dL_law_255 : decode cL_law 255 = .ok (.invokevirtual 120, 3) := by decide +kernel
theorem dL_law_258 : decode cL_law 258 = .ok (.ifCond .lt 12, 3) := by decide +kernel
theorem dL_law_261 : decode cL_law 261 = .ok (.aload_n 1, 1) := by decide +kernel
theorem dL_law_262 : decode cL_law 262 = .ok (.invokestatic 134, 3) := by decide +kernel
theorem dL_law_265 : decode cL_law 265 = .ok (.ifCond .ne 5, 3) := by decide +kernel
theorem dL_law_268 : decode cL_law 268 = .ok (.iconst 0, 1) := by decide +kernel
theorem dL_law_269 : decode cL_law 269 = .ok (.ireturn, 1) := by decide +kernel
theorem dL_law_270 : decode cL_law 270 = .ok (.iinc 9 1, 3) := by decide +kernel
theorem dL_law_273 : decode cL_law 273 = .ok (.goto (-91), 3) := by decide +kernel
theorem dL_law_276 : decode cL_law 276 = .ok (.aload_n 1, 1) := by decide +kernel
theorem dL_law_277 : decode cL_law 277 = .ok (.iload 5, 2) := by decide +kernel
theorem dL_law_279 : decode cL_law 279 = .ok (.iconst 1, 1) := by decide +kernel
theorem dL_law_280 : decode cL_law 280 = .ok (.iand, 1) := by decide +kernel
theorem dL_law_281 : decode cL_law 281 = .ok (.invokevirtual 130, 3) := by decide +kernel
theorem dL_law_284 : decode cL_law 284 = .ok (.ifCond .lt 29, 3) := by decide +kernel
theorem dL_law_287 : decode cL_law 287 = .ok (.aload_n 1, 1) := by decide +kernel
theorem dL_law_288 : decode cL_law 288 = .ok (.invokestatic 95, 3) := by decide +kernel
theorem dL_law_291 : decode cL_law 291 = .ok (.lload 7, 2) := by decide +kernel
theorem dL_law_293 : decode cL_law 293 = .ok (.lcmp, 1) := by decide +kernel
theorem dL_law_294 : decode cL_law 294 = .ok (.ifCond .ne 19, 3) := by decide +kernel
theorem dL_law_297 : decode cL_law 297 = .ok (.aload_n 1, 1) := by decide +kernel
theorem dL_law_298 : decode cL_law 298 = .ok (.invokevirtual 111, 3) := by decide +kernel
theorem dL_law_301 : decode cL_law 301 = .ok (.ifCond .ne 12, 3) := by decide +kernel
theorem dL_law_304 : decode cL_law 304 = .ok (.aload_n 1, 1) := by decide +kernel
theorem dL_law_305 : decode cL_law 305 = .ok (.invokevirtual 114, 3) := by decide +kernel
theorem dL_law_308 : decode cL_law 308 = .ok (.ldc 102, 2) := by decide +kernel
theorem dL_law_310 : decode cL_law 310 = .ok (.if_icmp .eq 5, 3) := by decide +kernel
theorem dL_law_313 : decode cL_law 313 = .ok (.iconst 0, 1) := by decide +kernel
theorem dL_law_314 : decode cL_law 314 = .ok (.ireturn, 1) := by decide +kernel
theorem dL_law_315 : decode cL_law 315 = .ok (.iinc 5 1, 3) := by decide +kernel
theorem dL_law_318 : decode cL_law 318 = .ok (.goto (-240), 3) := by decide +kernel
theorem dL_law_321 : decode cL_law 321 = .ok (.iconst 1, 1) := by decide +kernel
theorem dL_law_322 : decode cL_law 322 = .ok (.ireturn, 1) := by decide +kernel
