theorem dX9_init_0 : decode cX9_init 0 = .ok (.aload_n 0, 1) := by decide +kernel
theorem dX9_init_1 : decode cX9_init 1 = .ok (.invokespecial 1, 3) := by decide +kernel
theorem dX9_init_4 : decode cX9_init 4 = .ok (.aload_n 0, 1) := by decide +kernel
theorem dX9_init_5 : decode cX9_init 5 = .ok (.sipush 1600, 3) := by decide +kernel
theorem dX9_init_8 : decode cX9_init 8 = .ok (.newarray .byte, 2) := by decide +kernel
theorem dX9_init_10 : decode cX9_init 10 = .ok (.putfield 7, 3) := by decide +kernel
theorem dX9_init_13 : decode cX9_init 13 = .ok (.aload_n 0, 1) := by decide +kernel
theorem dX9_init_14 : decode cX9_init 14 = .ok (.iconst 4, 1) := by decide +kernel
theorem dX9_init_15 : decode cX9_init 15 = .ok (.newarray .int, 2) := by decide +kernel
theorem dX9_init_17 : decode cX9_init 17 = .ok (.putfield 13, 3) := by decide +kernel
theorem dX9_init_20 : decode cX9_init 20 = .ok (.aload_n 0, 1) := by decide +kernel
theorem dX9_init_21 : decode cX9_init 21 = .ok (.iconst 4, 1) := by decide +kernel
theorem dX9_init_22 : decode cX9_init 22 = .ok (.newarray .int, 2) := by decide +kernel
theorem dX9_init_24 : decode cX9_init 24 = .ok (.putfield 17, 3) := by decide +kernel
theorem dX9_init_27 : decode cX9_init 27 = .ok (.aload_n 0, 1) := by decide +kernel
theorem dX9_init_28 : decode cX9_init 28 = .ok (.iconst 4, 1) := by decide +kernel
theorem dX9_init_29 : decode cX9_init 29 = .ok (.newarray .int, 2) := by decide +kernel
theorem dX9_init_31 : decode cX9_init 31 = .ok (.putfield 20, 3) := by decide +kernel
theorem dX9_init_34 : decode cX9_init 34 = .ok (.aload_n 0, 1) := by decide +kernel
theorem dX9_init_35 : decode cX9_init 35 = .ok (.iconst 4, 1) := by decide +kernel
theorem dX9_init_36 : decode cX9_init 36 = .ok (.newarray .int, 2) := by decide +kernel
theorem dX9_init_38 : decode cX9_init 38 = .ok (.putfield 23, 3) := by decide +kernel
theorem dX9_init_41 : decode cX9_init 41 = .ok (.aload_n 0, 1) := by decide +kernel
theorem dX9_init_42 : decode cX9_init 42 = .ok (.iconst 4, 1) := by decide +kernel
theorem dX9_init_43 : decode cX9_init 43 = .ok (.newarray .int, 2) := by decide +kernel
theorem dX9_init_45 : decode cX9_init 45 = .ok (.putfield 26, 3) := by decide +kernel
theorem dX9_init_48 : decode cX9_init 48 = .ok (.aload_n 0, 1) := by decide +kernel
theorem dX9_init_49 : decode cX9_init 49 = .ok (.bipush 12, 2) := by decide +kernel
theorem dX9_init_51 : decode cX9_init 51 = .ok (.newarray .int, 2) := by decide +kernel
theorem dX9_init_53 : decode cX9_init 53 = .ok (.putfield 29, 3) := by decide +kernel
theorem dX9_init_56 : decode cX9_init 56 = .ok (.aload_n 0, 1) := by decide +kernel
theorem dX9_init_57 : decode cX9_init 57 = .ok (.iconst 4, 1) := by decide +kernel
theorem dX9_init_58 : decode cX9_init 58 = .ok (.newarray .int, 2) := by decide +kernel
theorem dX9_init_60 : decode cX9_init 60 = .ok (.putfield 32, 3) := by decide +kernel
theorem dX9_init_63 : decode cX9_init 63 = .ok (.aload_n 0, 1) := by decide +kernel
theorem dX9_init_64 : decode cX9_init 64 = .ok (.bipush 16, 2) := by decide +kernel
theorem dX9_init_66 : decode cX9_init 66 = .ok (.newarray .int, 2) := by decide +kernel
theorem dX9_init_68 : decode cX9_init 68 = .ok (.putfield 35, 3) := by decide +kernel
theorem dX9_init_71 : decode cX9_init 71 = .ok (.aload_n 0, 1) := by decide +kernel
theorem dX9_init_72 : decode cX9_init 72 = .ok (.bipush 16, 2) := by decide +kernel
theorem dX9_init_74 : decode cX9_init 74 = .ok (.newarray .int, 2) := by decide +kernel
theorem dX9_init_76 : decode cX9_init 76 = .ok (.putfield 38, 3) := by decide +kernel
theorem dX9_init_79 : decode cX9_init 79 = .ok (.aload_n 0, 1) := by decide +kernel
theorem dX9_init_80 : decode cX9_init 80 = .ok (.sipush 144, 3) := by decide +kernel
theorem dX9_init_83 : decode cX9_init 83 = .ok (.newarray .boolean, 2) := by decide +kernel
theorem dX9_init_85 : decode cX9_init 85 = .ok (.putfield 41, 3) := by decide +kernel
theorem dX9_init_88 : decode cX9_init 88 = .ok (.aload_n 0, 1) := by decide +kernel
theorem dX9_init_89 : decode cX9_init 89 = .ok (.iconst 4, 1) := by decide +kernel
theorem dX9_init_90 : decode cX9_init 90 = .ok (.newarray .int, 2) := by decide +kernel
theorem dX9_init_92 : decode cX9_init 92 = .ok (.putfield 45, 3) := by decide +kernel
theorem dX9_init_95 : decode cX9_init 95 = .ok (.aload_n 0, 1) := by decide +kernel
theorem dX9_init_96 : decode cX9_init 96 = .ok (.bipush 32, 2) := by decide +kernel
theorem dX9_init_98 : decode cX9_init 98 = .ok (.newarray .int, 2) := by decide +kernel
theorem dX9_init_100 : decode cX9_init 100 = .ok (.putfield 48, 3) := by decide +kernel
theorem dX9_init_103 : decode cX9_init 103 = .ok (.aload_n 0, 1) := by decide +kernel
theorem dX9_init_104 : decode cX9_init 104 = .ok (.bipush 32, 2) := by decide +kernel
theorem dX9_init_106 : decode cX9_init 106 = .ok (.newarray .int, 2) := by decide +kernel
theorem dX9_init_108 : decode cX9_init 108 = .ok (.putfield 51, 3) := by decide +kernel
theorem dX9_init_111 : decode cX9_init 111 = .ok (.aload_n 0, 1) := by decide +kernel
theorem dX9_init_112 : decode cX9_init 112 = .ok (.bipush 36, 2) := by decide +kernel
theorem dX9_init_114 : decode cX9_init 114 = .ok (.newarray .int, 2) := by decide +kernel
theorem dX9_init_116 : decode cX9_init 116 = .ok (.putfield 54, 3) := by decide +kernel
theorem dX9_init_119 : decode cX9_init 119 = .ok (.aload_n 0, 1) := by decide +kernel
theorem dX9_init_120 : decode cX9_init 120 = .ok (.sipush 1440, 3) := by decide +kernel
theorem dX9_init_123 : decode cX9_init 123 = .ok (.newarray .int, 2) := by decide +kernel
theorem dX9_init_125 : decode cX9_init 125 = .ok (.putfield 57, 3) := by decide +kernel
theorem dX9_init_128 : decode cX9_init 128 = .ok (.aload_n 0, 1) := by decide +kernel
theorem dX9_init_129 : decode cX9_init 129 = .ok (.sipush 1440, 3) := by decide +kernel
theorem dX9_init_132 : decode cX9_init 132 = .ok (.newarray .int, 2) := by decide +kernel
theorem dX9_init_134 : decode cX9_init 134 = .ok (.putfield 60, 3) := by decide +kernel
theorem dX9_init_137 : decode cX9_init 137 = .ok (.aload_n 0, 1) := by decide +kernel
theorem dX9_init_138 : decode cX9_init 138 = .ok (.sipush 1440, 3) := by decide +kernel
theorem dX9_init_141 : decode cX9_init 141 = .ok (.newarray .int, 2) := by decide +kernel
theorem dX9_init_143 : decode cX9_init 143 = .ok (.putfield 63, 3) := by decide +kernel
theorem dX9_init_146 : decode cX9_init 146 = .ok (.aload_n 0, 1) := by decide +kernel
theorem dX9_init_147 : decode cX9_init 147 = .ok (.sipush 1440, 3) := by decide +kernel
theorem dX9_init_150 : decode cX9_init 150 = .ok (.newarray .int, 2) := by decide +kernel
theorem dX9_init_152 : decode cX9_init 152 = .ok (.putfield 66, 3) := by decide +kernel
theorem dX9_init_155 : decode cX9_init 155 = .ok (.aload_n 0, 1) := by decide +kernel
theorem dX9_init_156 : decode cX9_init 156 = .ok (.iconst 4, 1) := by decide +kernel
theorem dX9_init_157 : decode cX9_init 157 = .ok (.newarray .int, 2) := by decide +kernel
theorem dX9_init_159 : decode cX9_init 159 = .ok (.putfield 69, 3) := by decide +kernel
theorem dX9_init_162 : decode cX9_init 162 = .ok (.aload_n 0, 1) := by decide +kernel
theorem dX9_init_163 : decode cX9_init 163 = .ok (.sipush 160, 3) := by decide +kernel
theorem dX9_init_166 : decode cX9_init 166 = .ok (.newarray .int, 2) := by decide +kernel
theorem dX9_init_168 : decode cX9_init 168 = .ok (.putfield 72, 3) := by decide +kernel
theorem dX9_init_171 : decode cX9_init 171 = .ok (.aload_n 0, 1) := by decide +kernel
theorem dX9_init_172 : decode cX9_init 172 = .ok (.sipush 160, 3) := by decide +kernel
theorem dX9_init_175 : decode cX9_init 175 = .ok (.newarray .int, 2) := by decide +kernel
theorem dX9_init_177 : decode cX9_init 177 = .ok (.putfield 75, 3) := by decide +kernel
theorem dX9_init_180 : decode cX9_init 180 = .ok (.aload_n 0, 1) := by decide +kernel
theorem dX9_init_181 : decode cX9_init 181 = .ok (.sipush 160, 3) := by decide +kernel
theorem dX9_init_184 : decode cX9_init 184 = .ok (.newarray .int, 2) := by decide +kernel
theorem dX9_init_186 : decode cX9_init 186 = .ok (.putfield 78, 3) := by decide +kernel
theorem dX9_init_189 : decode cX9_init 189 = .ok (.aload_n 0, 1) := by decide +kernel
theorem dX9_init_190 : decode cX9_init 190 = .ok (.sipush 576, 3) := by decide +kernel
theorem dX9_init_193 : decode cX9_init 193 = .ok (.newarray .boolean, 2) := by decide +kernel
theorem dX9_init_195 : decode cX9_init 195 = .ok (.putfield 81, 3) := by decide +kernel
theorem dX9_init_198 : decode cX9_init 198 = .ok (.aload_n 0, 1) := by decide +kernel
theorem dX9_init_199 : decode cX9_init 199 = .ok (.bipush 16, 2) := by decide +kernel
theorem dX9_init_201 : decode cX9_init 201 = .ok (.newarray .boolean, 2) := by decide +kernel
theorem dX9_init_203 : decode cX9_init 203 = .ok (.putfield 84, 3) := by decide +kernel
theorem dX9_init_206 : decode cX9_init 206 = .ok (.aload_n 0, 1) := by decide +kernel
theorem dX9_init_207 : decode cX9_init 207 = .ok (.iconst 3, 1) := by decide +kernel
theorem dX9_init_208 : decode cX9_init 208 = .ok (.newarray .int, 2) := by decide +kernel
theorem dX9_init_210 : decode cX9_init 210 = .ok (.putfield 87, 3) := by decide +kernel
theorem dX9_init_213 : decode cX9_init 213 = .ok (.aload_n 0, 1) := by decide +kernel
theorem dX9_init_214 : decode cX9_init 214 = .ok (.iconst 5, 1) := by decide +kernel
theorem dX9_init_215 : decode cX9_init 215 = .ok (.newarray .int, 2) := by decide +kernel
theorem dX9_init_217 : decode cX9_init 217 = .ok (.putfield 90, 3) := by decide +kernel
theorem dX9_init_220 : decode cX9_init 220 = .ok (.aload_n 0, 1) := by decide +kernel
theorem dX9_init_221 : decode cX9_init 221 = .ok (.bipush 36, 2) := by decide +kernel
theorem dX9_init_223 : decode cX9_init 223 = .ok (.newarray .boolean, 2) := by decide +kernel
theorem dX9_init_225 : decode cX9_init 225 = .ok (.putfield 93, 3) := by decide +kernel
theorem dX9_init_228 : decode cX9_init 228 = .ok (.aload_n 0, 1) := by decide +kernel
theorem dX9_init_229 : decode cX9_init 229 = .ok (.sipush 420, 3) := by decide +kernel
theorem dX9_init_232 : decode cX9_init 232 = .ok (.newarray .int, 2) := by decide +kernel
theorem dX9_init_234 : decode cX9_init 234 = .ok (.putfield 96, 3) := by decide +kernel
theorem dX9_init_237 : decode cX9_init 237 = .ok (.aload_n 0, 1) := by decide +kernel
theorem dX9_init_238 : decode cX9_init 238 = .ok (.bipush 41, 2) := by decide +kernel
theorem dX9_init_240 : decode cX9_init 240 = .ok (.newarray .int, 2) := by decide +kernel
theorem dX9_init_242 : decode cX9_init 242 = .ok (.putfield 99, 3) := by decide +kernel
theorem dX9_init_245 : decode cX9_init 245 = .ok (.aload_n 0, 1) := by decide +kernel
theorem dX9_init_246 : decode cX9_init 246 = .ok (.bipush 41, 2) := by decide +kernel
theorem dX9_init_248 : decode cX9_init 248 = .ok (.newarray .int, 2) := by decide +kernel
theorem dX9_init_250 : decode cX9_init 250 = .ok (.putfield 102, 3) := by decide +kernel
theorem dX9_init_253 : decode cX9_init 253 = .ok (.aload_n 0, 1) := by decide +kernel
theorem dX9_init_254 : decode cX9_init 254 = .ok (.bipush 41, 2) := by decide +kernel
theorem dX9_init_256 : decode cX9_init 256 = .ok (.newarray .int, 2) := by decide +kernel
theorem dX9_init_258 : decode cX9_init 258 = .ok (.putfield 105, 3) := by decide +kernel
theorem dX9_init_261 : decode cX9_init 261 = .ok (.aload_n 0, 1) := by decide +kernel
theorem dX9_init_262 : decode cX9_init 262 = .ok (.bipush 41, 2) := by decide +kernel
theorem dX9_init_264 : decode cX9_init 264 = .ok (.newarray .int, 2) := by decide +kernel
theorem dX9_init_266 : decode cX9_init 266 = .ok (.putfield 108, 3) := by decide +kernel
theorem dX9_init_269 : decode cX9_init 269 = .ok (.aload_n 0, 1) := by decide +kernel
theorem dX9_init_270 : decode cX9_init 270 = .ok (.sipush 3321, 3) := by decide +kernel
theorem dX9_init_273 : decode cX9_init 273 = .ok (.newarray .boolean, 2) := by decide +kernel
theorem dX9_init_275 : decode cX9_init 275 = .ok (.putfield 111, 3) := by decide +kernel
theorem dX9_init_278 : decode cX9_init 278 = .ok (.aload_n 0, 1) := by decide +kernel
theorem dX9_init_279 : decode cX9_init 279 = .ok (.bipush 9, 2) := by decide +kernel
theorem dX9_init_281 : decode cX9_init 281 = .ok (.newarray .boolean, 2) := by decide +kernel
theorem dX9_init_283 : decode cX9_init 283 = .ok (.putfield 114, 3) := by decide +kernel
theorem dX9_init_286 : decode cX9_init 286 = .ok (.aload_n 0, 1) := by decide +kernel
theorem dX9_init_287 : decode cX9_init 287 = .ok (.iconst 3, 1) := by decide +kernel
theorem dX9_init_288 : decode cX9_init 288 = .ok (.newarray .int, 2) := by decide +kernel
theorem dX9_init_290 : decode cX9_init 290 = .ok (.putfield 117, 3) := by decide +kernel
theorem dX9_init_293 : decode cX9_init 293 = .ok (.aload_n 0, 1) := by decide +kernel
theorem dX9_init_294 : decode cX9_init 294 = .ok (.sipush 256, 3) := by decide +kernel
theorem dX9_init_297 : decode cX9_init 297 = .ok (.newarray .boolean, 2) := by decide +kernel
theorem dX9_init_299 : decode cX9_init 299 = .ok (.putfield 120, 3) := by decide +kernel
theorem dX9_init_302 : decode cX9_init 302 = .ok (.aload_n 0, 1) := by decide +kernel
theorem dX9_init_303 : decode cX9_init 303 = .ok (.bipush 12, 2) := by decide +kernel
theorem dX9_init_305 : decode cX9_init 305 = .ok (.newarray .int, 2) := by decide +kernel
theorem dX9_init_307 : decode cX9_init 307 = .ok (.putfield 123, 3) := by decide +kernel
theorem dX9_init_310 : decode cX9_init 310 = .ok (.aload_n 0, 1) := by decide +kernel
theorem dX9_init_311 : decode cX9_init 311 = .ok (.bipush 16, 2) := by decide +kernel
theorem dX9_init_313 : decode cX9_init 313 = .ok (.newarray .int, 2) := by decide +kernel
theorem dX9_init_315 : decode cX9_init 315 = .ok (.putfield 126, 3) := by decide +kernel
theorem dX9_init_318 : decode cX9_init 318 = .ok (.aload_n 0, 1) := by decide +kernel
theorem dX9_init_319 : decode cX9_init 319 = .ok (.ldc 129, 2) := by decide +kernel
theorem dX9_init_321 : decode cX9_init 321 = .ok (.newarray .boolean, 2) := by decide +kernel
theorem dX9_init_323 : decode cX9_init 323 = .ok (.putfield 130, 3) := by decide +kernel
theorem dX9_init_326 : decode cX9_init 326 = .ok (.aload_n 0, 1) := by decide +kernel
theorem dX9_init_327 : decode cX9_init 327 = .ok (.ldc 129, 2) := by decide +kernel
theorem dX9_init_329 : decode cX9_init 329 = .ok (.newarray .boolean, 2) := by decide +kernel
theorem dX9_init_331 : decode cX9_init 331 = .ok (.putfield 133, 3) := by decide +kernel
theorem dX9_init_334 : decode cX9_init 334 = .ok (.aload_n 0, 1) := by decide +kernel
theorem dX9_init_335 : decode cX9_init 335 = .ok (.bipush 12, 2) := by decide +kernel
theorem dX9_init_337 : decode cX9_init 337 = .ok (.newarray .int, 2) := by decide +kernel
theorem dX9_init_339 : decode cX9_init 339 = .ok (.putfield 136, 3) := by decide +kernel
theorem dX9_init_342 : decode cX9_init 342 = .ok (.aload_n 0, 1) := by decide +kernel
theorem dX9_init_343 : decode cX9_init 343 = .ok (.iconst 3, 1) := by decide +kernel
theorem dX9_init_344 : decode cX9_init 344 = .ok (.newarray .boolean, 2) := by decide +kernel
theorem dX9_init_346 : decode cX9_init 346 = .ok (.putfield 139, 3) := by decide +kernel
theorem dX9_init_349 : decode cX9_init 349 = .ok (.aload_n 0, 1) := by decide +kernel
theorem dX9_init_350 : decode cX9_init 350 = .ok (.getfield 20, 3) := by decide +kernel
theorem dX9_init_353 : decode cX9_init 353 = .ok (.iconst 0, 1) := by decide +kernel
theorem dX9_init_354 : decode cX9_init 354 = .ok (.iconst (-1), 1) := by decide +kernel
theorem dX9_init_355 : decode cX9_init 355 = .ok (.iastore, 1) := by decide +kernel
theorem dX9_init_356 : decode cX9_init 356 = .ok (.aload_n 0, 1) := by decide +kernel
theorem dX9_init_357 : decode cX9_init 357 = .ok (.getfield 26, 3) := by decide +kernel
theorem dX9_init_360 : decode cX9_init 360 = .ok (.iconst 0, 1) := by decide +kernel
theorem dX9_init_361 : decode cX9_init 361 = .ok (.iconst (-1), 1) := by decide +kernel
theorem dX9_init_362 : decode cX9_init 362 = .ok (.iastore, 1) := by decide +kernel
theorem dX9_init_363 : decode cX9_init 363 = .ok (.iconst 0, 1) := by decide +kernel
theorem dX9_init_364 : decode cX9_init 364 = .ok (.istore_n 1, 1) := by decide +kernel
theorem dX9_init_365 : decode cX9_init 365 = .ok (.iload_n 1, 1) := by decide +kernel
theorem dX9_init_366 : decode cX9_init 366 = .ok (.iconst 3, 1) := by decide +kernel
theorem dX9_init_367 : decode cX9_init 367 = .ok (.if_icmp .ge 16, 3) := by decide +kernel
theorem dX9_init_370 : decode cX9_init 370 = .ok (.aload_n 0, 1) := by decide +kernel
theorem dX9_init_371 : decode cX9_init 371 = .ok (.getfield 29, 3) := by decide +kernel
theorem dX9_init_374 : decode cX9_init 374 = .ok (.iload_n 1, 1) := by decide +kernel
theorem dX9_init_375 : decode cX9_init 375 = .ok (.iconst 2, 1) := by decide +kernel
theorem dX9_init_376 : decode cX9_init 376 = .ok (.iastore, 1) := by decide +kernel
theorem dX9_init_377 : decode cX9_init 377 = .ok (.iinc 1 1, 3) := by decide +kernel
theorem dX9_init_380 : decode cX9_init 380 = .ok (.goto (-15), 3) := by decide +kernel
theorem dX9_init_383 : decode cX9_init 383 = .ok (.return_, 1) := by decide +kernel
theorem dX9_in_0 : decode cX9_in 0 = .ok (.iload_n 0, 1) := by decide +kernel
theorem dX9_in_1 : decode cX9_in 1 = .ok (.iload_n 1, 1) := by decide +kernel
theorem dX9_in_2 : decode cX9_in 2 = .ok (.if_icmp .lt 12, 3) := by decide +kernel
theorem dX9_in_5 : decode cX9_in 5 = .ok (.iload_n 0, 1) := by decide +kernel
theorem dX9_in_6 : decode cX9_in 6 = .ok (.iload_n 2, 1) := by decide +kernel
theorem dX9_in_7 : decode cX9_in 7 = .ok (.if_icmp .gt 7, 3) := by decide +kernel
theorem dX9_in_10 : decode cX9_in 10 = .ok (.iconst 1, 1) := by decide +kernel
theorem dX9_in_11 : decode cX9_in 11 = .ok (.goto 4, 3) := by decide +kernel
theorem dX9_in_14 : decode cX9_in 14 = .ok (.iconst 0, 1) := by decide +kernel
theorem dX9_in_15 : decode cX9_in 15 = .ok (.ireturn, 1) := by decide +kernel
theorem dX9_move_0 : decode cX9_move 0 = .ok (.iconst 0, 1) := by decide +kernel
theorem dX9_move_1 : decode cX9_move 1 = .ok (.istore 4, 2) := by decide +kernel
theorem dX9_move_3 : decode cX9_move 3 = .ok (.iload 4, 2) := by decide +kernel
theorem dX9_move_5 : decode cX9_move 5 = .ok (.iload_n 1, 1) := by decide +kernel
theorem dX9_move_6 : decode cX9_move 6 = .ok (.if_icmp .ge 25, 3) := by decide +kernel
theorem dX9_move_9 : decode cX9_move 9 = .ok (.aload_n 0, 1) := by decide +kernel
theorem dX9_move_10 : decode cX9_move 10 = .ok (.iload_n 1, 1) := by decide +kernel
theorem dX9_move_11 : decode cX9_move 11 = .ok (.iload_n 3, 1) := by decide +kernel
theorem dX9_move_12 : decode cX9_move 12 = .ok (.imul, 1) := by decide +kernel
theorem dX9_move_13 : decode cX9_move 13 = .ok (.iload 4, 2) := by decide +kernel
theorem dX9_move_15 : decode cX9_move 15 = .ok (.iadd, 1) := by decide +kernel
theorem dX9_move_16 : decode cX9_move 16 = .ok (.aload_n 0, 1) := by decide +kernel
theorem dX9_move_17 : decode cX9_move 17 = .ok (.iload_n 1, 1) := by decide +kernel
theorem dX9_move_18 : decode cX9_move 18 = .ok (.iload_n 2, 1) := by decide +kernel
theorem dX9_move_19 : decode cX9_move 19 = .ok (.imul, 1) := by decide +kernel
theorem dX9_move_20 : decode cX9_move 20 = .ok (.iload 4, 2) := by decide +kernel
theorem dX9_move_22 : decode cX9_move 22 = .ok (.iadd, 1) := by decide +kernel
theorem dX9_move_23 : decode cX9_move 23 = .ok (.iaload, 1) := by decide +kernel
theorem dX9_move_24 : decode cX9_move 24 = .ok (.iastore, 1) := by decide +kernel
theorem dX9_move_25 : decode cX9_move 25 = .ok (.iinc 4 1, 3) := by decide +kernel
theorem dX9_move_28 : decode cX9_move 28 = .ok (.goto (-25), 3) := by decide +kernel
theorem dX9_move_31 : decode cX9_move 31 = .ok (.return_, 1) := by decide +kernel
theorem dX9_copy_0 : decode cX9_copy 0 = .ok (.iconst 0, 1) := by decide +kernel
theorem dX9_copy_1 : decode cX9_copy 1 = .ok (.istore_n 3, 1) := by decide +kernel
theorem dX9_copy_2 : decode cX9_copy 2 = .ok (.iload_n 3, 1) := by decide +kernel
theorem dX9_copy_3 : decode cX9_copy 3 = .ok (.sipush 400, 3) := by decide +kernel
theorem dX9_copy_6 : decode cX9_copy 6 = .ok (.if_icmp .ge 33, 3) := by decide +kernel
theorem dX9_copy_9 : decode cX9_copy 9 = .ok (.aload_n 0, 1) := by decide +kernel
theorem dX9_copy_10 : decode cX9_copy 10 = .ok (.getfield 7, 3) := by decide +kernel
theorem dX9_copy_13 : decode cX9_copy 13 = .ok (.sipush 400, 3) := by decide +kernel
theorem dX9_copy_16 : decode cX9_copy 16 = .ok (.iload_n 2, 1) := by decide +kernel
theorem dX9_copy_17 : decode cX9_copy 17 = .ok (.imul, 1) := by decide +kernel
theorem dX9_copy_18 : decode cX9_copy 18 = .ok (.iload_n 3, 1) := by decide +kernel
theorem dX9_copy_19 : decode cX9_copy 19 = .ok (.iadd, 1) := by decide +kernel
theorem dX9_copy_20 : decode cX9_copy 20 = .ok (.aload_n 0, 1) := by decide +kernel
theorem dX9_copy_21 : decode cX9_copy 21 = .ok (.getfield 7, 3) := by decide +kernel
theorem dX9_copy_24 : decode cX9_copy 24 = .ok (.sipush 400, 3) := by decide +kernel
theorem dX9_copy_27 : decode cX9_copy 27 = .ok (.iload_n 1, 1) := by decide +kernel
theorem dX9_copy_28 : decode cX9_copy 28 = .ok (.imul, 1) := by decide +kernel
theorem dX9_copy_29 : decode cX9_copy 29 = .ok (.iload_n 3, 1) := by decide +kernel
theorem dX9_copy_30 : decode cX9_copy 30 = .ok (.iadd, 1) := by decide +kernel
theorem dX9_copy_31 : decode cX9_copy 31 = .ok (.baload, 1) := by decide +kernel
theorem dX9_copy_32 : decode cX9_copy 32 = .ok (.bastore, 1) := by decide +kernel
theorem dX9_copy_33 : decode cX9_copy 33 = .ok (.iinc 3 1, 3) := by decide +kernel
theorem dX9_copy_36 : decode cX9_copy 36 = .ok (.goto (-34), 3) := by decide +kernel
theorem dX9_copy_39 : decode cX9_copy 39 = .ok (.iconst 0, 1) := by decide +kernel
theorem dX9_copy_40 : decode cX9_copy 40 = .ok (.istore_n 3, 1) := by decide +kernel
theorem dX9_copy_41 : decode cX9_copy 41 = .ok (.iload_n 3, 1) := by decide +kernel
theorem dX9_copy_42 : decode cX9_copy 42 = .ok (.bipush 36, 2) := by decide +kernel
theorem dX9_copy_44 : decode cX9_copy 44 = .ok (.if_icmp .ge 31, 3) := by decide +kernel
theorem dX9_copy_47 : decode cX9_copy 47 = .ok (.aload_n 0, 1) := by decide +kernel
theorem dX9_copy_48 : decode cX9_copy 48 = .ok (.getfield 41, 3) := by decide +kernel
theorem dX9_copy_51 : decode cX9_copy 51 = .ok (.bipush 36, 2) := by decide +kernel
theorem dX9_copy_53 : decode cX9_copy 53 = .ok (.iload_n 2, 1) := by decide +kernel
theorem dX9_copy_54 : decode cX9_copy 54 = .ok (.imul, 1) := by decide +kernel
theorem dX9_copy_55 : decode cX9_copy 55 = .ok (.iload_n 3, 1) := by decide +kernel
theorem dX9_copy_56 : decode cX9_copy 56 = .ok (.iadd, 1) := by decide +kernel
theorem dX9_copy_57 : decode cX9_copy 57 = .ok (.aload_n 0, 1) := by decide +kernel
theorem dX9_copy_58 : decode cX9_copy 58 = .ok (.getfield 41, 3) := by decide +kernel
theorem dX9_copy_61 : decode cX9_copy 61 = .ok (.bipush 36, 2) := by decide +kernel
theorem dX9_copy_63 : decode cX9_copy 63 = .ok (.iload_n 1, 1) := by decide +kernel
theorem dX9_copy_64 : decode cX9_copy 64 = .ok (.imul, 1) := by decide +kernel
theorem dX9_copy_65 : decode cX9_copy 65 = .ok (.iload_n 3, 1) := by decide +kernel
theorem dX9_copy_66 : decode cX9_copy 66 = .ok (.iadd, 1) := by decide +kernel
theorem dX9_copy_67 : decode cX9_copy 67 = .ok (.baload, 1) := by decide +kernel
theorem dX9_copy_68 : decode cX9_copy 68 = .ok (.bastore, 1) := by decide +kernel
theorem dX9_copy_69 : decode cX9_copy 69 = .ok (.iinc 3 1, 3) := by decide +kernel
theorem dX9_copy_72 : decode cX9_copy 72 = .ok (.goto (-31), 3) := by decide +kernel
theorem dX9_copy_75 : decode cX9_copy 75 = .ok (.iconst 0, 1) := by decide +kernel
theorem dX9_copy_76 : decode cX9_copy 76 = .ok (.istore_n 3, 1) := by decide +kernel
theorem dX9_copy_77 : decode cX9_copy 77 = .ok (.iload_n 3, 1) := by decide +kernel
theorem dX9_copy_78 : decode cX9_copy 78 = .ok (.sipush 144, 3) := by decide +kernel
theorem dX9_copy_81 : decode cX9_copy 81 = .ok (.if_icmp .ge 33, 3) := by decide +kernel
theorem dX9_copy_84 : decode cX9_copy 84 = .ok (.aload_n 0, 1) := by decide +kernel
theorem dX9_copy_85 : decode cX9_copy 85 = .ok (.getfield 81, 3) := by decide +kernel
theorem dX9_copy_88 : decode cX9_copy 88 = .ok (.sipush 144, 3) := by decide +kernel
theorem dX9_copy_91 : decode cX9_copy 91 = .ok (.iload_n 2, 1) := by decide +kernel
theorem dX9_copy_92 : decode cX9_copy 92 = .ok (.imul, 1) := by decide +kernel
theorem dX9_copy_93 : decode cX9_copy 93 = .ok (.iload_n 3, 1) := by decide +kernel
theorem dX9_copy_94 : decode cX9_copy 94 = .ok (.iadd, 1) := by decide +kernel
theorem dX9_copy_95 : decode cX9_copy 95 = .ok (.aload_n 0, 1) := by decide +kernel
theorem dX9_copy_96 : decode cX9_copy 96 = .ok (.getfield 81, 3) := by decide +kernel
theorem dX9_copy_99 : decode cX9_copy 99 = .ok (.sipush 144, 3) := by decide +kernel
theorem dX9_copy_102 : decode cX9_copy 102 = .ok (.iload_n 1, 1) := by decide +kernel
theorem dX9_copy_103 : decode cX9_copy 103 = .ok (.imul, 1) := by decide +kernel
theorem dX9_copy_104 : decode cX9_copy 104 = .ok (.iload_n 3, 1) := by decide +kernel
theorem dX9_copy_105 : decode cX9_copy 105 = .ok (.iadd, 1) := by decide +kernel
theorem dX9_copy_106 : decode cX9_copy 106 = .ok (.baload, 1) := by decide +kernel
theorem dX9_copy_107 : decode cX9_copy 107 = .ok (.bastore, 1) := by decide +kernel
theorem dX9_copy_108 : decode cX9_copy 108 = .ok (.iinc 3 1, 3) := by decide +kernel
theorem dX9_copy_111 : decode cX9_copy 111 = .ok (.goto (-34), 3) := by decide +kernel
theorem dX9_copy_114 : decode cX9_copy 114 = .ok (.iconst 0, 1) := by decide +kernel
theorem dX9_copy_115 : decode cX9_copy 115 = .ok (.istore_n 3, 1) := by decide +kernel
theorem dX9_copy_116 : decode cX9_copy 116 = .ok (.iload_n 3, 1) := by decide +kernel
theorem dX9_copy_117 : decode cX9_copy 117 = .ok (.iconst 4, 1) := by decide +kernel
theorem dX9_copy_118 : decode cX9_copy 118 = .ok (.if_icmp .ge 29, 3) := by decide +kernel
theorem dX9_copy_121 : decode cX9_copy 121 = .ok (.aload_n 0, 1) := by decide +kernel
theorem dX9_copy_122 : decode cX9_copy 122 = .ok (.getfield 84, 3) := by decide +kernel
theorem dX9_copy_125 : decode cX9_copy 125 = .ok (.iconst 4, 1) := by decide +kernel
theorem dX9_copy_126 : decode cX9_copy 126 = .ok (.iload_n 2, 1) := by decide +kernel
theorem dX9_copy_127 : decode cX9_copy 127 = .ok (.imul, 1) := by decide +kernel
theorem dX9_copy_128 : decode cX9_copy 128 = .ok (.iload_n 3, 1) := by decide +kernel
theorem dX9_copy_129 : decode cX9_copy 129 = .ok (.iadd, 1) := by decide +kernel
theorem dX9_copy_130 : decode cX9_copy 130 = .ok (.aload_n 0, 1) := by decide +kernel
theorem dX9_copy_131 : decode cX9_copy 131 = .ok (.getfield 84, 3) := by decide +kernel
theorem dX9_copy_134 : decode cX9_copy 134 = .ok (.iconst 4, 1) := by decide +kernel
theorem dX9_copy_135 : decode cX9_copy 135 = .ok (.iload_n 1, 1) := by decide +kernel
theorem dX9_copy_136 : decode cX9_copy 136 = .ok (.imul, 1) := by decide +kernel
theorem dX9_copy_137 : decode cX9_copy 137 = .ok (.iload_n 3, 1) := by decide +kernel
theorem dX9_copy_138 : decode cX9_copy 138 = .ok (.iadd, 1) := by decide +kernel
theorem dX9_copy_139 : decode cX9_copy 139 = .ok (.baload, 1) := by decide +kernel
theorem dX9_copy_140 : decode cX9_copy 140 = .ok (.bastore, 1) := by decide +kernel
theorem dX9_copy_141 : decode cX9_copy 141 = .ok (.iinc 3 1, 3) := by decide +kernel
theorem dX9_copy_144 : decode cX9_copy 144 = .ok (.goto (-28), 3) := by decide +kernel
theorem dX9_copy_147 : decode cX9_copy 147 = .ok (.aload_n 0, 1) := by decide +kernel
theorem dX9_copy_148 : decode cX9_copy 148 = .ok (.getfield 69, 3) := by decide +kernel
theorem dX9_copy_151 : decode cX9_copy 151 = .ok (.iconst 1, 1) := by decide +kernel
theorem dX9_copy_152 : decode cX9_copy 152 = .ok (.iload_n 1, 1) := by decide +kernel
theorem dX9_copy_153 : decode cX9_copy 153 = .ok (.iload_n 2, 1) := by decide +kernel
theorem dX9_copy_154 : decode cX9_copy 154 = .ok (.invokestatic 146, 3) := by decide +kernel
theorem dX9_copy_157 : decode cX9_copy 157 = .ok (.aload_n 0, 1) := by decide +kernel
theorem dX9_copy_158 : decode cX9_copy 158 = .ok (.getfield 72, 3) := by decide +kernel
theorem dX9_copy_161 : decode cX9_copy 161 = .ok (.bipush 40, 2) := by decide +kernel
theorem dX9_copy_163 : decode cX9_copy 163 = .ok (.iload_n 1, 1) := by decide +kernel
theorem dX9_copy_164 : decode cX9_copy 164 = .ok (.iload_n 2, 1) := by decide +kernel
theorem dX9_copy_165 : decode cX9_copy 165 = .ok (.invokestatic 146, 3) := by decide +kernel
theorem dX9_copy_168 : decode cX9_copy 168 = .ok (.aload_n 0, 1) := by decide +kernel
theorem dX9_copy_169 : decode cX9_copy 169 = .ok (.getfield 75, 3) := by decide +kernel
theorem dX9_copy_172 : decode cX9_copy 172 = .ok (.bipush 40, 2) := by decide +kernel
theorem dX9_copy_174 : decode cX9_copy 174 = .ok (.iload_n 1, 1) := by decide +kernel
theorem dX9_copy_175 : decode cX9_copy 175 = .ok (.iload_n 2, 1) := by decide +kernel
theorem dX9_copy_176 : decode cX9_copy 176 = .ok (.invokestatic 146, 3) := by decide +kernel
theorem dX9_copy_179 : decode cX9_copy 179 = .ok (.aload_n 0, 1) := by decide +kernel
theorem dX9_copy_180 : decode cX9_copy 180 = .ok (.getfield 78, 3) := by decide +kernel
theorem dX9_copy_183 : decode cX9_copy 183 = .ok (.bipush 40, 2) := by decide +kernel
theorem dX9_copy_185 : decode cX9_copy 185 = .ok (.iload_n 1, 1) := by decide +kernel
theorem dX9_copy_186 : decode cX9_copy 186 = .ok (.iload_n 2, 1) := by decide +kernel
theorem dX9_copy_187 : decode cX9_copy 187 = .ok (.invokestatic 146, 3) := by decide +kernel
theorem dX9_copy_190 : decode cX9_copy 190 = .ok (.aload_n 0, 1) := by decide +kernel
theorem dX9_copy_191 : decode cX9_copy 191 = .ok (.getfield 13, 3) := by decide +kernel
theorem dX9_copy_194 : decode cX9_copy 194 = .ok (.iconst 1, 1) := by decide +kernel
theorem dX9_copy_195 : decode cX9_copy 195 = .ok (.iload_n 1, 1) := by decide +kernel
theorem dX9_copy_196 : decode cX9_copy 196 = .ok (.iload_n 2, 1) := by decide +kernel
theorem dX9_copy_197 : decode cX9_copy 197 = .ok (.invokestatic 146, 3) := by decide +kernel
theorem dX9_copy_200 : decode cX9_copy 200 = .ok (.aload_n 0, 1) := by decide +kernel
theorem dX9_copy_201 : decode cX9_copy 201 = .ok (.getfield 17, 3) := by decide +kernel
theorem dX9_copy_204 : decode cX9_copy 204 = .ok (.iconst 1, 1) := by decide +kernel
theorem dX9_copy_205 : decode cX9_copy 205 = .ok (.iload_n 1, 1) := by decide +kernel
theorem dX9_copy_206 : decode cX9_copy 206 = .ok (.iload_n 2, 1) := by decide +kernel
theorem dX9_copy_207 : decode cX9_copy 207 = .ok (.invokestatic 146, 3) := by decide +kernel
theorem dX9_copy_210 : decode cX9_copy 210 = .ok (.aload_n 0, 1) := by decide +kernel
theorem dX9_copy_211 : decode cX9_copy 211 = .ok (.getfield 20, 3) := by decide +kernel
theorem dX9_copy_214 : decode cX9_copy 214 = .ok (.iconst 1, 1) := by decide +kernel
theorem dX9_copy_215 : decode cX9_copy 215 = .ok (.iload_n 1, 1) := by decide +kernel
theorem dX9_copy_216 : decode cX9_copy 216 = .ok (.iload_n 2, 1) := by decide +kernel
theorem dX9_copy_217 : decode cX9_copy 217 = .ok (.invokestatic 146, 3) := by decide +kernel
theorem dX9_copy_220 : decode cX9_copy 220 = .ok (.aload_n 0, 1) := by decide +kernel
theorem dX9_copy_221 : decode cX9_copy 221 = .ok (.getfield 23, 3) := by decide +kernel
theorem dX9_copy_224 : decode cX9_copy 224 = .ok (.iconst 1, 1) := by decide +kernel
theorem dX9_copy_225 : decode cX9_copy 225 = .ok (.iload_n 1, 1) := by decide +kernel
theorem dX9_copy_226 : decode cX9_copy 226 = .ok (.iload_n 2, 1) := by decide +kernel
theorem dX9_copy_227 : decode cX9_copy 227 = .ok (.invokestatic 146, 3) := by decide +kernel
theorem dX9_copy_230 : decode cX9_copy 230 = .ok (.aload_n 0, 1) := by decide +kernel
theorem dX9_copy_231 : decode cX9_copy 231 = .ok (.getfield 26, 3) := by decide +kernel
theorem dX9_copy_234 : decode cX9_copy 234 = .ok (.iconst 1, 1) := by decide +kernel
theorem dX9_copy_235 : decode cX9_copy 235 = .ok (.iload_n 1, 1) := by decide +kernel
theorem dX9_copy_236 : decode cX9_copy 236 = .ok (.iload_n 2, 1) := by decide +kernel
theorem dX9_copy_237 : decode cX9_copy 237 = .ok (.invokestatic 146, 3) := by decide +kernel
theorem dX9_copy_240 : decode cX9_copy 240 = .ok (.aload_n 0, 1) := by decide +kernel
theorem dX9_copy_241 : decode cX9_copy 241 = .ok (.getfield 29, 3) := by decide +kernel
theorem dX9_copy_244 : decode cX9_copy 244 = .ok (.iconst 3, 1) := by decide +kernel
theorem dX9_copy_245 : decode cX9_copy 245 = .ok (.iload_n 1, 1) := by decide +kernel
theorem dX9_copy_246 : decode cX9_copy 246 = .ok (.iload_n 2, 1) := by decide +kernel
theorem dX9_copy_247 : decode cX9_copy 247 = .ok (.invokestatic 146, 3) := by decide +kernel
theorem dX9_copy_250 : decode cX9_copy 250 = .ok (.aload_n 0, 1) := by decide +kernel
theorem dX9_copy_251 : decode cX9_copy 251 = .ok (.getfield 32, 3) := by decide +kernel
theorem dX9_copy_254 : decode cX9_copy 254 = .ok (.iconst 1, 1) := by decide +kernel
theorem dX9_copy_255 : decode cX9_copy 255 = .ok (.iload_n 1, 1) := by decide +kernel
theorem dX9_copy_256 : decode cX9_copy 256 = .ok (.iload_n 2, 1) := by decide +kernel
theorem dX9_copy_257 : decode cX9_copy 257 = .ok (.invokestatic 146, 3) := by decide +kernel
theorem dX9_copy_260 : decode cX9_copy 260 = .ok (.aload_n 0, 1) := by decide +kernel
theorem dX9_copy_261 : decode cX9_copy 261 = .ok (.getfield 35, 3) := by decide +kernel
theorem dX9_copy_264 : decode cX9_copy 264 = .ok (.iconst 4, 1) := by decide +kernel
theorem dX9_copy_265 : decode cX9_copy 265 = .ok (.iload_n 1, 1) := by decide +kernel
theorem dX9_copy_266 : decode cX9_copy 266 = .ok (.iload_n 2, 1) := by decide +kernel
theorem dX9_copy_267 : decode cX9_copy 267 = .ok (.invokestatic 146, 3) := by decide +kernel
theorem dX9_copy_270 : decode cX9_copy 270 = .ok (.aload_n 0, 1) := by decide +kernel
theorem dX9_copy_271 : decode cX9_copy 271 = .ok (.getfield 38, 3) := by decide +kernel
theorem dX9_copy_274 : decode cX9_copy 274 = .ok (.iconst 4, 1) := by decide +kernel
theorem dX9_copy_275 : decode cX9_copy 275 = .ok (.iload_n 1, 1) := by decide +kernel
theorem dX9_copy_276 : decode cX9_copy 276 = .ok (.iload_n 2, 1) := by decide +kernel
theorem dX9_copy_277 : decode cX9_copy 277 = .ok (.invokestatic 146, 3) := by decide +kernel
theorem dX9_copy_280 : decode cX9_copy 280 = .ok (.aload_n 0, 1) := by decide +kernel
theorem dX9_copy_281 : decode cX9_copy 281 = .ok (.getfield 45, 3) := by decide +kernel
theorem dX9_copy_284 : decode cX9_copy 284 = .ok (.iconst 1, 1) := by decide +kernel
theorem dX9_copy_285 : decode cX9_copy 285 = .ok (.iload_n 1, 1) := by decide +kernel
theorem dX9_copy_286 : decode cX9_copy 286 = .ok (.iload_n 2, 1) := by decide +kernel
theorem dX9_copy_287 : decode cX9_copy 287 = .ok (.invokestatic 146, 3) := by decide +kernel
theorem dX9_copy_290 : decode cX9_copy 290 = .ok (.aload_n 0, 1) := by decide +kernel
theorem dX9_copy_291 : decode cX9_copy 291 = .ok (.getfield 48, 3) := by decide +kernel
theorem dX9_copy_294 : decode cX9_copy 294 = .ok (.bipush 8, 2) := by decide +kernel
theorem dX9_copy_296 : decode cX9_copy 296 = .ok (.iload_n 1, 1) := by decide +kernel
theorem dX9_copy_297 : decode cX9_copy 297 = .ok (.iload_n 2, 1) := by decide +kernel
theorem dX9_copy_298 : decode cX9_copy 298 = .ok (.invokestatic 146, 3) := by decide +kernel
theorem dX9_copy_301 : decode cX9_copy 301 = .ok (.aload_n 0, 1) := by decide +kernel
theorem dX9_copy_302 : decode cX9_copy 302 = .ok (.getfield 51, 3) := by decide +kernel
theorem dX9_copy_305 : decode cX9_copy 305 = .ok (.bipush 8, 2) := by decide +kernel
theorem dX9_copy_307 : decode cX9_copy 307 = .ok (.iload_n 1, 1) := by decide +kernel
theorem dX9_copy_308 : decode cX9_copy 308 = .ok (.iload_n 2, 1) := by decide +kernel
theorem dX9_copy_309 : decode cX9_copy 309 = .ok (.invokestatic 146, 3) := by decide +kernel
theorem dX9_copy_312 : decode cX9_copy 312 = .ok (.aload_n 0, 1) := by decide +kernel
theorem dX9_copy_313 : decode cX9_copy 313 = .ok (.getfield 54, 3) := by decide +kernel
theorem dX9_copy_316 : decode cX9_copy 316 = .ok (.bipush 9, 2) := by decide +kernel
theorem dX9_copy_318 : decode cX9_copy 318 = .ok (.iload_n 1, 1) := by decide +kernel
theorem dX9_copy_319 : decode cX9_copy 319 = .ok (.iload_n 2, 1) := by decide +kernel
theorem dX9_copy_320 : decode cX9_copy 320 = .ok (.invokestatic 146, 3) := by decide +kernel
theorem dX9_copy_323 : decode cX9_copy 323 = .ok (.aload_n 0, 1) := by decide +kernel
theorem dX9_copy_324 : decode cX9_copy 324 = .ok (.getfield 57, 3) := by decide +kernel
theorem dX9_copy_327 : decode cX9_copy 327 = .ok (.sipush 360, 3) := by decide +kernel
theorem dX9_copy_330 : decode cX9_copy 330 = .ok (.iload_n 1, 1) := by decide +kernel
theorem dX9_copy_331 : decode cX9_copy 331 = .ok (.iload_n 2, 1) := by decide +kernel
theorem dX9_copy_332 : decode cX9_copy 332 = .ok (.invokestatic 146, 3) := by decide +kernel
theorem dX9_copy_335 : decode cX9_copy 335 = .ok (.aload_n 0, 1) := by decide +kernel
theorem dX9_copy_336 : decode cX9_copy 336 = .ok (.getfield 60, 3) := by decide +kernel
theorem dX9_copy_339 : decode cX9_copy 339 = .ok (.sipush 360, 3) := by decide +kernel
theorem dX9_copy_342 : decode cX9_copy 342 = .ok (.iload_n 1, 1) := by decide +kernel
theorem dX9_copy_343 : decode cX9_copy 343 = .ok (.iload_n 2, 1) := by decide +kernel
theorem dX9_copy_344 : decode cX9_copy 344 = .ok (.invokestatic 146, 3) := by decide +kernel
theorem dX9_copy_347 : decode cX9_copy 347 = .ok (.aload_n 0, 1) := by decide +kernel
theorem dX9_copy_348 : decode cX9_copy 348 = .ok (.getfield 63, 3) := by decide +kernel
theorem dX9_copy_351 : decode cX9_copy 351 = .ok (.sipush 360, 3) := by decide +kernel
theorem dX9_copy_354 : decode cX9_copy 354 = .ok (.iload_n 1, 1) := by decide +kernel
theorem dX9_copy_355 : decode cX9_copy 355 = .ok (.iload_n 2, 1) := by decide +kernel
theorem dX9_copy_356 : decode cX9_copy 356 = .ok (.invokestatic 146, 3) := by decide +kernel
theorem dX9_copy_359 : decode cX9_copy 359 = .ok (.aload_n 0, 1) := by decide +kernel
theorem dX9_copy_360 : decode cX9_copy 360 = .ok (.getfield 66, 3) := by decide +kernel
theorem dX9_copy_363 : decode cX9_copy 363 = .ok (.sipush 360, 3) := by decide +kernel
theorem dX9_copy_366 : decode cX9_copy 366 = .ok (.iload_n 1, 1) := by decide +kernel
theorem dX9_copy_367 : decode cX9_copy 367 = .ok (.iload_n 2, 1) := by decide +kernel
theorem dX9_copy_368 : decode cX9_copy 368 = .ok (.invokestatic 146, 3) := by decide +kernel
theorem dX9_copy_371 : decode cX9_copy 371 = .ok (.return_, 1) := by decide +kernel
theorem dX9_sizeOf_0 : decode cX9_sizeOf 0 = .ok (.iload_n 1, 1) := by decide +kernel
theorem dX9_sizeOf_1 : decode cX9_sizeOf 1 = .ok (.iconst (-1), 1) := by decide +kernel
theorem dX9_sizeOf_2 : decode cX9_sizeOf 2 = .ok (.if_icmp .ne 7, 3) := by decide +kernel
theorem dX9_sizeOf_5 : decode cX9_sizeOf 5 = .ok (.iconst 1, 1) := by decide +kernel
theorem dX9_sizeOf_6 : decode cX9_sizeOf 6 = .ok (.goto 9, 3) := by decide +kernel
theorem dX9_sizeOf_9 : decode cX9_sizeOf 9 = .ok (.aload_n 0, 1) := by decide +kernel
theorem dX9_sizeOf_10 : decode cX9_sizeOf 10 = .ok (.getfield 87, 3) := by decide +kernel
theorem dX9_sizeOf_13 : decode cX9_sizeOf 13 = .ok (.iload_n 1, 1) := by decide +kernel
theorem dX9_sizeOf_14 : decode cX9_sizeOf 14 = .ok (.iaload, 1) := by decide +kernel
theorem dX9_sizeOf_15 : decode cX9_sizeOf 15 = .ok (.ireturn, 1) := by decide +kernel
theorem dX9_findStarts_0 : decode cX9_findStarts 0 = .ok (.aload_n 0, 1) := by decide +kernel
theorem dX9_findStarts_1 : decode cX9_findStarts 1 = .ok (.getfield 90, 3) := by decide +kernel
theorem dX9_findStarts_4 : decode cX9_findStarts 4 = .ok (.iconst 0, 1) := by decide +kernel
theorem dX9_findStarts_5 : decode cX9_findStarts 5 = .ok (.iconst 0, 1) := by decide +kernel
theorem dX9_findStarts_6 : decode cX9_findStarts 6 = .ok (.iastore, 1) := by decide +kernel
theorem dX9_findStarts_7 : decode cX9_findStarts 7 = .ok (.iconst 0, 1) := by decide +kernel
theorem dX9_findStarts_8 : decode cX9_findStarts 8 = .ok (.istore_n 1, 1) := by decide +kernel
theorem dX9_findStarts_9 : decode cX9_findStarts 9 = .ok (.iload_n 1, 1) := by decide +kernel
theorem dX9_findStarts_10 : decode cX9_findStarts 10 = .ok (.aload_n 0, 1) := by decide +kernel
theorem dX9_findStarts_11 : decode cX9_findStarts 11 = .ok (.getfield 32, 3) := by decide +kernel
theorem dX9_findStarts_14 : decode cX9_findStarts 14 = .ok (.iconst 0, 1) := by decide +kernel
theorem dX9_findStarts_15 : decode cX9_findStarts 15 = .ok (.iaload, 1) := by decide +kernel
theorem dX9_findStarts_16 : decode cX9_findStarts 16 = .ok (.if_icmp .ge 45, 3) := by decide +kernel
theorem dX9_findStarts_19 : decode cX9_findStarts 19 = .ok (.aload_n 0, 1) := by decide +kernel
theorem dX9_findStarts_20 : decode cX9_findStarts 20 = .ok (.getfield 90, 3) := by decide +kernel
theorem dX9_findStarts_23 : decode cX9_findStarts 23 = .ok (.iload_n 1, 1) := by decide +kernel
theorem dX9_findStarts_24 : decode cX9_findStarts 24 = .ok (.iconst 1, 1) := by decide +kernel
theorem dX9_findStarts_25 : decode cX9_findStarts 25 = .ok (.iadd, 1) := by decide +kernel
theorem dX9_findStarts_26 : decode cX9_findStarts 26 = .ok (.aload_n 0, 1) := by decide +kernel
theorem dX9_findStarts_27 : decode cX9_findStarts 27 = .ok (.getfield 90, 3) := by decide +kernel
theorem dX9_findStarts_30 : decode cX9_findStarts 30 = .ok (.iload_n 1, 1) := by decide +kernel
theorem dX9_findStarts_31 : decode cX9_findStarts 31 = .ok (.iaload, 1) := by decide +kernel
theorem dX9_findStarts_32 : decode cX9_findStarts 32 = .ok (.aload_n 0, 1) := by decide +kernel
theorem dX9_findStarts_33 : decode cX9_findStarts 33 = .ok (.aload_n 0, 1) := by decide +kernel
theorem dX9_findStarts_34 : decode cX9_findStarts 34 = .ok (.getfield 35, 3) := by decide +kernel
theorem dX9_findStarts_37 : decode cX9_findStarts 37 = .ok (.iload_n 1, 1) := by decide +kernel
theorem dX9_findStarts_38 : decode cX9_findStarts 38 = .ok (.iaload, 1) := by decide +kernel
theorem dX9_findStarts_39 : decode cX9_findStarts 39 = .ok (.invokevirtual 150, 3) := by decide +kernel
theorem dX9_findStarts_42 : decode cX9_findStarts 42 = .ok (.aload_n 0, 1) := by decide +kernel
theorem dX9_findStarts_43 : decode cX9_findStarts 43 = .ok (.aload_n 0, 1) := by decide +kernel
theorem dX9_findStarts_44 : decode cX9_findStarts 44 = .ok (.getfield 38, 3) := by decide +kernel
theorem dX9_findStarts_47 : decode cX9_findStarts 47 = .ok (.iload_n 1, 1) := by decide +kernel
theorem dX9_findStarts_48 : decode cX9_findStarts 48 = .ok (.iaload, 1) := by decide +kernel
theorem dX9_findStarts_49 : decode cX9_findStarts 49 = .ok (.invokevirtual 150, 3) := by decide +kernel
theorem dX9_findStarts_52 : decode cX9_findStarts 52 = .ok (.imul, 1) := by decide +kernel
theorem dX9_findStarts_53 : decode cX9_findStarts 53 = .ok (.iadd, 1) := by decide +kernel
theorem dX9_findStarts_54 : decode cX9_findStarts 54 = .ok (.iastore, 1) := by decide +kernel
theorem dX9_findStarts_55 : decode cX9_findStarts 55 = .ok (.iinc 1 1, 3) := by decide +kernel
theorem dX9_findStarts_58 : decode cX9_findStarts 58 = .ok (.goto (-49), 3) := by decide +kernel
theorem dX9_findStarts_61 : decode cX9_findStarts 61 = .ok (.return_, 1) := by decide +kernel
theorem dX9_bringSizes_0 : decode cX9_bringSizes 0 = .ok (.iconst 0, 1) := by decide +kernel
theorem dX9_bringSizes_1 : decode cX9_bringSizes 1 = .ok (.istore_n 1, 1) := by decide +kernel
theorem dX9_bringSizes_2 : decode cX9_bringSizes 2 = .ok (.iload_n 1, 1) := by decide +kernel
theorem dX9_bringSizes_3 : decode cX9_bringSizes 3 = .ok (.iconst 3, 1) := by decide +kernel
theorem dX9_bringSizes_4 : decode cX9_bringSizes 4 = .ok (.if_icmp .ge 21, 3) := by decide +kernel
theorem dX9_bringSizes_7 : decode cX9_bringSizes 7 = .ok (.aload_n 0, 1) := by decide +kernel
theorem dX9_bringSizes_8 : decode cX9_bringSizes 8 = .ok (.getfield 87, 3) := by decide +kernel
theorem dX9_bringSizes_11 : decode cX9_bringSizes 11 = .ok (.iload_n 1, 1) := by decide +kernel
theorem dX9_bringSizes_12 : decode cX9_bringSizes 12 = .ok (.aload_n 0, 1) := by decide +kernel
theorem dX9_bringSizes_13 : decode cX9_bringSizes 13 = .ok (.getfield 29, 3) := by decide +kernel
theorem dX9_bringSizes_16 : decode cX9_bringSizes 16 = .ok (.iload_n 1, 1) := by decide +kernel
theorem dX9_bringSizes_17 : decode cX9_bringSizes 17 = .ok (.iaload, 1) := by decide +kernel
theorem dX9_bringSizes_18 : decode cX9_bringSizes 18 = .ok (.iastore, 1) := by decide +kernel
theorem dX9_bringSizes_19 : decode cX9_bringSizes 19 = .ok (.iinc 1 1, 3) := by decide +kernel
theorem dX9_bringSizes_22 : decode cX9_bringSizes 22 = .ok (.goto (-20), 3) := by decide +kernel
theorem dX9_bringSizes_25 : decode cX9_bringSizes 25 = .ok (.aload_n 0, 1) := by decide +kernel
theorem dX9_bringSizes_26 : decode cX9_bringSizes 26 = .ok (.invokevirtual 154, 3) := by decide +kernel
theorem dX9_bringSizes_29 : decode cX9_bringSizes 29 = .ok (.return_, 1) := by decide +kernel
theorem dX9_bringWorld_0 : decode cX9_bringWorld 0 = .ok (.aload_n 0, 1) := by decide +kernel
theorem dX9_bringWorld_1 : decode cX9_bringWorld 1 = .ok (.invokevirtual 157, 3) := by decide +kernel
theorem dX9_bringWorld_4 : decode cX9_bringWorld 4 = .ok (.iconst 0, 1) := by decide +kernel
theorem dX9_bringWorld_5 : decode cX9_bringWorld 5 = .ok (.istore_n 1, 1) := by decide +kernel
theorem dX9_bringWorld_6 : decode cX9_bringWorld 6 = .ok (.iload_n 1, 1) := by decide +kernel
theorem dX9_bringWorld_7 : decode cX9_bringWorld 7 = .ok (.bipush 36, 2) := by decide +kernel
theorem dX9_bringWorld_9 : decode cX9_bringWorld 9 = .ok (.if_icmp .ge 21, 3) := by decide +kernel
theorem dX9_bringWorld_12 : decode cX9_bringWorld 12 = .ok (.aload_n 0, 1) := by decide +kernel
theorem dX9_bringWorld_13 : decode cX9_bringWorld 13 = .ok (.getfield 93, 3) := by decide +kernel
theorem dX9_bringWorld_16 : decode cX9_bringWorld 16 = .ok (.iload_n 1, 1) := by decide +kernel
theorem dX9_bringWorld_17 : decode cX9_bringWorld 17 = .ok (.aload_n 0, 1) := by decide +kernel
theorem dX9_bringWorld_18 : decode cX9_bringWorld 18 = .ok (.getfield 41, 3) := by decide +kernel
theorem dX9_bringWorld_21 : decode cX9_bringWorld 21 = .ok (.iload_n 1, 1) := by decide +kernel
theorem dX9_bringWorld_22 : decode cX9_bringWorld 22 = .ok (.baload, 1) := by decide +kernel
theorem dX9_bringWorld_23 : decode cX9_bringWorld 23 = .ok (.bastore, 1) := by decide +kernel
theorem dX9_bringWorld_24 : decode cX9_bringWorld 24 = .ok (.iinc 1 1, 3) := by decide +kernel
theorem dX9_bringWorld_27 : decode cX9_bringWorld 27 = .ok (.goto (-21), 3) := by decide +kernel
theorem dX9_bringWorld_30 : decode cX9_bringWorld 30 = .ok (.return_, 1) := by decide +kernel
theorem dX9_manyFacts_0 : decode cX9_manyFacts 0 = .ok (.aload_n 0, 1) := by decide +kernel
theorem dX9_manyFacts_1 : decode cX9_manyFacts 1 = .ok (.getfield 90, 3) := by decide +kernel
theorem dX9_manyFacts_4 : decode cX9_manyFacts 4 = .ok (.aload_n 0, 1) := by decide +kernel
theorem dX9_manyFacts_5 : decode cX9_manyFacts 5 = .ok (.getfield 32, 3) := by decide +kernel
theorem dX9_manyFacts_8 : decode cX9_manyFacts 8 = .ok (.iconst 0, 1) := by decide +kernel
theorem dX9_manyFacts_9 : decode cX9_manyFacts 9 = .ok (.iaload, 1) := by decide +kernel
theorem dX9_manyFacts_10 : decode cX9_manyFacts 10 = .ok (.iaload, 1) := by decide +kernel
theorem dX9_manyFacts_11 : decode cX9_manyFacts 11 = .ok (.ireturn, 1) := by decide +kernel
theorem dX9_factAt_0 : decode cX9_factAt 0 = .ok (.aload_n 0, 1) := by decide +kernel
theorem dX9_factAt_1 : decode cX9_factAt 1 = .ok (.getfield 38, 3) := by decide +kernel
theorem dX9_factAt_4 : decode cX9_factAt 4 = .ok (.iload_n 1, 1) := by decide +kernel
theorem dX9_factAt_5 : decode cX9_factAt 5 = .ok (.iaload, 1) := by decide +kernel
theorem dX9_factAt_6 : decode cX9_factAt 6 = .ok (.iconst (-1), 1) := by decide +kernel
theorem dX9_factAt_7 : decode cX9_factAt 7 = .ok (.if_icmp .ne 7, 3) := by decide +kernel
theorem dX9_factAt_10 : decode cX9_factAt 10 = .ok (.iconst 0, 1) := by decide +kernel
theorem dX9_factAt_11 : decode cX9_factAt 11 = .ok (.goto 4, 3) := by decide +kernel
theorem dX9_factAt_14 : decode cX9_factAt 14 = .ok (.iload_n 3, 1) := by decide +kernel
theorem dX9_factAt_15 : decode cX9_factAt 15 = .ok (.istore 4, 2) := by decide +kernel
theorem dX9_factAt_17 : decode cX9_factAt 17 = .ok (.iload_n 2, 1) := by decide +kernel
theorem dX9_factAt_18 : decode cX9_factAt 18 = .ok (.iconst 0, 1) := by decide +kernel
theorem dX9_factAt_19 : decode cX9_factAt 19 = .ok (.aload_n 0, 1) := by decide +kernel
theorem dX9_factAt_20 : decode cX9_factAt 20 = .ok (.aload_n 0, 1) := by decide +kernel
theorem dX9_factAt_21 : decode cX9_factAt 21 = .ok (.getfield 35, 3) := by decide +kernel
theorem dX9_factAt_24 : decode cX9_factAt 24 = .ok (.iload_n 1, 1) := by decide +kernel
theorem dX9_factAt_25 : decode cX9_factAt 25 = .ok (.iaload, 1) := by decide +kernel
theorem dX9_factAt_26 : decode cX9_factAt 26 = .ok (.invokevirtual 150, 3) := by decide +kernel
theorem dX9_factAt_29 : decode cX9_factAt 29 = .ok (.iconst 1, 1) := by decide +kernel
theorem dX9_factAt_30 : decode cX9_factAt 30 = .ok (.isub, 1) := by decide +kernel
theorem dX9_factAt_31 : decode cX9_factAt 31 = .ok (.invokestatic 160, 3) := by decide +kernel
theorem dX9_factAt_34 : decode cX9_factAt 34 = .ok (.ifCond .eq 49, 3) := by decide +kernel
theorem dX9_factAt_37 : decode cX9_factAt 37 = .ok (.iload 4, 2) := by decide +kernel
theorem dX9_factAt_39 : decode cX9_factAt 39 = .ok (.iconst 0, 1) := by decide +kernel
theorem dX9_factAt_40 : decode cX9_factAt 40 = .ok (.aload_n 0, 1) := by decide +kernel
theorem dX9_factAt_41 : decode cX9_factAt 41 = .ok (.aload_n 0, 1) := by decide +kernel
theorem dX9_factAt_42 : decode cX9_factAt 42 = .ok (.getfield 38, 3) := by decide +kernel
theorem dX9_factAt_45 : decode cX9_factAt 45 = .ok (.iload_n 1, 1) := by decide +kernel
theorem dX9_factAt_46 : decode cX9_factAt 46 = .ok (.iaload, 1) := by decide +kernel
theorem dX9_factAt_47 : decode cX9_factAt 47 = .ok (.invokevirtual 150, 3) := by decide +kernel
theorem dX9_factAt_50 : decode cX9_factAt 50 = .ok (.iconst 1, 1) := by decide +kernel
theorem dX9_factAt_51 : decode cX9_factAt 51 = .ok (.isub, 1) := by decide +kernel
theorem dX9_factAt_52 : decode cX9_factAt 52 = .ok (.invokestatic 160, 3) := by decide +kernel
theorem dX9_factAt_55 : decode cX9_factAt 55 = .ok (.ifCond .eq 28, 3) := by decide +kernel
theorem dX9_factAt_58 : decode cX9_factAt 58 = .ok (.aload_n 0, 1) := by decide +kernel
theorem dX9_factAt_59 : decode cX9_factAt 59 = .ok (.getfield 90, 3) := by decide +kernel
theorem dX9_factAt_62 : decode cX9_factAt 62 = .ok (.iload_n 1, 1) := by decide +kernel
theorem dX9_factAt_63 : decode cX9_factAt 63 = .ok (.iaload, 1) := by decide +kernel
theorem dX9_factAt_64 : decode cX9_factAt 64 = .ok (.aload_n 0, 1) := by decide +kernel
theorem dX9_factAt_65 : decode cX9_factAt 65 = .ok (.aload_n 0, 1) := by decide +kernel
theorem dX9_factAt_66 : decode cX9_factAt 66 = .ok (.getfield 38, 3) := by decide +kernel
theorem dX9_factAt_69 : decode cX9_factAt 69 = .ok (.iload_n 1, 1) := by decide +kernel
theorem dX9_factAt_70 : decode cX9_factAt 70 = .ok (.iaload, 1) := by decide +kernel
theorem dX9_factAt_71 : decode cX9_factAt 71 = .ok (.invokevirtual 150, 3) := by decide +kernel
theorem dX9_factAt_74 : decode cX9_factAt 74 = .ok (.iload_n 2, 1) := by decide +kernel
theorem dX9_factAt_75 : decode cX9_factAt 75 = .ok (.imul, 1) := by decide +kernel
theorem dX9_factAt_76 : decode cX9_factAt 76 = .ok (.iadd, 1) := by decide +kernel
theorem dX9_factAt_77 : decode cX9_factAt 77 = .ok (.iload 4, 2) := by decide +kernel
theorem dX9_factAt_79 : decode cX9_factAt 79 = .ok (.iadd, 1) := by decide +kernel
theorem dX9_factAt_80 : decode cX9_factAt 80 = .ok (.goto 4, 3) := by decide +kernel
theorem dX9_factAt_83 : decode cX9_factAt 83 = .ok (.iconst (-1), 1) := by decide +kernel
theorem dX9_factAt_84 : decode cX9_factAt 84 = .ok (.ireturn, 1) := by decide +kernel
theorem dX9_isSo_0 : decode cX9_isSo 0 = .ok (.aload_n 0, 1) := by decide +kernel
theorem dX9_isSo_1 : decode cX9_isSo 1 = .ok (.iload_n 1, 1) := by decide +kernel
theorem dX9_isSo_2 : decode cX9_isSo 2 = .ok (.iload_n 2, 1) := by decide +kernel
theorem dX9_isSo_3 : decode cX9_isSo 3 = .ok (.iload_n 3, 1) := by decide +kernel
theorem dX9_isSo_4 : decode cX9_isSo 4 = .ok (.invokevirtual 164, 3) := by decide +kernel
theorem dX9_isSo_7 : decode cX9_isSo 7 = .ok (.istore 4, 2) := by decide +kernel
theorem dX9_isSo_9 : decode cX9_isSo 9 = .ok (.iload 4, 2) := by decide +kernel
theorem dX9_isSo_11 : decode cX9_isSo 11 = .ok (.iconst (-1), 1) := by decide +kernel
theorem dX9_isSo_12 : decode cX9_isSo 12 = .ok (.if_icmp .eq 17, 3) := by decide +kernel
theorem dX9_isSo_15 : decode cX9_isSo 15 = .ok (.aload_n 0, 1) := by decide +kernel
theorem dX9_isSo_16 : decode cX9_isSo 16 = .ok (.getfield 93, 3) := by decide +kernel
theorem dX9_isSo_19 : decode cX9_isSo 19 = .ok (.iload 4, 2) := by decide +kernel
theorem dX9_isSo_21 : decode cX9_isSo 21 = .ok (.baload, 1) := by decide +kernel
theorem dX9_isSo_22 : decode cX9_isSo 22 = .ok (.ifCond .eq 7, 3) := by decide +kernel
theorem dX9_isSo_25 : decode cX9_isSo 25 = .ok (.iconst 1, 1) := by decide +kernel
theorem dX9_isSo_26 : decode cX9_isSo 26 = .ok (.goto 4, 3) := by decide +kernel
theorem dX9_isSo_29 : decode cX9_isSo 29 = .ok (.iconst 0, 1) := by decide +kernel
theorem dX9_isSo_30 : decode cX9_isSo 30 = .ok (.ireturn, 1) := by decide +kernel
theorem dX9_clearWorld_0 : decode cX9_clearWorld 0 = .ok (.iconst 0, 1) := by decide +kernel
theorem dX9_clearWorld_1 : decode cX9_clearWorld 1 = .ok (.istore_n 1, 1) := by decide +kernel
theorem dX9_clearWorld_2 : decode cX9_clearWorld 2 = .ok (.iload_n 1, 1) := by decide +kernel
theorem dX9_clearWorld_3 : decode cX9_clearWorld 3 = .ok (.bipush 36, 2) := by decide +kernel
theorem dX9_clearWorld_5 : decode cX9_clearWorld 5 = .ok (.if_icmp .ge 16, 3) := by decide +kernel
theorem dX9_clearWorld_8 : decode cX9_clearWorld 8 = .ok (.aload_n 0, 1) := by decide +kernel
theorem dX9_clearWorld_9 : decode cX9_clearWorld 9 = .ok (.getfield 41, 3) := by decide +kernel
theorem dX9_clearWorld_12 : decode cX9_clearWorld 12 = .ok (.iload_n 1, 1) := by decide +kernel
theorem dX9_clearWorld_13 : decode cX9_clearWorld 13 = .ok (.iconst 0, 1) := by decide +kernel
theorem dX9_clearWorld_14 : decode cX9_clearWorld 14 = .ok (.bastore, 1) := by decide +kernel
theorem dX9_clearWorld_15 : decode cX9_clearWorld 15 = .ok (.iinc 1 1, 3) := by decide +kernel
theorem dX9_clearWorld_18 : decode cX9_clearWorld 18 = .ok (.goto (-16), 3) := by decide +kernel
theorem dX9_clearWorld_21 : decode cX9_clearWorld 21 = .ok (.iconst 0, 1) := by decide +kernel
theorem dX9_clearWorld_22 : decode cX9_clearWorld 22 = .ok (.istore_n 1, 1) := by decide +kernel
theorem dX9_clearWorld_23 : decode cX9_clearWorld 23 = .ok (.iload_n 1, 1) := by decide +kernel
theorem dX9_clearWorld_24 : decode cX9_clearWorld 24 = .ok (.iconst 4, 1) := by decide +kernel
theorem dX9_clearWorld_25 : decode cX9_clearWorld 25 = .ok (.if_icmp .ge 16, 3) := by decide +kernel
theorem dX9_clearWorld_28 : decode cX9_clearWorld 28 = .ok (.aload_n 0, 1) := by decide +kernel
theorem dX9_clearWorld_29 : decode cX9_clearWorld 29 = .ok (.getfield 84, 3) := by decide +kernel
theorem dX9_clearWorld_32 : decode cX9_clearWorld 32 = .ok (.iload_n 1, 1) := by decide +kernel
theorem dX9_clearWorld_33 : decode cX9_clearWorld 33 = .ok (.iconst 0, 1) := by decide +kernel
theorem dX9_clearWorld_34 : decode cX9_clearWorld 34 = .ok (.bastore, 1) := by decide +kernel
theorem dX9_clearWorld_35 : decode cX9_clearWorld 35 = .ok (.iinc 1 1, 3) := by decide +kernel
theorem dX9_clearWorld_38 : decode cX9_clearWorld 38 = .ok (.goto (-15), 3) := by decide +kernel
theorem dX9_clearWorld_41 : decode cX9_clearWorld 41 = .ok (.return_, 1) := by decide +kernel
theorem dX9_size_0 : decode cX9_size 0 = .ok (.aload_n 0, 1) := by decide +kernel
theorem dX9_size_1 : decode cX9_size 1 = .ok (.iconst 0, 1) := by decide +kernel
theorem dX9_size_2 : decode cX9_size 2 = .ok (.putfield 142, 3) := by decide +kernel
theorem dX9_size_5 : decode cX9_size 5 = .ok (.iload_n 1, 1) := by decide +kernel
theorem dX9_size_6 : decode cX9_size 6 = .ok (.iconst 0, 1) := by decide +kernel
theorem dX9_size_7 : decode cX9_size 7 = .ok (.iconst 2, 1) := by decide +kernel
theorem dX9_size_8 : decode cX9_size 8 = .ok (.invokestatic 160, 3) := by decide +kernel
theorem dX9_size_11 : decode cX9_size 11 = .ok (.ifCond .eq 22, 3) := by decide +kernel
theorem dX9_size_14 : decode cX9_size 14 = .ok (.iload_n 2, 1) := by decide +kernel
theorem dX9_size_15 : decode cX9_size 15 = .ok (.iconst 1, 1) := by decide +kernel
theorem dX9_size_16 : decode cX9_size 16 = .ok (.iconst 3, 1) := by decide +kernel
theorem dX9_size_17 : decode cX9_size 17 = .ok (.invokestatic 160, 3) := by decide +kernel
theorem dX9_size_20 : decode cX9_size 20 = .ok (.ifCond .eq 13, 3) := by decide +kernel
theorem dX9_size_23 : decode cX9_size 23 = .ok (.aload_n 0, 1) := by decide +kernel
theorem dX9_size_24 : decode cX9_size 24 = .ok (.getfield 29, 3) := by decide +kernel
theorem dX9_size_27 : decode cX9_size 27 = .ok (.iload_n 1, 1) := by decide +kernel
theorem dX9_size_28 : decode cX9_size 28 = .ok (.iaload, 1) := by decide +kernel
theorem dX9_size_29 : decode cX9_size 29 = .ok (.iload_n 2, 1) := by decide +kernel
theorem dX9_size_30 : decode cX9_size 30 = .ok (.if_icmp .ne 5, 3) := by decide +kernel
theorem dX9_size_33 : decode cX9_size 33 = .ok (.iconst 0, 1) := by decide +kernel
theorem dX9_size_34 : decode cX9_size 34 = .ok (.ireturn, 1) := by decide +kernel
theorem dX9_size_35 : decode cX9_size 35 = .ok (.aload_n 0, 1) := by decide +kernel
theorem dX9_size_36 : decode cX9_size 36 = .ok (.getfield 29, 3) := by decide +kernel
theorem dX9_size_39 : decode cX9_size 39 = .ok (.iload_n 1, 1) := by decide +kernel
theorem dX9_size_40 : decode cX9_size 40 = .ok (.iload_n 2, 1) := by decide +kernel
theorem dX9_size_41 : decode cX9_size 41 = .ok (.iastore, 1) := by decide +kernel
theorem dX9_size_42 : decode cX9_size 42 = .ok (.aload_n 0, 1) := by decide +kernel
theorem dX9_size_43 : decode cX9_size 43 = .ok (.invokevirtual 168, 3) := by decide +kernel
theorem dX9_size_46 : decode cX9_size 46 = .ok (.iconst 1, 1) := by decide +kernel
theorem dX9_size_47 : decode cX9_size 47 = .ok (.ireturn, 1) := by decide +kernel
theorem dX9_relation_0 : decode cX9_relation 0 = .ok (.aload_n 0, 1) := by decide +kernel
theorem dX9_relation_1 : decode cX9_relation 1 = .ok (.iconst 0, 1) := by decide +kernel
theorem dX9_relation_2 : decode cX9_relation 2 = .ok (.putfield 142, 3) := by decide +kernel
theorem dX9_relation_5 : decode cX9_relation 5 = .ok (.aload_n 0, 1) := by decide +kernel
theorem dX9_relation_6 : decode cX9_relation 6 = .ok (.getfield 32, 3) := by decide +kernel
theorem dX9_relation_9 : decode cX9_relation 9 = .ok (.iconst 0, 1) := by decide +kernel
theorem dX9_relation_10 : decode cX9_relation 10 = .ok (.iaload, 1) := by decide +kernel
theorem dX9_relation_11 : decode cX9_relation 11 = .ok (.iconst 4, 1) := by decide +kernel
theorem dX9_relation_12 : decode cX9_relation 12 = .ok (.if_icmp .eq 21, 3) := by decide +kernel
theorem dX9_relation_15 : decode cX9_relation 15 = .ok (.iload_n 1, 1) := by decide +kernel
theorem dX9_relation_16 : decode cX9_relation 16 = .ok (.iconst 0, 1) := by decide +kernel
theorem dX9_relation_17 : decode cX9_relation 17 = .ok (.iconst 2, 1) := by decide +kernel
theorem dX9_relation_18 : decode cX9_relation 18 = .ok (.invokestatic 160, 3) := by decide +kernel
theorem dX9_relation_21 : decode cX9_relation 21 = .ok (.ifCond .eq 12, 3) := by decide +kernel
theorem dX9_relation_24 : decode cX9_relation 24 = .ok (.iload_n 2, 1) := by decide +kernel
theorem dX9_relation_25 : decode cX9_relation 25 = .ok (.iconst (-1), 1) := by decide +kernel
theorem dX9_relation_26 : decode cX9_relation 26 = .ok (.iconst 2, 1) := by decide +kernel
theorem dX9_relation_27 : decode cX9_relation 27 = .ok (.invokestatic 160, 3) := by decide +kernel
theorem dX9_relation_30 : decode cX9_relation 30 = .ok (.ifCond .ne 5, 3) := by decide +kernel
theorem dX9_relation_33 : decode cX9_relation 33 = .ok (.iconst (-1), 1) := by decide +kernel
theorem dX9_relation_34 : decode cX9_relation 34 = .ok (.ireturn, 1) := by decide +kernel
theorem dX9_relation_35 : decode cX9_relation 35 = .ok (.aload_n 0, 1) := by decide +kernel
theorem dX9_relation_36 : decode cX9_relation 36 = .ok (.getfield 32, 3) := by decide +kernel
theorem dX9_relation_39 : decode cX9_relation 39 = .ok (.iconst 0, 1) := by decide +kernel
theorem dX9_relation_40 : decode cX9_relation 40 = .ok (.iaload, 1) := by decide +kernel
theorem dX9_relation_41 : decode cX9_relation 41 = .ok (.istore_n 3, 1) := by decide +kernel
theorem dX9_relation_42 : decode cX9_relation 42 = .ok (.aload_n 0, 1) := by decide +kernel
theorem dX9_relation_43 : decode cX9_relation 43 = .ok (.getfield 32, 3) := by decide +kernel
theorem dX9_relation_46 : decode cX9_relation 46 = .ok (.iconst 0, 1) := by decide +kernel
theorem dX9_relation_47 : decode cX9_relation 47 = .ok (.dup2, 1) := by decide +kernel
theorem dX9_relation_48 : decode cX9_relation 48 = .ok (.iaload, 1) := by decide +kernel
theorem dX9_relation_49 : decode cX9_relation 49 = .ok (.iconst 1, 1) := by decide +kernel
theorem dX9_relation_50 : decode cX9_relation 50 = .ok (.iadd, 1) := by decide +kernel
theorem dX9_relation_51 : decode cX9_relation 51 = .ok (.iastore, 1) := by decide +kernel
theorem dX9_relation_52 : decode cX9_relation 52 = .ok (.aload_n 0, 1) := by decide +kernel
theorem dX9_relation_53 : decode cX9_relation 53 = .ok (.getfield 35, 3) := by decide +kernel
theorem dX9_relation_56 : decode cX9_relation 56 = .ok (.iload_n 3, 1) := by decide +kernel
theorem dX9_relation_57 : decode cX9_relation 57 = .ok (.iload_n 1, 1) := by decide +kernel
theorem dX9_relation_58 : decode cX9_relation 58 = .ok (.iastore, 1) := by decide +kernel
theorem dX9_relation_59 : decode cX9_relation 59 = .ok (.aload_n 0, 1) := by decide +kernel
theorem dX9_relation_60 : decode cX9_relation 60 = .ok (.getfield 38, 3) := by decide +kernel
theorem dX9_relation_63 : decode cX9_relation 63 = .ok (.iload_n 3, 1) := by decide +kernel
theorem dX9_relation_64 : decode cX9_relation 64 = .ok (.iload_n 2, 1) := by decide +kernel
theorem dX9_relation_65 : decode cX9_relation 65 = .ok (.iastore, 1) := by decide +kernel
theorem dX9_relation_66 : decode cX9_relation 66 = .ok (.aload_n 0, 1) := by decide +kernel
theorem dX9_relation_67 : decode cX9_relation 67 = .ok (.invokevirtual 168, 3) := by decide +kernel
theorem dX9_relation_70 : decode cX9_relation 70 = .ok (.iload_n 3, 1) := by decide +kernel
theorem dX9_relation_71 : decode cX9_relation 71 = .ok (.ireturn, 1) := by decide +kernel
theorem dX9_facts_0 : decode cX9_facts 0 = .ok (.aload_n 0, 1) := by decide +kernel
theorem dX9_facts_1 : decode cX9_facts 1 = .ok (.iconst 0, 1) := by decide +kernel
theorem dX9_facts_2 : decode cX9_facts 2 = .ok (.putfield 142, 3) := by decide +kernel
theorem dX9_facts_5 : decode cX9_facts 5 = .ok (.aload_n 0, 1) := by decide +kernel
theorem dX9_facts_6 : decode cX9_facts 6 = .ok (.invokevirtual 157, 3) := by decide +kernel
theorem dX9_facts_9 : decode cX9_facts 9 = .ok (.aload_n 0, 1) := by decide +kernel
theorem dX9_facts_10 : decode cX9_facts 10 = .ok (.invokevirtual 171, 3) := by decide +kernel
theorem dX9_facts_13 : decode cX9_facts 13 = .ok (.ireturn, 1) := by decide +kernel
theorem dX9_isRelation_0 : decode cX9_isRelation 0 = .ok (.iload_n 1, 1) := by decide +kernel
theorem dX9_isRelation_1 : decode cX9_isRelation 1 = .ok (.iconst 0, 1) := by decide +kernel
theorem dX9_isRelation_2 : decode cX9_isRelation 2 = .ok (.aload_n 0, 1) := by decide +kernel
theorem dX9_isRelation_3 : decode cX9_isRelation 3 = .ok (.getfield 32, 3) := by decide +kernel
theorem dX9_isRelation_6 : decode cX9_isRelation 6 = .ok (.iconst 0, 1) := by decide +kernel
theorem dX9_isRelation_7 : decode cX9_isRelation 7 = .ok (.iaload, 1) := by decide +kernel
theorem dX9_isRelation_8 : decode cX9_isRelation 8 = .ok (.iconst 1, 1) := by decide +kernel
theorem dX9_isRelation_9 : decode cX9_isRelation 9 = .ok (.isub, 1) := by decide +kernel
theorem dX9_isRelation_10 : decode cX9_isRelation 10 = .ok (.invokestatic 160, 3) := by decide +kernel
theorem dX9_isRelation_13 : decode cX9_isRelation 13 = .ok (.ireturn, 1) := by decide +kernel
theorem dX9_toldFact_0 : decode cX9_toldFact 0 = .ok (.aload_n 0, 1) := by decide +kernel
theorem dX9_toldFact_1 : decode cX9_toldFact 1 = .ok (.invokevirtual 157, 3) := by decide +kernel
theorem dX9_toldFact_4 : decode cX9_toldFact 4 = .ok (.aload_n 0, 1) := by decide +kernel
theorem dX9_toldFact_5 : decode cX9_toldFact 5 = .ok (.iload_n 1, 1) := by decide +kernel
theorem dX9_toldFact_6 : decode cX9_toldFact 6 = .ok (.invokevirtual 175, 3) := by decide +kernel
theorem dX9_toldFact_9 : decode cX9_toldFact 9 = .ok (.ifCond .eq 13, 3) := by decide +kernel
theorem dX9_toldFact_12 : decode cX9_toldFact 12 = .ok (.aload_n 0, 1) := by decide +kernel
theorem dX9_toldFact_13 : decode cX9_toldFact 13 = .ok (.iload_n 1, 1) := by decide +kernel
theorem dX9_toldFact_14 : decode cX9_toldFact 14 = .ok (.iload_n 2, 1) := by decide +kernel
theorem dX9_toldFact_15 : decode cX9_toldFact 15 = .ok (.iload_n 3, 1) := by decide +kernel
theorem dX9_toldFact_16 : decode cX9_toldFact 16 = .ok (.invokevirtual 164, 3) := by decide +kernel
theorem dX9_toldFact_19 : decode cX9_toldFact 19 = .ok (.goto 4, 3) := by decide +kernel
theorem dX9_toldFact_22 : decode cX9_toldFact 22 = .ok (.iconst (-1), 1) := by decide +kernel
theorem dX9_toldFact_23 : decode cX9_toldFact 23 = .ok (.ireturn, 1) := by decide +kernel
theorem dX9_tell_0 : decode cX9_tell 0 = .ok (.aload_n 0, 1) := by decide +kernel
theorem dX9_tell_1 : decode cX9_tell 1 = .ok (.iconst 0, 1) := by decide +kernel
theorem dX9_tell_2 : decode cX9_tell 2 = .ok (.putfield 142, 3) := by decide +kernel
theorem dX9_tell_5 : decode cX9_tell 5 = .ok (.aload_n 0, 1) := by decide +kernel
theorem dX9_tell_6 : decode cX9_tell 6 = .ok (.iload_n 1, 1) := by decide +kernel
theorem dX9_tell_7 : decode cX9_tell 7 = .ok (.iload_n 2, 1) := by decide +kernel
theorem dX9_tell_8 : decode cX9_tell 8 = .ok (.iload_n 3, 1) := by decide +kernel
theorem dX9_tell_9 : decode cX9_tell 9 = .ok (.invokevirtual 179, 3) := by decide +kernel
theorem dX9_tell_12 : decode cX9_tell 12 = .ok (.istore 5, 2) := by decide +kernel
theorem dX9_tell_14 : decode cX9_tell 14 = .ok (.iload 5, 2) := by decide +kernel
theorem dX9_tell_16 : decode cX9_tell 16 = .ok (.iconst (-1), 1) := by decide +kernel
theorem dX9_tell_17 : decode cX9_tell 17 = .ok (.if_icmp .eq 15, 3) := by decide +kernel
theorem dX9_tell_20 : decode cX9_tell 20 = .ok (.aload_n 0, 1) := by decide +kernel
theorem dX9_tell_21 : decode cX9_tell 21 = .ok (.getfield 41, 3) := by decide +kernel
theorem dX9_tell_24 : decode cX9_tell 24 = .ok (.iload 5, 2) := by decide +kernel
theorem dX9_tell_26 : decode cX9_tell 26 = .ok (.baload, 1) := by decide +kernel
theorem dX9_tell_27 : decode cX9_tell 27 = .ok (.iload 4, 2) := by decide +kernel
theorem dX9_tell_29 : decode cX9_tell 29 = .ok (.if_icmp .ne 5, 3) := by decide +kernel
theorem dX9_tell_32 : decode cX9_tell 32 = .ok (.iconst 0, 1) := by decide +kernel
theorem dX9_tell_33 : decode cX9_tell 33 = .ok (.ireturn, 1) := by decide +kernel
theorem dX9_tell_34 : decode cX9_tell 34 = .ok (.aload_n 0, 1) := by decide +kernel
theorem dX9_tell_35 : decode cX9_tell 35 = .ok (.getfield 41, 3) := by decide +kernel
theorem dX9_tell_38 : decode cX9_tell 38 = .ok (.iload 5, 2) := by decide +kernel
theorem dX9_tell_40 : decode cX9_tell 40 = .ok (.iload 4, 2) := by decide +kernel
theorem dX9_tell_42 : decode cX9_tell 42 = .ok (.bastore, 1) := by decide +kernel
theorem dX9_tell_43 : decode cX9_tell 43 = .ok (.iconst 1, 1) := by decide +kernel
theorem dX9_tell_44 : decode cX9_tell 44 = .ok (.ireturn, 1) := by decide +kernel
theorem dX9_fact_0 : decode cX9_fact 0 = .ok (.aload_n 0, 1) := by decide +kernel
theorem dX9_fact_1 : decode cX9_fact 1 = .ok (.iconst 0, 1) := by decide +kernel
theorem dX9_fact_2 : decode cX9_fact 2 = .ok (.putfield 142, 3) := by decide +kernel
theorem dX9_fact_5 : decode cX9_fact 5 = .ok (.aload_n 0, 1) := by decide +kernel
theorem dX9_fact_6 : decode cX9_fact 6 = .ok (.iload_n 1, 1) := by decide +kernel
theorem dX9_fact_7 : decode cX9_fact 7 = .ok (.iload_n 2, 1) := by decide +kernel
theorem dX9_fact_8 : decode cX9_fact 8 = .ok (.iload_n 3, 1) := by decide +kernel
theorem dX9_fact_9 : decode cX9_fact 9 = .ok (.invokevirtual 179, 3) := by decide +kernel
theorem dX9_fact_12 : decode cX9_fact 12 = .ok (.istore 4, 2) := by decide +kernel
theorem dX9_fact_14 : decode cX9_fact 14 = .ok (.iload 4, 2) := by decide +kernel
theorem dX9_fact_16 : decode cX9_fact 16 = .ok (.iconst (-1), 1) := by decide +kernel
theorem dX9_fact_17 : decode cX9_fact 17 = .ok (.if_icmp .ne 7, 3) := by decide +kernel
theorem dX9_fact_20 : decode cX9_fact 20 = .ok (.iconst (-1), 1) := by decide +kernel
theorem dX9_fact_21 : decode cX9_fact 21 = .ok (.goto 18, 3) := by decide +kernel
theorem dX9_fact_24 : decode cX9_fact 24 = .ok (.aload_n 0, 1) := by decide +kernel
theorem dX9_fact_25 : decode cX9_fact 25 = .ok (.getfield 41, 3) := by decide +kernel
theorem dX9_fact_28 : decode cX9_fact 28 = .ok (.iload 4, 2) := by decide +kernel
theorem dX9_fact_30 : decode cX9_fact 30 = .ok (.baload, 1) := by decide +kernel
theorem dX9_fact_31 : decode cX9_fact 31 = .ok (.ifCond .eq 7, 3) := by decide +kernel
theorem dX9_fact_34 : decode cX9_fact 34 = .ok (.iconst 1, 1) := by decide +kernel
theorem dX9_fact_35 : decode cX9_fact 35 = .ok (.goto 4, 3) := by decide +kernel
theorem dX9_fact_38 : decode cX9_fact 38 = .ok (.iconst 0, 1) := by decide +kernel
theorem dX9_fact_39 : decode cX9_fact 39 = .ok (.ireturn, 1) := by decide +kernel
theorem dX9_known_0 : decode cX9_known 0 = .ok (.aload_n 0, 1) := by decide +kernel
theorem dX9_known_1 : decode cX9_known 1 = .ok (.iconst 0, 1) := by decide +kernel
theorem dX9_known_2 : decode cX9_known 2 = .ok (.putfield 142, 3) := by decide +kernel
theorem dX9_known_5 : decode cX9_known 5 = .ok (.aload_n 0, 1) := by decide +kernel
theorem dX9_known_6 : decode cX9_known 6 = .ok (.getfield 69, 3) := by decide +kernel
theorem dX9_known_9 : decode cX9_known 9 = .ok (.iconst 0, 1) := by decide +kernel
theorem dX9_known_10 : decode cX9_known 10 = .ok (.iaload, 1) := by decide +kernel
theorem dX9_known_11 : decode cX9_known 11 = .ok (.bipush 40, 2) := by decide +kernel
theorem dX9_known_13 : decode cX9_known 13 = .ok (.if_icmp .eq 39, 3) := by decide +kernel
theorem dX9_known_16 : decode cX9_known 16 = .ok (.aload_n 0, 1) := by decide +kernel
theorem dX9_known_17 : decode cX9_known 17 = .ok (.iload_n 1, 1) := by decide +kernel
theorem dX9_known_18 : decode cX9_known 18 = .ok (.invokevirtual 175, 3) := by decide +kernel
theorem dX9_known_21 : decode cX9_known 21 = .ok (.ifCond .eq 31, 3) := by decide +kernel
theorem dX9_known_24 : decode cX9_known 24 = .ok (.iload_n 2, 1) := by decide +kernel
theorem dX9_known_25 : decode cX9_known 25 = .ok (.iconst 0, 1) := by decide +kernel
theorem dX9_known_26 : decode cX9_known 26 = .ok (.iconst 2, 1) := by decide +kernel
theorem dX9_known_27 : decode cX9_known 27 = .ok (.invokestatic 160, 3) := by decide +kernel
theorem dX9_known_30 : decode cX9_known 30 = .ok (.ifCond .eq 22, 3) := by decide +kernel
theorem dX9_known_33 : decode cX9_known 33 = .ok (.aload_n 0, 1) := by decide +kernel
theorem dX9_known_34 : decode cX9_known 34 = .ok (.getfield 38, 3) := by decide +kernel
theorem dX9_known_37 : decode cX9_known 37 = .ok (.iload_n 1, 1) := by decide +kernel
theorem dX9_known_38 : decode cX9_known 38 = .ok (.iaload, 1) := by decide +kernel
theorem dX9_known_39 : decode cX9_known 39 = .ok (.iconst (-1), 1) := by decide +kernel
theorem dX9_known_40 : decode cX9_known 40 = .ok (.if_icmp .eq 14, 3) := by decide +kernel
theorem dX9_known_43 : decode cX9_known 43 = .ok (.iload_n 3, 1) := by decide +kernel
theorem dX9_known_44 : decode cX9_known 44 = .ok (.iconst 0, 1) := by decide +kernel
theorem dX9_known_45 : decode cX9_known 45 = .ok (.iconst 2, 1) := by decide +kernel
theorem dX9_known_46 : decode cX9_known 46 = .ok (.invokestatic 160, 3) := by decide +kernel
theorem dX9_known_49 : decode cX9_known 49 = .ok (.ifCond .ne 5, 3) := by decide +kernel
theorem dX9_known_52 : decode cX9_known 52 = .ok (.iconst 0, 1) := by decide +kernel
theorem dX9_known_53 : decode cX9_known 53 = .ok (.ireturn, 1) := by decide +kernel
theorem dX9_known_54 : decode cX9_known 54 = .ok (.aload_n 0, 1) := by decide +kernel
theorem dX9_known_55 : decode cX9_known 55 = .ok (.getfield 69, 3) := by decide +kernel
theorem dX9_known_58 : decode cX9_known 58 = .ok (.iconst 0, 1) := by decide +kernel
theorem dX9_known_59 : decode cX9_known 59 = .ok (.iaload, 1) := by decide +kernel
theorem dX9_known_60 : decode cX9_known 60 = .ok (.istore 5, 2) := by decide +kernel
theorem dX9_known_62 : decode cX9_known 62 = .ok (.aload_n 0, 1) := by decide +kernel
theorem dX9_known_63 : decode cX9_known 63 = .ok (.getfield 69, 3) := by decide +kernel
theorem dX9_known_66 : decode cX9_known 66 = .ok (.iconst 0, 1) := by decide +kernel
theorem dX9_known_67 : decode cX9_known 67 = .ok (.dup2, 1) := by decide +kernel
theorem dX9_known_68 : decode cX9_known 68 = .ok (.iaload, 1) := by decide +kernel
theorem dX9_known_69 : decode cX9_known 69 = .ok (.iconst 1, 1) := by decide +kernel
theorem dX9_known_70 : decode cX9_known 70 = .ok (.iadd, 1) := by decide +kernel
theorem dX9_known_71 : decode cX9_known 71 = .ok (.iastore, 1) := by decide +kernel
theorem dX9_known_72 : decode cX9_known 72 = .ok (.aload_n 0, 1) := by decide +kernel
theorem dX9_known_73 : decode cX9_known 73 = .ok (.getfield 72, 3) := by decide +kernel
theorem dX9_known_76 : decode cX9_known 76 = .ok (.iload 5, 2) := by decide +kernel
theorem dX9_known_78 : decode cX9_known 78 = .ok (.bipush 9, 2) := by decide +kernel
theorem dX9_known_80 : decode cX9_known 80 = .ok (.iload_n 1, 1) := by decide +kernel
theorem dX9_known_81 : decode cX9_known 81 = .ok (.imul, 1) := by decide +kernel
theorem dX9_known_82 : decode cX9_known 82 = .ok (.iconst 3, 1) := by decide +kernel
theorem dX9_known_83 : decode cX9_known 83 = .ok (.iload_n 2, 1) := by decide +kernel
theorem dX9_known_84 : decode cX9_known 84 = .ok (.imul, 1) := by decide +kernel
theorem dX9_known_85 : decode cX9_known 85 = .ok (.iadd, 1) := by decide +kernel
theorem dX9_known_86 : decode cX9_known 86 = .ok (.aload_n 0, 1) := by decide +kernel
theorem dX9_known_87 : decode cX9_known 87 = .ok (.getfield 38, 3) := by decide +kernel
theorem dX9_known_90 : decode cX9_known 90 = .ok (.iload_n 1, 1) := by decide +kernel
theorem dX9_known_91 : decode cX9_known 91 = .ok (.iaload, 1) := by decide +kernel
theorem dX9_known_92 : decode cX9_known 92 = .ok (.iconst (-1), 1) := by decide +kernel
theorem dX9_known_93 : decode cX9_known 93 = .ok (.if_icmp .ne 7, 3) := by decide +kernel
theorem dX9_known_96 : decode cX9_known 96 = .ok (.iconst 0, 1) := by decide +kernel
theorem dX9_known_97 : decode cX9_known 97 = .ok (.goto 4, 3) := by decide +kernel
theorem dX9_known_100 : decode cX9_known 100 = .ok (.iload_n 3, 1) := by decide +kernel
theorem dX9_known_101 : decode cX9_known 101 = .ok (.iadd, 1) := by decide +kernel
theorem dX9_known_102 : decode cX9_known 102 = .ok (.iastore, 1) := by decide +kernel
theorem dX9_known_103 : decode cX9_known 103 = .ok (.aload_n 0, 1) := by decide +kernel
theorem dX9_known_104 : decode cX9_known 104 = .ok (.getfield 75, 3) := by decide +kernel
theorem dX9_known_107 : decode cX9_known 107 = .ok (.iload 5, 2) := by decide +kernel
theorem dX9_known_109 : decode cX9_known 109 = .ok (.iload 4, 2) := by decide +kernel
theorem dX9_known_111 : decode cX9_known 111 = .ok (.ifCond .eq 7, 3) := by decide +kernel
theorem dX9_known_114 : decode cX9_known 114 = .ok (.iconst 1, 1) := by decide +kernel
theorem dX9_known_115 : decode cX9_known 115 = .ok (.goto 4, 3) := by decide +kernel
theorem dX9_known_118 : decode cX9_known 118 = .ok (.iconst 0, 1) := by decide +kernel
theorem dX9_known_119 : decode cX9_known 119 = .ok (.iastore, 1) := by decide +kernel
theorem dX9_known_120 : decode cX9_known 120 = .ok (.aload_n 0, 1) := by decide +kernel
theorem dX9_known_121 : decode cX9_known 121 = .ok (.getfield 78, 3) := by decide +kernel
theorem dX9_known_124 : decode cX9_known 124 = .ok (.iload 5, 2) := by decide +kernel
theorem dX9_known_126 : decode cX9_known 126 = .ok (.aload_n 0, 1) := by decide +kernel
theorem dX9_known_127 : decode cX9_known 127 = .ok (.getfield 23, 3) := by decide +kernel
theorem dX9_known_130 : decode cX9_known 130 = .ok (.iconst 0, 1) := by decide +kernel
theorem dX9_known_131 : decode cX9_known 131 = .ok (.iaload, 1) := by decide +kernel
theorem dX9_known_132 : decode cX9_known 132 = .ok (.iastore, 1) := by decide +kernel
theorem dX9_known_133 : decode cX9_known 133 = .ok (.iconst 1, 1) := by decide +kernel
theorem dX9_known_134 : decode cX9_known 134 = .ok (.ireturn, 1) := by decide +kernel
theorem dX9_keep_0 : decode cX9_keep 0 = .ok (.aload_n 0, 1) := by decide +kernel
theorem dX9_keep_1 : decode cX9_keep 1 = .ok (.iconst 0, 1) := by decide +kernel
theorem dX9_keep_2 : decode cX9_keep 2 = .ok (.putfield 142, 3) := by decide +kernel
theorem dX9_keep_5 : decode cX9_keep 5 = .ok (.iload_n 1, 1) := by decide +kernel
theorem dX9_keep_6 : decode cX9_keep 6 = .ok (.iconst 0, 1) := by decide +kernel
theorem dX9_keep_7 : decode cX9_keep 7 = .ok (.iconst 3, 1) := by decide +kernel
theorem dX9_keep_8 : decode cX9_keep 8 = .ok (.invokestatic 160, 3) := by decide +kernel
theorem dX9_keep_11 : decode cX9_keep 11 = .ok (.ifCond .ne 5, 3) := by decide +kernel
theorem dX9_keep_14 : decode cX9_keep 14 = .ok (.iconst 0, 1) := by decide +kernel
theorem dX9_keep_15 : decode cX9_keep 15 = .ok (.ireturn, 1) := by decide +kernel
theorem dX9_keep_16 : decode cX9_keep 16 = .ok (.aload_n 0, 1) := by decide +kernel
theorem dX9_keep_17 : decode cX9_keep 17 = .ok (.getfield 84, 3) := by decide +kernel
theorem dX9_keep_20 : decode cX9_keep 20 = .ok (.iload_n 1, 1) := by decide +kernel
theorem dX9_keep_21 : decode cX9_keep 21 = .ok (.iconst 1, 1) := by decide +kernel
theorem dX9_keep_22 : decode cX9_keep 22 = .ok (.bastore, 1) := by decide +kernel
theorem dX9_keep_23 : decode cX9_keep 23 = .ok (.iconst 0, 1) := by decide +kernel
theorem dX9_keep_24 : decode cX9_keep 24 = .ok (.istore_n 2, 1) := by decide +kernel
theorem dX9_keep_25 : decode cX9_keep 25 = .ok (.iload_n 2, 1) := by decide +kernel
theorem dX9_keep_26 : decode cX9_keep 26 = .ok (.bipush 36, 2) := by decide +kernel
theorem dX9_keep_28 : decode cX9_keep 28 = .ok (.if_icmp .ge 26, 3) := by decide +kernel
theorem dX9_keep_31 : decode cX9_keep 31 = .ok (.aload_n 0, 1) := by decide +kernel
theorem dX9_keep_32 : decode cX9_keep 32 = .ok (.getfield 81, 3) := by decide +kernel
theorem dX9_keep_35 : decode cX9_keep 35 = .ok (.bipush 36, 2) := by decide +kernel
theorem dX9_keep_37 : decode cX9_keep 37 = .ok (.iload_n 1, 1) := by decide +kernel
theorem dX9_keep_38 : decode cX9_keep 38 = .ok (.imul, 1) := by decide +kernel
theorem dX9_keep_39 : decode cX9_keep 39 = .ok (.iload_n 2, 1) := by decide +kernel
theorem dX9_keep_40 : decode cX9_keep 40 = .ok (.iadd, 1) := by decide +kernel
theorem dX9_keep_41 : decode cX9_keep 41 = .ok (.aload_n 0, 1) := by decide +kernel
theorem dX9_keep_42 : decode cX9_keep 42 = .ok (.getfield 41, 3) := by decide +kernel
theorem dX9_keep_45 : decode cX9_keep 45 = .ok (.iload_n 2, 1) := by decide +kernel
theorem dX9_keep_46 : decode cX9_keep 46 = .ok (.baload, 1) := by decide +kernel
theorem dX9_keep_47 : decode cX9_keep 47 = .ok (.bastore, 1) := by decide +kernel
theorem dX9_keep_48 : decode cX9_keep 48 = .ok (.iinc 2 1, 3) := by decide +kernel
theorem dX9_keep_51 : decode cX9_keep 51 = .ok (.goto (-26), 3) := by decide +kernel
theorem dX9_keep_54 : decode cX9_keep 54 = .ok (.iconst 1, 1) := by decide +kernel
theorem dX9_keep_55 : decode cX9_keep 55 = .ok (.ireturn, 1) := by decide +kernel
theorem dX9_apart_0 : decode cX9_apart 0 = .ok (.aload_n 0, 1) := by decide +kernel
theorem dX9_apart_1 : decode cX9_apart 1 = .ok (.iconst 0, 1) := by decide +kernel
theorem dX9_apart_2 : decode cX9_apart 2 = .ok (.putfield 142, 3) := by decide +kernel
theorem dX9_apart_5 : decode cX9_apart 5 = .ok (.iload_n 1, 1) := by decide +kernel
theorem dX9_apart_6 : decode cX9_apart 6 = .ok (.iconst 0, 1) := by decide +kernel
theorem dX9_apart_7 : decode cX9_apart 7 = .ok (.iconst 3, 1) := by decide +kernel
theorem dX9_apart_8 : decode cX9_apart 8 = .ok (.invokestatic 160, 3) := by decide +kernel
theorem dX9_apart_11 : decode cX9_apart 11 = .ok (.ifCond .eq 19, 3) := by decide +kernel
theorem dX9_apart_14 : decode cX9_apart 14 = .ok (.aload_n 0, 1) := by decide +kernel
theorem dX9_apart_15 : decode cX9_apart 15 = .ok (.getfield 84, 3) := by decide +kernel
theorem dX9_apart_18 : decode cX9_apart 18 = .ok (.iload_n 1, 1) := by decide +kernel
theorem dX9_apart_19 : decode cX9_apart 19 = .ok (.baload, 1) := by decide +kernel
theorem dX9_apart_20 : decode cX9_apart 20 = .ok (.ifCond .eq 10, 3) := by decide +kernel
theorem dX9_apart_23 : decode cX9_apart 23 = .ok (.aload_n 0, 1) := by decide +kernel
theorem dX9_apart_24 : decode cX9_apart 24 = .ok (.invokevirtual 182, 3) := by decide +kernel
theorem dX9_apart_27 : decode cX9_apart 27 = .ok (.ifCond .ne 5, 3) := by decide +kernel
theorem dX9_apart_30 : decode cX9_apart 30 = .ok (.iconst (-1), 1) := by decide +kernel
theorem dX9_apart_31 : decode cX9_apart 31 = .ok (.ireturn, 1) := by decide +kernel
theorem dX9_apart_32 : decode cX9_apart 32 = .ok (.aload_n 0, 1) := by decide +kernel
theorem dX9_apart_33 : decode cX9_apart 33 = .ok (.invokevirtual 171, 3) := by decide +kernel
theorem dX9_apart_36 : decode cX9_apart 36 = .ok (.istore_n 2, 1) := by decide +kernel
theorem dX9_apart_37 : decode cX9_apart 37 = .ok (.iconst 0, 1) := by decide +kernel
theorem dX9_apart_38 : decode cX9_apart 38 = .ok (.istore_n 3, 1) := by decide +kernel
theorem dX9_apart_39 : decode cX9_apart 39 = .ok (.iload_n 3, 1) := by decide +kernel
theorem dX9_apart_40 : decode cX9_apart 40 = .ok (.iload_n 2, 1) := by decide +kernel
theorem dX9_apart_41 : decode cX9_apart 41 = .ok (.if_icmp .ge 26, 3) := by decide +kernel
theorem dX9_apart_44 : decode cX9_apart 44 = .ok (.aload_n 0, 1) := by decide +kernel
theorem dX9_apart_45 : decode cX9_apart 45 = .ok (.getfield 93, 3) := by decide +kernel
theorem dX9_apart_48 : decode cX9_apart 48 = .ok (.iload_n 3, 1) := by decide +kernel
theorem dX9_apart_49 : decode cX9_apart 49 = .ok (.aload_n 0, 1) := by decide +kernel
theorem dX9_apart_50 : decode cX9_apart 50 = .ok (.getfield 81, 3) := by decide +kernel
theorem dX9_apart_53 : decode cX9_apart 53 = .ok (.bipush 36, 2) := by decide +kernel
theorem dX9_apart_55 : decode cX9_apart 55 = .ok (.iload_n 1, 1) := by decide +kernel
theorem dX9_apart_56 : decode cX9_apart 56 = .ok (.imul, 1) := by decide +kernel
theorem dX9_apart_57 : decode cX9_apart 57 = .ok (.iload_n 3, 1) := by decide +kernel
theorem dX9_apart_58 : decode cX9_apart 58 = .ok (.iadd, 1) := by decide +kernel
theorem dX9_apart_59 : decode cX9_apart 59 = .ok (.baload, 1) := by decide +kernel
theorem dX9_apart_60 : decode cX9_apart 60 = .ok (.bastore, 1) := by decide +kernel
theorem dX9_apart_61 : decode cX9_apart 61 = .ok (.iinc 3 1, 3) := by decide +kernel
theorem dX9_apart_64 : decode cX9_apart 64 = .ok (.goto (-25), 3) := by decide +kernel
theorem dX9_apart_67 : decode cX9_apart 67 = .ok (.aload_n 0, 1) := by decide +kernel
theorem dX9_apart_68 : decode cX9_apart 68 = .ok (.invokevirtual 186, 3) := by decide +kernel
theorem dX9_apart_71 : decode cX9_apart 71 = .ok (.istore_n 3, 1) := by decide +kernel
theorem dX9_apart_72 : decode cX9_apart 72 = .ok (.bipush 36, 2) := by decide +kernel
theorem dX9_apart_74 : decode cX9_apart 74 = .ok (.istore 4, 2) := by decide +kernel
theorem dX9_apart_76 : decode cX9_apart 76 = .ok (.iconst 0, 1) := by decide +kernel
theorem dX9_apart_77 : decode cX9_apart 77 = .ok (.istore 5, 2) := by decide +kernel
theorem dX9_apart_79 : decode cX9_apart 79 = .ok (.iload 5, 2) := by decide +kernel
theorem dX9_apart_81 : decode cX9_apart 81 = .ok (.sipush 216, 3) := by decide +kernel
theorem dX9_apart_84 : decode cX9_apart 84 = .ok (.if_icmp .ge 45, 3) := by decide +kernel
theorem dX9_apart_87 : decode cX9_apart 87 = .ok (.aload_n 0, 1) := by decide +kernel
theorem dX9_apart_88 : decode cX9_apart 88 = .ok (.iload 5, 2) := by decide +kernel
theorem dX9_apart_90 : decode cX9_apart 90 = .ok (.invokevirtual 189, 3) := by decide +kernel
theorem dX9_apart_93 : decode cX9_apart 93 = .ok (.ifCond .eq 30, 3) := by decide +kernel
theorem dX9_apart_96 : decode cX9_apart 96 = .ok (.aload_n 0, 1) := by decide +kernel
theorem dX9_apart_97 : decode cX9_apart 97 = .ok (.invokevirtual 192, 3) := by decide +kernel
theorem dX9_apart_100 : decode cX9_apart 100 = .ok (.iload_n 3, 1) := by decide +kernel
theorem dX9_apart_101 : decode cX9_apart 101 = .ok (.ixor, 1) := by decide +kernel
theorem dX9_apart_102 : decode cX9_apart 102 = .ok (.invokestatic 195, 3) := by decide +kernel
theorem dX9_apart_105 : decode cX9_apart 105 = .ok (.istore 6, 2) := by decide +kernel
theorem dX9_apart_107 : decode cX9_apart 107 = .ok (.iload 6, 2) := by decide +kernel
theorem dX9_apart_109 : decode cX9_apart 109 = .ok (.iload 4, 2) := by decide +kernel
theorem dX9_apart_111 : decode cX9_apart 111 = .ok (.if_icmp .ge 8, 3) := by decide +kernel
theorem dX9_apart_114 : decode cX9_apart 114 = .ok (.iload 6, 2) := by decide +kernel
theorem dX9_apart_116 : decode cX9_apart 116 = .ok (.goto 5, 3) := by decide +kernel
theorem dX9_apart_119 : decode cX9_apart 119 = .ok (.iload 4, 2) := by decide +kernel
theorem dX9_apart_121 : decode cX9_apart 121 = .ok (.istore 4, 2) := by decide +kernel
theorem dX9_apart_123 : decode cX9_apart 123 = .ok (.iinc 5 1, 3) := by decide +kernel
theorem dX9_apart_126 : decode cX9_apart 126 = .ok (.goto (-47), 3) := by decide +kernel
theorem dX9_apart_129 : decode cX9_apart 129 = .ok (.iload 4, 2) := by decide +kernel
theorem dX9_apart_131 : decode cX9_apart 131 = .ok (.ireturn, 1) := by decide +kernel
theorem dX9_ones_0 : decode cX9_ones 0 = .ok (.iconst 0, 1) := by decide +kernel
theorem dX9_ones_1 : decode cX9_ones 1 = .ok (.istore_n 1, 1) := by decide +kernel
theorem dX9_ones_2 : decode cX9_ones 2 = .ok (.iconst 0, 1) := by decide +kernel
theorem dX9_ones_3 : decode cX9_ones 3 = .ok (.istore_n 2, 1) := by decide +kernel
theorem dX9_ones_4 : decode cX9_ones 4 = .ok (.iload_n 2, 1) := by decide +kernel
theorem dX9_ones_5 : decode cX9_ones 5 = .ok (.bipush 16, 2) := by decide +kernel
theorem dX9_ones_7 : decode cX9_ones 7 = .ok (.if_icmp .ge 17, 3) := by decide +kernel
theorem dX9_ones_10 : decode cX9_ones 10 = .ok (.iload_n 1, 1) := by decide +kernel
theorem dX9_ones_11 : decode cX9_ones 11 = .ok (.iload_n 0, 1) := by decide +kernel
theorem dX9_ones_12 : decode cX9_ones 12 = .ok (.iload_n 2, 1) := by decide +kernel
theorem dX9_ones_13 : decode cX9_ones 13 = .ok (.ishr, 1) := by decide +kernel
theorem dX9_ones_14 : decode cX9_ones 14 = .ok (.iconst 1, 1) := by decide +kernel
theorem dX9_ones_15 : decode cX9_ones 15 = .ok (.iand, 1) := by decide +kernel
theorem dX9_ones_16 : decode cX9_ones 16 = .ok (.iadd, 1) := by decide +kernel
theorem dX9_ones_17 : decode cX9_ones 17 = .ok (.istore_n 1, 1) := by decide +kernel
theorem dX9_ones_18 : decode cX9_ones 18 = .ok (.iinc 2 1, 3) := by decide +kernel
theorem dX9_ones_21 : decode cX9_ones 21 = .ok (.goto (-17), 3) := by decide +kernel
theorem dX9_ones_24 : decode cX9_ones 24 = .ok (.iload_n 1, 1) := by decide +kernel
theorem dX9_ones_25 : decode cX9_ones 25 = .ok (.ireturn, 1) := by decide +kernel
theorem dX9_feed_0 : decode cX9_feed 0 = .ok (.aload_n 0, 1) := by decide +kernel
theorem dX9_feed_1 : decode cX9_feed 1 = .ok (.iconst 0, 1) := by decide +kernel
theorem dX9_feed_2 : decode cX9_feed 2 = .ok (.putfield 142, 3) := by decide +kernel
theorem dX9_feed_5 : decode cX9_feed 5 = .ok (.aload_n 0, 1) := by decide +kernel
theorem dX9_feed_6 : decode cX9_feed 6 = .ok (.getfield 13, 3) := by decide +kernel
theorem dX9_feed_9 : decode cX9_feed 9 = .ok (.iconst 0, 1) := by decide +kernel
theorem dX9_feed_10 : decode cX9_feed 10 = .ok (.iaload, 1) := by decide +kernel
theorem dX9_feed_11 : decode cX9_feed 11 = .ok (.bipush 20, 2) := by decide +kernel
theorem dX9_feed_13 : decode cX9_feed 13 = .ok (.iadd, 1) := by decide +kernel
theorem dX9_feed_14 : decode cX9_feed 14 = .ok (.sipush 400, 3) := by decide +kernel
theorem dX9_feed_17 : decode cX9_feed 17 = .ok (.if_icmp .le 5, 3) := by decide +kernel
theorem dX9_feed_20 : decode cX9_feed 20 = .ok (.iconst (-1), 1) := by decide +kernel
theorem dX9_feed_21 : decode cX9_feed 21 = .ok (.ireturn, 1) := by decide +kernel
theorem dX9_feed_22 : decode cX9_feed 22 = .ok (.aload_n 0, 1) := by decide +kernel
theorem dX9_feed_23 : decode cX9_feed 23 = .ok (.iload_n 1, 1) := by decide +kernel
theorem dX9_feed_24 : decode cX9_feed 24 = .ok (.invokevirtual 198, 3) := by decide +kernel
theorem dX9_feed_27 : decode cX9_feed 27 = .ok (.aload_n 0, 1) := by decide +kernel
theorem dX9_feed_28 : decode cX9_feed 28 = .ok (.iload_n 2, 1) := by decide +kernel
theorem dX9_feed_29 : decode cX9_feed 29 = .ok (.invokevirtual 198, 3) := by decide +kernel
theorem dX9_feed_32 : decode cX9_feed 32 = .ok (.aload_n 0, 1) := by decide +kernel
theorem dX9_feed_33 : decode cX9_feed 33 = .ok (.iload_n 3, 1) := by decide +kernel
theorem dX9_feed_34 : decode cX9_feed 34 = .ok (.invokevirtual 198, 3) := by decide +kernel
theorem dX9_feed_37 : decode cX9_feed 37 = .ok (.aload_n 0, 1) := by decide +kernel
theorem dX9_feed_38 : decode cX9_feed 38 = .ok (.iload 4, 2) := by decide +kernel
theorem dX9_feed_40 : decode cX9_feed 40 = .ok (.invokevirtual 198, 3) := by decide +kernel
theorem dX9_feed_43 : decode cX9_feed 43 = .ok (.aload_n 0, 1) := by decide +kernel
theorem dX9_feed_44 : decode cX9_feed 44 = .ok (.iload 5, 2) := by decide +kernel
theorem dX9_feed_46 : decode cX9_feed 46 = .ok (.invokevirtual 198, 3) := by decide +kernel
theorem dX9_feed_49 : decode cX9_feed 49 = .ok (.aload_n 0, 1) := by decide +kernel
theorem dX9_feed_50 : decode cX9_feed 50 = .ok (.getfield 13, 3) := by decide +kernel
theorem dX9_feed_53 : decode cX9_feed 53 = .ok (.iconst 0, 1) := by decide +kernel
theorem dX9_feed_54 : decode cX9_feed 54 = .ok (.iaload, 1) := by decide +kernel
theorem dX9_feed_55 : decode cX9_feed 55 = .ok (.ireturn, 1) := by decide +kernel
theorem dX9_four_0 : decode cX9_four 0 = .ok (.bipush 24, 2) := by decide +kernel
theorem dX9_four_2 : decode cX9_four 2 = .ok (.istore_n 2, 1) := by decide +kernel
theorem dX9_four_3 : decode cX9_four 3 = .ok (.iload_n 2, 1) := by decide +kernel
theorem dX9_four_4 : decode cX9_four 4 = .ok (.ifCond .lt 34, 3) := by decide +kernel
theorem dX9_four_7 : decode cX9_four 7 = .ok (.aload_n 0, 1) := by decide +kernel
theorem dX9_four_8 : decode cX9_four 8 = .ok (.getfield 7, 3) := by decide +kernel
theorem dX9_four_11 : decode cX9_four 11 = .ok (.aload_n 0, 1) := by decide +kernel
theorem dX9_four_12 : decode cX9_four 12 = .ok (.getfield 13, 3) := by decide +kernel
theorem dX9_four_15 : decode cX9_four 15 = .ok (.iconst 0, 1) := by decide +kernel
theorem dX9_four_16 : decode cX9_four 16 = .ok (.iaload, 1) := by decide +kernel
theorem dX9_four_17 : decode cX9_four 17 = .ok (.iload_n 1, 1) := by decide +kernel
theorem dX9_four_18 : decode cX9_four 18 = .ok (.iload_n 2, 1) := by decide +kernel
theorem dX9_four_19 : decode cX9_four 19 = .ok (.ishr, 1) := by decide +kernel
theorem dX9_four_20 : decode cX9_four 20 = .ok (.i2b, 1) := by decide +kernel
theorem dX9_four_21 : decode cX9_four 21 = .ok (.bastore, 1) := by decide +kernel
theorem dX9_four_22 : decode cX9_four 22 = .ok (.aload_n 0, 1) := by decide +kernel
theorem dX9_four_23 : decode cX9_four 23 = .ok (.getfield 13, 3) := by decide +kernel
theorem dX9_four_26 : decode cX9_four 26 = .ok (.iconst 0, 1) := by decide +kernel
theorem dX9_four_27 : decode cX9_four 27 = .ok (.dup2, 1) := by decide +kernel
theorem dX9_four_28 : decode cX9_four 28 = .ok (.iaload, 1) := by decide +kernel
theorem dX9_four_29 : decode cX9_four 29 = .ok (.iconst 1, 1) := by decide +kernel
theorem dX9_four_30 : decode cX9_four 30 = .ok (.iadd, 1) := by decide +kernel
theorem dX9_four_31 : decode cX9_four 31 = .ok (.iastore, 1) := by decide +kernel
theorem dX9_four_32 : decode cX9_four 32 = .ok (.iinc 2 (-8), 3) := by decide +kernel
theorem dX9_four_35 : decode cX9_four 35 = .ok (.goto (-32), 3) := by decide +kernel
theorem dX9_four_38 : decode cX9_four 38 = .ok (.return_, 1) := by decide +kernel
theorem dX9_end_0 : decode cX9_end 0 = .ok (.aload_n 0, 1) := by decide +kernel
theorem dX9_end_1 : decode cX9_end 1 = .ok (.iconst 0, 1) := by decide +kernel
theorem dX9_end_2 : decode cX9_end 2 = .ok (.putfield 142, 3) := by decide +kernel
theorem dX9_end_5 : decode cX9_end 5 = .ok (.iload_n 1, 1) := by decide +kernel
theorem dX9_end_6 : decode cX9_end 6 = .ok (.iconst 0, 1) := by decide +kernel
theorem dX9_end_7 : decode cX9_end 7 = .ok (.aload_n 0, 1) := by decide +kernel
theorem dX9_end_8 : decode cX9_end 8 = .ok (.getfield 13, 3) := by decide +kernel
theorem dX9_end_11 : decode cX9_end 11 = .ok (.iconst 0, 1) := by decide +kernel
theorem dX9_end_12 : decode cX9_end 12 = .ok (.iaload, 1) := by decide +kernel
theorem dX9_end_13 : decode cX9_end 13 = .ok (.invokestatic 160, 3) := by decide +kernel
theorem dX9_end_16 : decode cX9_end 16 = .ok (.ifCond .ne 5, 3) := by decide +kernel
theorem dX9_end_19 : decode cX9_end 19 = .ok (.iconst (-1), 1) := by decide +kernel
theorem dX9_end_20 : decode cX9_end 20 = .ok (.ireturn, 1) := by decide +kernel
theorem dX9_end_21 : decode cX9_end 21 = .ok (.aload_n 0, 1) := by decide +kernel
theorem dX9_end_22 : decode cX9_end 22 = .ok (.getfield 13, 3) := by decide +kernel
theorem dX9_end_25 : decode cX9_end 25 = .ok (.iconst 0, 1) := by decide +kernel
theorem dX9_end_26 : decode cX9_end 26 = .ok (.iload_n 1, 1) := by decide +kernel
theorem dX9_end_27 : decode cX9_end 27 = .ok (.iastore, 1) := by decide +kernel
theorem dX9_end_28 : decode cX9_end 28 = .ok (.iload_n 1, 1) := by decide +kernel
theorem dX9_end_29 : decode cX9_end 29 = .ok (.ireturn, 1) := by decide +kernel
theorem dX9_see_0 : decode cX9_see 0 = .ok (.aload_n 0, 1) := by decide +kernel
theorem dX9_see_1 : decode cX9_see 1 = .ok (.getfield 202, 3) := by decide +kernel
theorem dX9_see_4 : decode cX9_see 4 = .ok (.aload_n 0, 1) := by decide +kernel
theorem dX9_see_5 : decode cX9_see 5 = .ok (.getfield 205, 3) := by decide +kernel
theorem dX9_see_8 : decode cX9_see 8 = .ok (.if_icmp .ge 19, 3) := by decide +kernel
theorem dX9_see_11 : decode cX9_see 11 = .ok (.aload_n 0, 1) := by decide +kernel
theorem dX9_see_12 : decode cX9_see 12 = .ok (.getfield 7, 3) := by decide +kernel
theorem dX9_see_15 : decode cX9_see 15 = .ok (.aload_n 0, 1) := by decide +kernel
theorem dX9_see_16 : decode cX9_see 16 = .ok (.getfield 202, 3) := by decide +kernel
theorem dX9_see_19 : decode cX9_see 19 = .ok (.baload, 1) := by decide +kernel
theorem dX9_see_20 : decode cX9_see 20 = .ok (.sipush 255, 3) := by decide +kernel
theorem dX9_see_23 : decode cX9_see 23 = .ok (.iand, 1) := by decide +kernel
theorem dX9_see_24 : decode cX9_see 24 = .ok (.goto 4, 3) := by decide +kernel
theorem dX9_see_27 : decode cX9_see 27 = .ok (.iconst (-1), 1) := by decide +kernel
theorem dX9_see_28 : decode cX9_see 28 = .ok (.ireturn, 1) := by decide +kernel
theorem dX9_token_0 : decode cX9_token 0 = .ok (.aload_n 0, 1) := by decide +kernel
theorem dX9_token_1 : decode cX9_token 1 = .ok (.invokevirtual 208, 3) := by decide +kernel
theorem dX9_token_4 : decode cX9_token 4 = .ok (.bipush 10, 2) := by decide +kernel
theorem dX9_token_6 : decode cX9_token 6 = .ok (.if_icmp .eq 12, 3) := by decide +kernel
theorem dX9_token_9 : decode cX9_token 9 = .ok (.aload_n 0, 1) := by decide +kernel
theorem dX9_token_10 : decode cX9_token 10 = .ok (.invokevirtual 208, 3) := by decide +kernel
theorem dX9_token_13 : decode cX9_token 13 = .ok (.bipush 32, 2) := by decide +kernel
theorem dX9_token_15 : decode cX9_token 15 = .ok (.if_icmp .ne 16, 3) := by decide +kernel
theorem dX9_token_18 : decode cX9_token 18 = .ok (.aload_n 0, 1) := by decide +kernel
theorem dX9_token_19 : decode cX9_token 19 = .ok (.dup, 1) := by decide +kernel
theorem dX9_token_20 : decode cX9_token 20 = .ok (.getfield 202, 3) := by decide +kernel
theorem dX9_token_23 : decode cX9_token 23 = .ok (.iconst 1, 1) := by decide +kernel
theorem dX9_token_24 : decode cX9_token 24 = .ok (.iadd, 1) := by decide +kernel
theorem dX9_token_25 : decode cX9_token 25 = .ok (.putfield 202, 3) := by decide +kernel
theorem dX9_token_28 : decode cX9_token 28 = .ok (.goto (-28), 3) := by decide +kernel
theorem dX9_token_31 : decode cX9_token 31 = .ok (.aload_n 0, 1) := by decide +kernel
theorem dX9_token_32 : decode cX9_token 32 = .ok (.aload_n 0, 1) := by decide +kernel
theorem dX9_token_33 : decode cX9_token 33 = .ok (.getfield 202, 3) := by decide +kernel
theorem dX9_token_36 : decode cX9_token 36 = .ok (.putfield 211, 3) := by decide +kernel
theorem dX9_token_39 : decode cX9_token 39 = .ok (.aload_n 0, 1) := by decide +kernel
theorem dX9_token_40 : decode cX9_token 40 = .ok (.invokevirtual 208, 3) := by decide +kernel
theorem dX9_token_43 : decode cX9_token 43 = .ok (.istore_n 1, 1) := by decide +kernel
theorem dX9_token_44 : decode cX9_token 44 = .ok (.aload_n 0, 1) := by decide +kernel
theorem dX9_token_45 : decode cX9_token 45 = .ok (.iconst 0, 1) := by decide +kernel
theorem dX9_token_46 : decode cX9_token 46 = .ok (.putfield 214, 3) := by decide +kernel
theorem dX9_token_49 : decode cX9_token 49 = .ok (.aload_n 0, 1) := by decide +kernel
theorem dX9_token_50 : decode cX9_token 50 = .ok (.lconst 0, 1) := by decide +kernel
theorem dX9_token_51 : decode cX9_token 51 = .ok (.putfield 217, 3) := by decide +kernel
theorem dX9_token_54 : decode cX9_token 54 = .ok (.iconst 0, 1) := by decide +kernel
theorem dX9_token_55 : decode cX9_token 55 = .ok (.istore_n 2, 1) := by decide +kernel
theorem dX9_token_56 : decode cX9_token 56 = .ok (.iload_n 1, 1) := by decide +kernel
theorem dX9_token_57 : decode cX9_token 57 = .ok (.ifCond .ge 11, 3) := by decide +kernel
theorem dX9_token_60 : decode cX9_token 60 = .ok (.aload_n 0, 1) := by decide +kernel
theorem dX9_token_61 : decode cX9_token 61 = .ok (.iconst 0, 1) := by decide +kernel
theorem dX9_token_62 : decode cX9_token 62 = .ok (.putfield 221, 3) := by decide +kernel
theorem dX9_token_65 : decode cX9_token 65 = .ok (.goto 191, 3) := by decide +kernel
theorem dX9_token_68 : decode cX9_token 68 = .ok (.iload_n 1, 1) := by decide +kernel
theorem dX9_token_69 : decode cX9_token 69 = .ok (.bipush 97, 2) := by decide +kernel
theorem dX9_token_71 : decode cX9_token 71 = .ok (.bipush 122, 2) := by decide +kernel
theorem dX9_token_73 : decode cX9_token 73 = .ok (.invokestatic 160, 3) := by decide +kernel
theorem dX9_token_76 : decode cX9_token 76 = .ok (.ifCond .eq 76, 3) := by decide +kernel
theorem dX9_token_79 : decode cX9_token 79 = .ok (.aload_n 0, 1) := by decide +kernel
theorem dX9_token_80 : decode cX9_token 80 = .ok (.invokevirtual 208, 3) := by decide +kernel
theorem dX9_token_83 : decode cX9_token 83 = .ok (.bipush 97, 2) := by decide +kernel
theorem dX9_token_85 : decode cX9_token 85 = .ok (.bipush 122, 2) := by decide +kernel
theorem dX9_token_87 : decode cX9_token 87 = .ok (.invokestatic 160, 3) := by decide +kernel
theorem dX9_token_90 : decode cX9_token 90 = .ok (.ifCond .eq 36, 3) := by decide +kernel
theorem dX9_token_93 : decode cX9_token 93 = .ok (.aload_n 0, 1) := by decide +kernel
theorem dX9_token_94 : decode cX9_token 94 = .ok (.aload_n 0, 1) := by decide +kernel
theorem dX9_token_95 : decode cX9_token 95 = .ok (.getfield 217, 3) := by decide +kernel
theorem dX9_token_98 : decode cX9_token 98 = .ok (.bipush 8, 2) := by decide +kernel
theorem dX9_token_100 : decode cX9_token 100 = .ok (.lshl, 1) := by decide +kernel
theorem dX9_token_101 : decode cX9_token 101 = .ok (.aload_n 0, 1) := by decide +kernel
theorem dX9_token_102 : decode cX9_token 102 = .ok (.invokevirtual 208, 3) := by decide +kernel
theorem dX9_token_105 : decode cX9_token 105 = .ok (.i2l, 1) := by decide +kernel
theorem dX9_token_106 : decode cX9_token 106 = .ok (.lor, 1) := by decide +kernel
theorem dX9_token_107 : decode cX9_token 107 = .ok (.putfield 217, 3) := by decide +kernel
theorem dX9_token_110 : decode cX9_token 110 = .ok (.aload_n 0, 1) := by decide +kernel
theorem dX9_token_111 : decode cX9_token 111 = .ok (.dup, 1) := by decide +kernel
theorem dX9_token_112 : decode cX9_token 112 = .ok (.getfield 202, 3) := by decide +kernel
theorem dX9_token_115 : decode cX9_token 115 = .ok (.iconst 1, 1) := by decide +kernel
theorem dX9_token_116 : decode cX9_token 116 = .ok (.iadd, 1) := by decide +kernel
theorem dX9_token_117 : decode cX9_token 117 = .ok (.putfield 202, 3) := by decide +kernel
theorem dX9_token_120 : decode cX9_token 120 = .ok (.iinc 2 1, 3) := by decide +kernel
theorem dX9_token_123 : decode cX9_token 123 = .ok (.goto (-44), 3) := by decide +kernel
theorem dX9_token_126 : decode cX9_token 126 = .ok (.aload_n 0, 1) := by decide +kernel
theorem dX9_token_127 : decode cX9_token 127 = .ok (.iload_n 2, 1) := by decide +kernel
theorem dX9_token_128 : decode cX9_token 128 = .ok (.bipush 8, 2) := by decide +kernel
theorem dX9_token_130 : decode cX9_token 130 = .ok (.if_icmp .le 7, 3) := by decide +kernel
theorem dX9_token_133 : decode cX9_token 133 = .ok (.lconst 0, 1) := by decide +kernel
theorem dX9_token_134 : decode cX9_token 134 = .ok (.goto 7, 3) := by decide +kernel
theorem dX9_token_137 : decode cX9_token 137 = .ok (.aload_n 0, 1) := by decide +kernel
theorem dX9_token_138 : decode cX9_token 138 = .ok (.getfield 217, 3) := by decide +kernel
theorem dX9_token_141 : decode cX9_token 141 = .ok (.putfield 217, 3) := by decide +kernel
theorem dX9_token_144 : decode cX9_token 144 = .ok (.aload_n 0, 1) := by decide +kernel
theorem dX9_token_145 : decode cX9_token 145 = .ok (.iconst 2, 1) := by decide +kernel
theorem dX9_token_146 : decode cX9_token 146 = .ok (.putfield 221, 3) := by decide +kernel
theorem dX9_token_149 : decode cX9_token 149 = .ok (.goto 107, 3) := by decide +kernel
theorem dX9_token_152 : decode cX9_token 152 = .ok (.iload_n 1, 1) := by decide +kernel
theorem dX9_token_153 : decode cX9_token 153 = .ok (.bipush 48, 2) := by decide +kernel
theorem dX9_token_155 : decode cX9_token 155 = .ok (.bipush 57, 2) := by decide +kernel
theorem dX9_token_157 : decode cX9_token 157 = .ok (.invokestatic 160, 3) := by decide +kernel
theorem dX9_token_160 : decode cX9_token 160 = .ok (.ifCond .eq 81, 3) := by decide +kernel
theorem dX9_token_163 : decode cX9_token 163 = .ok (.aload_n 0, 1) := by decide +kernel
theorem dX9_token_164 : decode cX9_token 164 = .ok (.invokevirtual 208, 3) := by decide +kernel
theorem dX9_token_167 : decode cX9_token 167 = .ok (.bipush 48, 2) := by decide +kernel
theorem dX9_token_169 : decode cX9_token 169 = .ok (.bipush 57, 2) := by decide +kernel
theorem dX9_token_171 : decode cX9_token 171 = .ok (.invokestatic 160, 3) := by decide +kernel
theorem dX9_token_174 : decode cX9_token 174 = .ok (.ifCond .eq 50, 3) := by decide +kernel
theorem dX9_token_177 : decode cX9_token 177 = .ok (.aload_n 0, 1) := by decide +kernel
theorem dX9_token_178 : decode cX9_token 178 = .ok (.iload_n 2, 1) := by decide +kernel
theorem dX9_token_179 : decode cX9_token 179 = .ok (.iconst 4, 1) := by decide +kernel
theorem dX9_token_180 : decode cX9_token 180 = .ok (.if_icmp .ge 21, 3) := by decide +kernel
theorem dX9_token_183 : decode cX9_token 183 = .ok (.bipush 10, 2) := by decide +kernel
theorem dX9_token_185 : decode cX9_token 185 = .ok (.aload_n 0, 1) := by decide +kernel
theorem dX9_token_186 : decode cX9_token 186 = .ok (.getfield 214, 3) := by decide +kernel
theorem dX9_token_189 : decode cX9_token 189 = .ok (.imul, 1) := by decide +kernel
theorem dX9_token_190 : decode cX9_token 190 = .ok (.aload_n 0, 1) := by decide +kernel
theorem dX9_token_191 : decode cX9_token 191 = .ok (.invokevirtual 208, 3) := by decide +kernel
theorem dX9_token_194 : decode cX9_token 194 = .ok (.iadd, 1) := by decide +kernel
theorem dX9_token_195 : decode cX9_token 195 = .ok (.bipush 48, 2) := by decide +kernel
theorem dX9_token_197 : decode cX9_token 197 = .ok (.isub, 1) := by decide +kernel
theorem dX9_token_198 : decode cX9_token 198 = .ok (.goto 7, 3) := by decide +kernel
theorem dX9_token_201 : decode cX9_token 201 = .ok (.aload_n 0, 1) := by decide +kernel
theorem dX9_token_202 : decode cX9_token 202 = .ok (.getfield 214, 3) := by decide +kernel
theorem dX9_token_205 : decode cX9_token 205 = .ok (.putfield 214, 3) := by decide +kernel
theorem dX9_token_208 : decode cX9_token 208 = .ok (.aload_n 0, 1) := by decide +kernel
theorem dX9_token_209 : decode cX9_token 209 = .ok (.dup, 1) := by decide +kernel
theorem dX9_token_210 : decode cX9_token 210 = .ok (.getfield 202, 3) := by decide +kernel
theorem dX9_token_213 : decode cX9_token 213 = .ok (.iconst 1, 1) := by decide +kernel
theorem dX9_token_214 : decode cX9_token 214 = .ok (.iadd, 1) := by decide +kernel
theorem dX9_token_215 : decode cX9_token 215 = .ok (.putfield 202, 3) := by decide +kernel
theorem dX9_token_218 : decode cX9_token 218 = .ok (.iinc 2 1, 3) := by decide +kernel
theorem dX9_token_221 : decode cX9_token 221 = .ok (.goto (-58), 3) := by decide +kernel
theorem dX9_token_224 : decode cX9_token 224 = .ok (.aload_n 0, 1) := by decide +kernel
theorem dX9_token_225 : decode cX9_token 225 = .ok (.iload_n 2, 1) := by decide +kernel
theorem dX9_token_226 : decode cX9_token 226 = .ok (.iconst 4, 1) := by decide +kernel
theorem dX9_token_227 : decode cX9_token 227 = .ok (.if_icmp .le 7, 3) := by decide +kernel
theorem dX9_token_230 : decode cX9_token 230 = .ok (.iconst 1, 1) := by decide +kernel
theorem dX9_token_231 : decode cX9_token 231 = .ok (.goto 4, 3) := by decide +kernel
theorem dX9_token_234 : decode cX9_token 234 = .ok (.iconst 3, 1) := by decide +kernel
theorem dX9_token_235 : decode cX9_token 235 = .ok (.putfield 221, 3) := by decide +kernel
theorem dX9_token_238 : decode cX9_token 238 = .ok (.goto 18, 3) := by decide +kernel
theorem dX9_token_241 : decode cX9_token 241 = .ok (.aload_n 0, 1) := by decide +kernel
theorem dX9_token_242 : decode cX9_token 242 = .ok (.dup, 1) := by decide +kernel
theorem dX9_token_243 : decode cX9_token 243 = .ok (.getfield 202, 3) := by decide +kernel
theorem dX9_token_246 : decode cX9_token 246 = .ok (.iconst 1, 1) := by decide +kernel
theorem dX9_token_247 : decode cX9_token 247 = .ok (.iadd, 1) := by decide +kernel
theorem dX9_token_248 : decode cX9_token 248 = .ok (.putfield 202, 3) := by decide +kernel
theorem dX9_token_251 : decode cX9_token 251 = .ok (.aload_n 0, 1) := by decide +kernel
theorem dX9_token_252 : decode cX9_token 252 = .ok (.iconst 1, 1) := by decide +kernel
theorem dX9_token_253 : decode cX9_token 253 = .ok (.putfield 221, 3) := by decide +kernel
theorem dX9_token_256 : decode cX9_token 256 = .ok (.return_, 1) := by decide +kernel
theorem dX9_isWord_0 : decode cX9_isWord 0 = .ok (.aload_n 0, 1) := by decide +kernel
theorem dX9_isWord_1 : decode cX9_isWord 1 = .ok (.getfield 221, 3) := by decide +kernel
theorem dX9_isWord_4 : decode cX9_isWord 4 = .ok (.iconst 2, 1) := by decide +kernel
theorem dX9_isWord_5 : decode cX9_isWord 5 = .ok (.if_icmp .ne 16, 3) := by decide +kernel
theorem dX9_isWord_8 : decode cX9_isWord 8 = .ok (.aload_n 0, 1) := by decide +kernel
theorem dX9_isWord_9 : decode cX9_isWord 9 = .ok (.getfield 217, 3) := by decide +kernel
theorem dX9_isWord_12 : decode cX9_isWord 12 = .ok (.lload_n 1, 1) := by decide +kernel
theorem dX9_isWord_13 : decode cX9_isWord 13 = .ok (.lcmp, 1) := by decide +kernel
theorem dX9_isWord_14 : decode cX9_isWord 14 = .ok (.ifCond .ne 7, 3) := by decide +kernel
theorem dX9_isWord_17 : decode cX9_isWord 17 = .ok (.iconst 1, 1) := by decide +kernel
theorem dX9_isWord_18 : decode cX9_isWord 18 = .ok (.goto 4, 3) := by decide +kernel
theorem dX9_isWord_21 : decode cX9_isWord 21 = .ok (.iconst 0, 1) := by decide +kernel
theorem dX9_isWord_22 : decode cX9_isWord 22 = .ok (.ireturn, 1) := by decide +kernel
theorem dX9_actOf_0 : decode cX9_actOf 0 = .ok (.aload_n 0, 1) := by decide +kernel
theorem dX9_actOf_1 : decode cX9_actOf 1 = .ok (.ldc2_w 224, 3) := by decide +kernel
theorem dX9_actOf_4 : decode cX9_actOf 4 = .ok (.invokevirtual 226, 3) := by decide +kernel
theorem dX9_actOf_7 : decode cX9_actOf 7 = .ok (.ifCond .eq 7, 3) := by decide +kernel
theorem dX9_actOf_10 : decode cX9_actOf 10 = .ok (.iconst 0, 1) := by decide +kernel
theorem dX9_actOf_11 : decode cX9_actOf 11 = .ok (.goto 149, 3) := by decide +kernel
theorem dX9_actOf_14 : decode cX9_actOf 14 = .ok (.aload_n 0, 1) := by decide +kernel
theorem dX9_actOf_15 : decode cX9_actOf 15 = .ok (.ldc2_w 230, 3) := by decide +kernel
theorem dX9_actOf_18 : decode cX9_actOf 18 = .ok (.invokevirtual 226, 3) := by decide +kernel
theorem dX9_actOf_21 : decode cX9_actOf 21 = .ok (.ifCond .eq 7, 3) := by decide +kernel
theorem dX9_actOf_24 : decode cX9_actOf 24 = .ok (.iconst 1, 1) := by decide +kernel
theorem dX9_actOf_25 : decode cX9_actOf 25 = .ok (.goto 135, 3) := by decide +kernel
theorem dX9_actOf_28 : decode cX9_actOf 28 = .ok (.aload_n 0, 1) := by decide +kernel
theorem dX9_actOf_29 : decode cX9_actOf 29 = .ok (.ldc2_w 232, 3) := by decide +kernel
theorem dX9_actOf_32 : decode cX9_actOf 32 = .ok (.invokevirtual 226, 3) := by decide +kernel
theorem dX9_actOf_35 : decode cX9_actOf 35 = .ok (.ifCond .eq 7, 3) := by decide +kernel
theorem dX9_actOf_38 : decode cX9_actOf 38 = .ok (.iconst 2, 1) := by decide +kernel
theorem dX9_actOf_39 : decode cX9_actOf 39 = .ok (.goto 121, 3) := by decide +kernel
theorem dX9_actOf_42 : decode cX9_actOf 42 = .ok (.aload_n 0, 1) := by decide +kernel
theorem dX9_actOf_43 : decode cX9_actOf 43 = .ok (.ldc2_w 234, 3) := by decide +kernel
theorem dX9_actOf_46 : decode cX9_actOf 46 = .ok (.invokevirtual 226, 3) := by decide +kernel
theorem dX9_actOf_49 : decode cX9_actOf 49 = .ok (.ifCond .eq 7, 3) := by decide +kernel
theorem dX9_actOf_52 : decode cX9_actOf 52 = .ok (.iconst 3, 1) := by decide +kernel
theorem dX9_actOf_53 : decode cX9_actOf 53 = .ok (.goto 107, 3) := by decide +kernel
theorem dX9_actOf_56 : decode cX9_actOf 56 = .ok (.aload_n 0, 1) := by decide +kernel
theorem dX9_actOf_57 : decode cX9_actOf 57 = .ok (.ldc2_w 236, 3) := by decide +kernel
theorem dX9_actOf_60 : decode cX9_actOf 60 = .ok (.invokevirtual 226, 3) := by decide +kernel
theorem dX9_actOf_63 : decode cX9_actOf 63 = .ok (.ifCond .eq 7, 3) := by decide +kernel
theorem dX9_actOf_66 : decode cX9_actOf 66 = .ok (.iconst 4, 1) := by decide +kernel
theorem dX9_actOf_67 : decode cX9_actOf 67 = .ok (.goto 93, 3) := by decide +kernel
theorem dX9_actOf_70 : decode cX9_actOf 70 = .ok (.aload_n 0, 1) := by decide +kernel
theorem dX9_actOf_71 : decode cX9_actOf 71 = .ok (.ldc2_w 238, 3) := by decide +kernel
theorem dX9_actOf_74 : decode cX9_actOf 74 = .ok (.invokevirtual 226, 3) := by decide +kernel
theorem dX9_actOf_77 : decode cX9_actOf 77 = .ok (.ifCond .eq 7, 3) := by decide +kernel
theorem dX9_actOf_80 : decode cX9_actOf 80 = .ok (.iconst 5, 1) := by decide +kernel
theorem dX9_actOf_81 : decode cX9_actOf 81 = .ok (.goto 79, 3) := by decide +kernel
theorem dX9_actOf_84 : decode cX9_actOf 84 = .ok (.aload_n 0, 1) := by decide +kernel
theorem dX9_actOf_85 : decode cX9_actOf 85 = .ok (.ldc2_w 240, 3) := by decide +kernel
theorem dX9_actOf_88 : decode cX9_actOf 88 = .ok (.invokevirtual 226, 3) := by decide +kernel
theorem dX9_actOf_91 : decode cX9_actOf 91 = .ok (.ifCond .eq 8, 3) := by decide +kernel
theorem dX9_actOf_94 : decode cX9_actOf 94 = .ok (.bipush 6, 2) := by decide +kernel
theorem dX9_actOf_96 : decode cX9_actOf 96 = .ok (.goto 64, 3) := by decide +kernel
theorem dX9_actOf_99 : decode cX9_actOf 99 = .ok (.aload_n 0, 1) := by decide +kernel
theorem dX9_actOf_100 : decode cX9_actOf 100 = .ok (.ldc2_w 242, 3) := by decide +kernel
theorem dX9_actOf_103 : decode cX9_actOf 103 = .ok (.invokevirtual 226, 3) := by decide +kernel
theorem dX9_actOf_106 : decode cX9_actOf 106 = .ok (.ifCond .eq 8, 3) := by decide +kernel
theorem dX9_actOf_109 : decode cX9_actOf 109 = .ok (.bipush 7, 2) := by decide +kernel
theorem dX9_actOf_111 : decode cX9_actOf 111 = .ok (.goto 49, 3) := by decide +kernel
theorem dX9_actOf_114 : decode cX9_actOf 114 = .ok (.aload_n 0, 1) := by decide +kernel
theorem dX9_actOf_115 : decode cX9_actOf 115 = .ok (.ldc2_w 244, 3) := by decide +kernel
theorem dX9_actOf_118 : decode cX9_actOf 118 = .ok (.invokevirtual 226, 3) := by decide +kernel
theorem dX9_actOf_121 : decode cX9_actOf 121 = .ok (.ifCond .eq 8, 3) := by decide +kernel
theorem dX9_actOf_124 : decode cX9_actOf 124 = .ok (.bipush 8, 2) := by decide +kernel
theorem dX9_actOf_126 : decode cX9_actOf 126 = .ok (.goto 34, 3) := by decide +kernel
theorem dX9_actOf_129 : decode cX9_actOf 129 = .ok (.aload_n 0, 1) := by decide +kernel
theorem dX9_actOf_130 : decode cX9_actOf 130 = .ok (.ldc2_w 246, 3) := by decide +kernel
theorem dX9_actOf_133 : decode cX9_actOf 133 = .ok (.invokevirtual 226, 3) := by decide +kernel
theorem dX9_actOf_136 : decode cX9_actOf 136 = .ok (.ifCond .eq 8, 3) := by decide +kernel
theorem dX9_actOf_139 : decode cX9_actOf 139 = .ok (.bipush 9, 2) := by decide +kernel
theorem dX9_actOf_141 : decode cX9_actOf 141 = .ok (.goto 19, 3) := by decide +kernel
theorem dX9_actOf_144 : decode cX9_actOf 144 = .ok (.aload_n 0, 1) := by decide +kernel
theorem dX9_actOf_145 : decode cX9_actOf 145 = .ok (.ldc2_w 248, 3) := by decide +kernel
theorem dX9_actOf_148 : decode cX9_actOf 148 = .ok (.invokevirtual 226, 3) := by decide +kernel
theorem dX9_actOf_151 : decode cX9_actOf 151 = .ok (.ifCond .eq 8, 3) := by decide +kernel
theorem dX9_actOf_154 : decode cX9_actOf 154 = .ok (.bipush 10, 2) := by decide +kernel
theorem dX9_actOf_156 : decode cX9_actOf 156 = .ok (.goto 4, 3) := by decide +kernel
theorem dX9_actOf_159 : decode cX9_actOf 159 = .ok (.iconst (-1), 1) := by decide +kernel
theorem dX9_actOf_160 : decode cX9_actOf 160 = .ok (.ireturn, 1) := by decide +kernel
theorem dX9_varOf_0 : decode cX9_varOf 0 = .ok (.aload_n 0, 1) := by decide +kernel
theorem dX9_varOf_1 : decode cX9_varOf 1 = .ok (.ldc2_w 250, 3) := by decide +kernel
theorem dX9_varOf_4 : decode cX9_varOf 4 = .ok (.invokevirtual 226, 3) := by decide +kernel
theorem dX9_varOf_7 : decode cX9_varOf 7 = .ok (.ifCond .eq 7, 3) := by decide +kernel
theorem dX9_varOf_10 : decode cX9_varOf 10 = .ok (.iconst 0, 1) := by decide +kernel
theorem dX9_varOf_11 : decode cX9_varOf 11 = .ok (.goto 46, 3) := by decide +kernel
theorem dX9_varOf_14 : decode cX9_varOf 14 = .ok (.aload_n 0, 1) := by decide +kernel
theorem dX9_varOf_15 : decode cX9_varOf 15 = .ok (.ldc2_w 252, 3) := by decide +kernel
theorem dX9_varOf_18 : decode cX9_varOf 18 = .ok (.invokevirtual 226, 3) := by decide +kernel
theorem dX9_varOf_21 : decode cX9_varOf 21 = .ok (.ifCond .eq 7, 3) := by decide +kernel
theorem dX9_varOf_24 : decode cX9_varOf 24 = .ok (.iconst 1, 1) := by decide +kernel
theorem dX9_varOf_25 : decode cX9_varOf 25 = .ok (.goto 32, 3) := by decide +kernel
theorem dX9_varOf_28 : decode cX9_varOf 28 = .ok (.aload_n 0, 1) := by decide +kernel
theorem dX9_varOf_29 : decode cX9_varOf 29 = .ok (.ldc2_w 254, 3) := by decide +kernel
theorem dX9_varOf_32 : decode cX9_varOf 32 = .ok (.invokevirtual 226, 3) := by decide +kernel
theorem dX9_varOf_35 : decode cX9_varOf 35 = .ok (.ifCond .eq 7, 3) := by decide +kernel
theorem dX9_varOf_38 : decode cX9_varOf 38 = .ok (.iconst 2, 1) := by decide +kernel
theorem dX9_varOf_39 : decode cX9_varOf 39 = .ok (.goto 18, 3) := by decide +kernel
theorem dX9_varOf_42 : decode cX9_varOf 42 = .ok (.aload_n 0, 1) := by decide +kernel
theorem dX9_varOf_43 : decode cX9_varOf 43 = .ok (.ldc2_w 256, 3) := by decide +kernel
theorem dX9_varOf_46 : decode cX9_varOf 46 = .ok (.invokevirtual 226, 3) := by decide +kernel
theorem dX9_varOf_49 : decode cX9_varOf 49 = .ok (.ifCond .eq 7, 3) := by decide +kernel
theorem dX9_varOf_52 : decode cX9_varOf 52 = .ok (.iconst 3, 1) := by decide +kernel
theorem dX9_varOf_53 : decode cX9_varOf 53 = .ok (.goto 4, 3) := by decide +kernel
theorem dX9_varOf_56 : decode cX9_varOf 56 = .ok (.iconst (-1), 1) := by decide +kernel
theorem dX9_varOf_57 : decode cX9_varOf 57 = .ok (.ireturn, 1) := by decide +kernel
theorem dX9_kindOf_0 : decode cX9_kindOf 0 = .ok (.aload_n 0, 1) := by decide +kernel
theorem dX9_kindOf_1 : decode cX9_kindOf 1 = .ok (.ldc2_w 258, 3) := by decide +kernel
theorem dX9_kindOf_4 : decode cX9_kindOf 4 = .ok (.invokevirtual 226, 3) := by decide +kernel
theorem dX9_kindOf_7 : decode cX9_kindOf 7 = .ok (.ifCond .eq 7, 3) := by decide +kernel
theorem dX9_kindOf_10 : decode cX9_kindOf 10 = .ok (.iconst 0, 1) := by decide +kernel
theorem dX9_kindOf_11 : decode cX9_kindOf 11 = .ok (.goto 32, 3) := by decide +kernel
theorem dX9_kindOf_14 : decode cX9_kindOf 14 = .ok (.aload_n 0, 1) := by decide +kernel
theorem dX9_kindOf_15 : decode cX9_kindOf 15 = .ok (.ldc2_w 260, 3) := by decide +kernel
theorem dX9_kindOf_18 : decode cX9_kindOf 18 = .ok (.invokevirtual 226, 3) := by decide +kernel
theorem dX9_kindOf_21 : decode cX9_kindOf 21 = .ok (.ifCond .eq 7, 3) := by decide +kernel
theorem dX9_kindOf_24 : decode cX9_kindOf 24 = .ok (.iconst 1, 1) := by decide +kernel
theorem dX9_kindOf_25 : decode cX9_kindOf 25 = .ok (.goto 18, 3) := by decide +kernel
theorem dX9_kindOf_28 : decode cX9_kindOf 28 = .ok (.aload_n 0, 1) := by decide +kernel
theorem dX9_kindOf_29 : decode cX9_kindOf 29 = .ok (.ldc2_w 262, 3) := by decide +kernel
theorem dX9_kindOf_32 : decode cX9_kindOf 32 = .ok (.invokevirtual 226, 3) := by decide +kernel
theorem dX9_kindOf_35 : decode cX9_kindOf 35 = .ok (.ifCond .eq 7, 3) := by decide +kernel
theorem dX9_kindOf_38 : decode cX9_kindOf 38 = .ok (.iconst 2, 1) := by decide +kernel
theorem dX9_kindOf_39 : decode cX9_kindOf 39 = .ok (.goto 4, 3) := by decide +kernel
theorem dX9_kindOf_42 : decode cX9_kindOf 42 = .ok (.iconst (-1), 1) := by decide +kernel
theorem dX9_kindOf_43 : decode cX9_kindOf 43 = .ok (.ireturn, 1) := by decide +kernel
theorem dX9_relOf_0 : decode cX9_relOf 0 = .ok (.aload_n 0, 1) := by decide +kernel
theorem dX9_relOf_1 : decode cX9_relOf 1 = .ok (.ldc2_w 264, 3) := by decide +kernel
theorem dX9_relOf_4 : decode cX9_relOf 4 = .ok (.invokevirtual 226, 3) := by decide +kernel
theorem dX9_relOf_7 : decode cX9_relOf 7 = .ok (.ifCond .eq 7, 3) := by decide +kernel
theorem dX9_relOf_10 : decode cX9_relOf 10 = .ok (.iconst 0, 1) := by decide +kernel
theorem dX9_relOf_11 : decode cX9_relOf 11 = .ok (.goto 46, 3) := by decide +kernel
theorem dX9_relOf_14 : decode cX9_relOf 14 = .ok (.aload_n 0, 1) := by decide +kernel
theorem dX9_relOf_15 : decode cX9_relOf 15 = .ok (.ldc2_w 266, 3) := by decide +kernel
theorem dX9_relOf_18 : decode cX9_relOf 18 = .ok (.invokevirtual 226, 3) := by decide +kernel
theorem dX9_relOf_21 : decode cX9_relOf 21 = .ok (.ifCond .eq 7, 3) := by decide +kernel
theorem dX9_relOf_24 : decode cX9_relOf 24 = .ok (.iconst 1, 1) := by decide +kernel
theorem dX9_relOf_25 : decode cX9_relOf 25 = .ok (.goto 32, 3) := by decide +kernel
theorem dX9_relOf_28 : decode cX9_relOf 28 = .ok (.aload_n 0, 1) := by decide +kernel
theorem dX9_relOf_29 : decode cX9_relOf 29 = .ok (.ldc2_w 268, 3) := by decide +kernel
theorem dX9_relOf_32 : decode cX9_relOf 32 = .ok (.invokevirtual 226, 3) := by decide +kernel
theorem dX9_relOf_35 : decode cX9_relOf 35 = .ok (.ifCond .eq 7, 3) := by decide +kernel
theorem dX9_relOf_38 : decode cX9_relOf 38 = .ok (.iconst 2, 1) := by decide +kernel
theorem dX9_relOf_39 : decode cX9_relOf 39 = .ok (.goto 18, 3) := by decide +kernel
theorem dX9_relOf_42 : decode cX9_relOf 42 = .ok (.aload_n 0, 1) := by decide +kernel
theorem dX9_relOf_43 : decode cX9_relOf 43 = .ok (.ldc2_w 270, 3) := by decide +kernel
theorem dX9_relOf_46 : decode cX9_relOf 46 = .ok (.invokevirtual 226, 3) := by decide +kernel
theorem dX9_relOf_49 : decode cX9_relOf 49 = .ok (.ifCond .eq 7, 3) := by decide +kernel
theorem dX9_relOf_52 : decode cX9_relOf 52 = .ok (.iconst 3, 1) := by decide +kernel
theorem dX9_relOf_53 : decode cX9_relOf 53 = .ok (.goto 4, 3) := by decide +kernel
theorem dX9_relOf_56 : decode cX9_relOf 56 = .ok (.iconst (-1), 1) := by decide +kernel
theorem dX9_relOf_57 : decode cX9_relOf 57 = .ok (.istore_n 1, 1) := by decide +kernel
theorem dX9_relOf_58 : decode cX9_relOf 58 = .ok (.iload_n 1, 1) := by decide +kernel
theorem dX9_relOf_59 : decode cX9_relOf 59 = .ok (.aload_n 0, 1) := by decide +kernel
theorem dX9_relOf_60 : decode cX9_relOf 60 = .ok (.getfield 32, 3) := by decide +kernel
theorem dX9_relOf_63 : decode cX9_relOf 63 = .ok (.iconst 0, 1) := by decide +kernel
theorem dX9_relOf_64 : decode cX9_relOf 64 = .ok (.iaload, 1) := by decide +kernel
theorem dX9_relOf_65 : decode cX9_relOf 65 = .ok (.if_icmp .ge 7, 3) := by decide +kernel
theorem dX9_relOf_68 : decode cX9_relOf 68 = .ok (.iload_n 1, 1) := by decide +kernel
theorem dX9_relOf_69 : decode cX9_relOf 69 = .ok (.goto 4, 3) := by decide +kernel
theorem dX9_relOf_72 : decode cX9_relOf 72 = .ok (.iconst (-1), 1) := by decide +kernel
theorem dX9_relOf_73 : decode cX9_relOf 73 = .ok (.ireturn, 1) := by decide +kernel
theorem dX9_wrong_0 : decode cX9_wrong 0 = .ok (.aload_n 0, 1) := by decide +kernel
theorem dX9_wrong_1 : decode cX9_wrong 1 = .ok (.aload_n 0, 1) := by decide +kernel
theorem dX9_wrong_2 : decode cX9_wrong 2 = .ok (.getfield 211, 3) := by decide +kernel
theorem dX9_wrong_5 : decode cX9_wrong 5 = .ok (.putfield 272, 3) := by decide +kernel
theorem dX9_wrong_8 : decode cX9_wrong 8 = .ok (.iconst (-1), 1) := by decide +kernel
theorem dX9_wrong_9 : decode cX9_wrong 9 = .ok (.ireturn, 1) := by decide +kernel
theorem dX9_later_0 : decode cX9_later 0 = .ok (.aload_n 0, 1) := by decide +kernel
theorem dX9_later_1 : decode cX9_later 1 = .ok (.getfield 275, 3) := by decide +kernel
theorem dX9_later_4 : decode cX9_later 4 = .ok (.ifCond .eq 27, 3) := by decide +kernel
theorem dX9_later_7 : decode cX9_later 7 = .ok (.iload_n 2, 1) := by decide +kernel
theorem dX9_later_8 : decode cX9_later 8 = .ok (.aload_n 0, 1) := by decide +kernel
theorem dX9_later_9 : decode cX9_later 9 = .ok (.getfield 278, 3) := by decide +kernel
theorem dX9_later_12 : decode cX9_later 12 = .ok (.if_icmp .lt 19, 3) := by decide +kernel
theorem dX9_later_15 : decode cX9_later 15 = .ok (.iload_n 2, 1) := by decide +kernel
theorem dX9_later_16 : decode cX9_later 16 = .ok (.aload_n 0, 1) := by decide +kernel
theorem dX9_later_17 : decode cX9_later 17 = .ok (.getfield 278, 3) := by decide +kernel
theorem dX9_later_20 : decode cX9_later 20 = .ok (.if_icmp .ne 21, 3) := by decide +kernel
theorem dX9_later_23 : decode cX9_later 23 = .ok (.iload_n 1, 1) := by decide +kernel
theorem dX9_later_24 : decode cX9_later 24 = .ok (.aload_n 0, 1) := by decide +kernel
theorem dX9_later_25 : decode cX9_later 25 = .ok (.getfield 275, 3) := by decide +kernel
theorem dX9_later_28 : decode cX9_later 28 = .ok (.if_icmp .ge 13, 3) := by decide +kernel
theorem dX9_later_31 : decode cX9_later 31 = .ok (.aload_n 0, 1) := by decide +kernel
theorem dX9_later_32 : decode cX9_later 32 = .ok (.iload_n 1, 1) := by decide +kernel
theorem dX9_later_33 : decode cX9_later 33 = .ok (.putfield 275, 3) := by decide +kernel
theorem dX9_later_36 : decode cX9_later 36 = .ok (.aload_n 0, 1) := by decide +kernel
theorem dX9_later_37 : decode cX9_later 37 = .ok (.iload_n 2, 1) := by decide +kernel
theorem dX9_later_38 : decode cX9_later 38 = .ok (.putfield 278, 3) := by decide +kernel
theorem dX9_later_41 : decode cX9_later 41 = .ok (.return_, 1) := by decide +kernel
theorem dX9_bound_0 : decode cX9_bound 0 = .ok (.iload_n 0, 1) := by decide +kernel
theorem dX9_bound_1 : decode cX9_bound 1 = .ok (.iconst 2, 1) := by decide +kernel
theorem dX9_bound_2 : decode cX9_bound 2 = .ok (.iload_n 1, 1) := by decide +kernel
theorem dX9_bound_3 : decode cX9_bound 3 = .ok (.imul, 1) := by decide +kernel
theorem dX9_bound_4 : decode cX9_bound 4 = .ok (.ishr, 1) := by decide +kernel
theorem dX9_bound_5 : decode cX9_bound 5 = .ok (.iconst 3, 1) := by decide +kernel
theorem dX9_bound_6 : decode cX9_bound 6 = .ok (.iand, 1) := by decide +kernel
theorem dX9_bound_7 : decode cX9_bound 7 = .ok (.istore_n 2, 1) := by decide +kernel
theorem dX9_bound_8 : decode cX9_bound 8 = .ok (.iload_n 2, 1) := by decide +kernel
theorem dX9_bound_9 : decode cX9_bound 9 = .ok (.iconst 3, 1) := by decide +kernel
theorem dX9_bound_10 : decode cX9_bound 10 = .ok (.if_icmp .ne 7, 3) := by decide +kernel
theorem dX9_bound_13 : decode cX9_bound 13 = .ok (.iconst (-1), 1) := by decide +kernel
theorem dX9_bound_14 : decode cX9_bound 14 = .ok (.goto 4, 3) := by decide +kernel
theorem dX9_bound_17 : decode cX9_bound 17 = .ok (.iload_n 2, 1) := by decide +kernel
theorem dX9_bound_18 : decode cX9_bound 18 = .ok (.ireturn, 1) := by decide +kernel
theorem dX9_readVar_0 : decode cX9_readVar 0 = .ok (.aload_n 0, 1) := by decide +kernel
theorem dX9_readVar_1 : decode cX9_readVar 1 = .ok (.invokevirtual 281, 3) := by decide +kernel
theorem dX9_readVar_4 : decode cX9_readVar 4 = .ok (.istore_n 3, 1) := by decide +kernel
theorem dX9_readVar_5 : decode cX9_readVar 5 = .ok (.iload_n 3, 1) := by decide +kernel
theorem dX9_readVar_6 : decode cX9_readVar 6 = .ok (.iconst (-1), 1) := by decide +kernel
theorem dX9_readVar_7 : decode cX9_readVar 7 = .ok (.if_icmp .ne 8, 3) := by decide +kernel
theorem dX9_readVar_10 : decode cX9_readVar 10 = .ok (.aload_n 0, 1) := by decide +kernel
theorem dX9_readVar_11 : decode cX9_readVar 11 = .ok (.invokevirtual 284, 3) := by decide +kernel
theorem dX9_readVar_14 : decode cX9_readVar 14 = .ok (.ireturn, 1) := by decide +kernel
theorem dX9_readVar_15 : decode cX9_readVar 15 = .ok (.iload_n 1, 1) := by decide +kernel
theorem dX9_readVar_16 : decode cX9_readVar 16 = .ok (.iload_n 3, 1) := by decide +kernel
theorem dX9_readVar_17 : decode cX9_readVar 17 = .ok (.invokestatic 287, 3) := by decide +kernel
theorem dX9_readVar_20 : decode cX9_readVar 20 = .ok (.iconst (-1), 1) := by decide +kernel
theorem dX9_readVar_21 : decode cX9_readVar 21 = .ok (.if_icmp .ne 15, 3) := by decide +kernel
theorem dX9_readVar_24 : decode cX9_readVar 24 = .ok (.aload_n 0, 1) := by decide +kernel
theorem dX9_readVar_25 : decode cX9_readVar 25 = .ok (.iconst 2, 1) := by decide +kernel
theorem dX9_readVar_26 : decode cX9_readVar 26 = .ok (.aload_n 0, 1) := by decide +kernel
theorem dX9_readVar_27 : decode cX9_readVar 27 = .ok (.getfield 211, 3) := by decide +kernel
theorem dX9_readVar_30 : decode cX9_readVar 30 = .ok (.invokevirtual 291, 3) := by decide +kernel
theorem dX9_readVar_33 : decode cX9_readVar 33 = .ok (.goto 26, 3) := by decide +kernel
theorem dX9_readVar_36 : decode cX9_readVar 36 = .ok (.iload_n 2, 1) := by decide +kernel
theorem dX9_readVar_37 : decode cX9_readVar 37 = .ok (.iconst (-1), 1) := by decide +kernel
theorem dX9_readVar_38 : decode cX9_readVar 38 = .ok (.if_icmp .eq 21, 3) := by decide +kernel
theorem dX9_readVar_41 : decode cX9_readVar 41 = .ok (.iload_n 1, 1) := by decide +kernel
theorem dX9_readVar_42 : decode cX9_readVar 42 = .ok (.iload_n 3, 1) := by decide +kernel
theorem dX9_readVar_43 : decode cX9_readVar 43 = .ok (.invokestatic 287, 3) := by decide +kernel
theorem dX9_readVar_46 : decode cX9_readVar 46 = .ok (.iload_n 2, 1) := by decide +kernel
theorem dX9_readVar_47 : decode cX9_readVar 47 = .ok (.if_icmp .eq 12, 3) := by decide +kernel
theorem dX9_readVar_50 : decode cX9_readVar 50 = .ok (.aload_n 0, 1) := by decide +kernel
theorem dX9_readVar_51 : decode cX9_readVar 51 = .ok (.iconst 3, 1) := by decide +kernel
theorem dX9_readVar_52 : decode cX9_readVar 52 = .ok (.aload_n 0, 1) := by decide +kernel
theorem dX9_readVar_53 : decode cX9_readVar 53 = .ok (.getfield 211, 3) := by decide +kernel
theorem dX9_readVar_56 : decode cX9_readVar 56 = .ok (.invokevirtual 291, 3) := by decide +kernel
theorem dX9_readVar_59 : decode cX9_readVar 59 = .ok (.aload_n 0, 1) := by decide +kernel
theorem dX9_readVar_60 : decode cX9_readVar 60 = .ok (.invokevirtual 295, 3) := by decide +kernel
theorem dX9_readVar_63 : decode cX9_readVar 63 = .ok (.iload_n 3, 1) := by decide +kernel
theorem dX9_readVar_64 : decode cX9_readVar 64 = .ok (.ireturn, 1) := by decide +kernel
theorem dX9_wait_0 : decode cX9_wait 0 = .ok (.aload_n 0, 1) := by decide +kernel
theorem dX9_wait_1 : decode cX9_wait 1 = .ok (.getfield 96, 3) := by decide +kernel
theorem dX9_wait_4 : decode cX9_wait 4 = .ok (.aload_n 0, 1) := by decide +kernel
theorem dX9_wait_5 : decode cX9_wait 5 = .ok (.getfield 298, 3) := by decide +kernel
theorem dX9_wait_8 : decode cX9_wait 8 = .ok (.iload_n 1, 1) := by decide +kernel
theorem dX9_wait_9 : decode cX9_wait 9 = .ok (.iastore, 1) := by decide +kernel
theorem dX9_wait_10 : decode cX9_wait 10 = .ok (.aload_n 0, 1) := by decide +kernel
theorem dX9_wait_11 : decode cX9_wait 11 = .ok (.dup, 1) := by decide +kernel
theorem dX9_wait_12 : decode cX9_wait 12 = .ok (.getfield 298, 3) := by decide +kernel
theorem dX9_wait_15 : decode cX9_wait 15 = .ok (.iconst 1, 1) := by decide +kernel
theorem dX9_wait_16 : decode cX9_wait 16 = .ok (.iadd, 1) := by decide +kernel
theorem dX9_wait_17 : decode cX9_wait 17 = .ok (.putfield 298, 3) := by decide +kernel
theorem dX9_wait_20 : decode cX9_wait 20 = .ok (.return_, 1) := by decide +kernel
theorem dX9_readBinder_0 : decode cX9_readBinder 0 = .ok (.aload_n 0, 1) := by decide +kernel
theorem dX9_readBinder_1 : decode cX9_readBinder 1 = .ok (.getfield 108, 3) := by decide +kernel
theorem dX9_readBinder_4 : decode cX9_readBinder 4 = .ok (.iload_n 1, 1) := by decide +kernel
theorem dX9_readBinder_5 : decode cX9_readBinder 5 = .ok (.iconst 0, 1) := by decide +kernel
theorem dX9_readBinder_6 : decode cX9_readBinder 6 = .ok (.iastore, 1) := by decide +kernel
theorem dX9_readBinder_7 : decode cX9_readBinder 7 = .ok (.aload_n 0, 1) := by decide +kernel
theorem dX9_readBinder_8 : decode cX9_readBinder 8 = .ok (.getfield 99, 3) := by decide +kernel
theorem dX9_readBinder_11 : decode cX9_readBinder 11 = .ok (.iload_n 1, 1) := by decide +kernel
theorem dX9_readBinder_12 : decode cX9_readBinder 12 = .ok (.iaload, 1) := by decide +kernel
theorem dX9_readBinder_13 : decode cX9_readBinder 13 = .ok (.iconst 2, 1) := by decide +kernel
theorem dX9_readBinder_14 : decode cX9_readBinder 14 = .ok (.if_icmp .lt 35, 3) := by decide +kernel
theorem dX9_readBinder_17 : decode cX9_readBinder 17 = .ok (.aload_n 0, 1) := by decide +kernel
theorem dX9_readBinder_18 : decode cX9_readBinder 18 = .ok (.getfield 221, 3) := by decide +kernel
theorem dX9_readBinder_21 : decode cX9_readBinder 21 = .ok (.iconst 3, 1) := by decide +kernel
theorem dX9_readBinder_22 : decode cX9_readBinder 22 = .ok (.if_icmp .eq 13, 3) := by decide +kernel
theorem dX9_readBinder_25 : decode cX9_readBinder 25 = .ok (.aload_n 0, 1) := by decide +kernel
theorem dX9_readBinder_26 : decode cX9_readBinder 26 = .ok (.aload_n 0, 1) := by decide +kernel
theorem dX9_readBinder_27 : decode cX9_readBinder 27 = .ok (.getfield 211, 3) := by decide +kernel
theorem dX9_readBinder_30 : decode cX9_readBinder 30 = .ok (.putfield 272, 3) := by decide +kernel
theorem dX9_readBinder_33 : decode cX9_readBinder 33 = .ok (.iconst 0, 1) := by decide +kernel
theorem dX9_readBinder_34 : decode cX9_readBinder 34 = .ok (.ireturn, 1) := by decide +kernel
theorem dX9_readBinder_35 : decode cX9_readBinder 35 = .ok (.aload_n 0, 1) := by decide +kernel
theorem dX9_readBinder_36 : decode cX9_readBinder 36 = .ok (.getfield 108, 3) := by decide +kernel
theorem dX9_readBinder_39 : decode cX9_readBinder 39 = .ok (.iload_n 1, 1) := by decide +kernel
theorem dX9_readBinder_40 : decode cX9_readBinder 40 = .ok (.aload_n 0, 1) := by decide +kernel
theorem dX9_readBinder_41 : decode cX9_readBinder 41 = .ok (.getfield 214, 3) := by decide +kernel
theorem dX9_readBinder_44 : decode cX9_readBinder 44 = .ok (.iastore, 1) := by decide +kernel
theorem dX9_readBinder_45 : decode cX9_readBinder 45 = .ok (.aload_n 0, 1) := by decide +kernel
theorem dX9_readBinder_46 : decode cX9_readBinder 46 = .ok (.invokevirtual 295, 3) := by decide +kernel
theorem dX9_readBinder_49 : decode cX9_readBinder 49 = .ok (.aload_n 0, 1) := by decide +kernel
theorem dX9_readBinder_50 : decode cX9_readBinder 50 = .ok (.invokevirtual 281, 3) := by decide +kernel
theorem dX9_readBinder_53 : decode cX9_readBinder 53 = .ok (.istore_n 3, 1) := by decide +kernel
theorem dX9_readBinder_54 : decode cX9_readBinder 54 = .ok (.iload_n 3, 1) := by decide +kernel
theorem dX9_readBinder_55 : decode cX9_readBinder 55 = .ok (.iconst (-1), 1) := by decide +kernel
theorem dX9_readBinder_56 : decode cX9_readBinder 56 = .ok (.if_icmp .ne 13, 3) := by decide +kernel
theorem dX9_readBinder_59 : decode cX9_readBinder 59 = .ok (.aload_n 0, 1) := by decide +kernel
theorem dX9_readBinder_60 : decode cX9_readBinder 60 = .ok (.aload_n 0, 1) := by decide +kernel
theorem dX9_readBinder_61 : decode cX9_readBinder 61 = .ok (.getfield 211, 3) := by decide +kernel
theorem dX9_readBinder_64 : decode cX9_readBinder 64 = .ok (.putfield 272, 3) := by decide +kernel
theorem dX9_readBinder_67 : decode cX9_readBinder 67 = .ok (.iconst 0, 1) := by decide +kernel
theorem dX9_readBinder_68 : decode cX9_readBinder 68 = .ok (.ireturn, 1) := by decide +kernel
theorem dX9_readBinder_69 : decode cX9_readBinder 69 = .ok (.aload_n 0, 1) := by decide +kernel
theorem dX9_readBinder_70 : decode cX9_readBinder 70 = .ok (.invokevirtual 295, 3) := by decide +kernel
theorem dX9_readBinder_73 : decode cX9_readBinder 73 = .ok (.aload_n 0, 1) := by decide +kernel
theorem dX9_readBinder_74 : decode cX9_readBinder 74 = .ok (.invokevirtual 301, 3) := by decide +kernel
theorem dX9_readBinder_77 : decode cX9_readBinder 77 = .ok (.istore 4, 2) := by decide +kernel
theorem dX9_readBinder_79 : decode cX9_readBinder 79 = .ok (.iload 4, 2) := by decide +kernel
theorem dX9_readBinder_81 : decode cX9_readBinder 81 = .ok (.iconst (-1), 1) := by decide +kernel
theorem dX9_readBinder_82 : decode cX9_readBinder 82 = .ok (.if_icmp .ne 13, 3) := by decide +kernel
theorem dX9_readBinder_85 : decode cX9_readBinder 85 = .ok (.aload_n 0, 1) := by decide +kernel
theorem dX9_readBinder_86 : decode cX9_readBinder 86 = .ok (.aload_n 0, 1) := by decide +kernel
theorem dX9_readBinder_87 : decode cX9_readBinder 87 = .ok (.getfield 211, 3) := by decide +kernel
theorem dX9_readBinder_90 : decode cX9_readBinder 90 = .ok (.putfield 272, 3) := by decide +kernel
theorem dX9_readBinder_93 : decode cX9_readBinder 93 = .ok (.iconst 0, 1) := by decide +kernel
theorem dX9_readBinder_94 : decode cX9_readBinder 94 = .ok (.ireturn, 1) := by decide +kernel
theorem dX9_readBinder_95 : decode cX9_readBinder 95 = .ok (.aload_n 0, 1) := by decide +kernel
theorem dX9_readBinder_96 : decode cX9_readBinder 96 = .ok (.invokevirtual 295, 3) := by decide +kernel
theorem dX9_readBinder_99 : decode cX9_readBinder 99 = .ok (.aload_n 0, 1) := by decide +kernel
theorem dX9_readBinder_100 : decode cX9_readBinder 100 = .ok (.getfield 102, 3) := by decide +kernel
theorem dX9_readBinder_103 : decode cX9_readBinder 103 = .ok (.iload_n 1, 1) := by decide +kernel
theorem dX9_readBinder_104 : decode cX9_readBinder 104 = .ok (.iload_n 3, 1) := by decide +kernel
theorem dX9_readBinder_105 : decode cX9_readBinder 105 = .ok (.iastore, 1) := by decide +kernel
theorem dX9_readBinder_106 : decode cX9_readBinder 106 = .ok (.aload_n 0, 1) := by decide +kernel
theorem dX9_readBinder_107 : decode cX9_readBinder 107 = .ok (.getfield 105, 3) := by decide +kernel
theorem dX9_readBinder_110 : decode cX9_readBinder 110 = .ok (.iload_n 1, 1) := by decide +kernel
theorem dX9_readBinder_111 : decode cX9_readBinder 111 = .ok (.iload 4, 2) := by decide +kernel
theorem dX9_readBinder_113 : decode cX9_readBinder 113 = .ok (.iastore, 1) := by decide +kernel
theorem dX9_readBinder_114 : decode cX9_readBinder 114 = .ok (.aload_n 0, 1) := by decide +kernel
theorem dX9_readBinder_115 : decode cX9_readBinder 115 = .ok (.iload_n 2, 1) := by decide +kernel
theorem dX9_readBinder_116 : decode cX9_readBinder 116 = .ok (.iconst 3, 1) := by decide +kernel
theorem dX9_readBinder_117 : decode cX9_readBinder 117 = .ok (.iconst 2, 1) := by decide +kernel
theorem dX9_readBinder_118 : decode cX9_readBinder 118 = .ok (.iload_n 3, 1) := by decide +kernel
theorem dX9_readBinder_119 : decode cX9_readBinder 119 = .ok (.imul, 1) := by decide +kernel
theorem dX9_readBinder_120 : decode cX9_readBinder 120 = .ok (.ishl, 1) := by decide +kernel
theorem dX9_readBinder_121 : decode cX9_readBinder 121 = .ok (.iconst (-1), 1) := by decide +kernel
theorem dX9_readBinder_122 : decode cX9_readBinder 122 = .ok (.ixor, 1) := by decide +kernel
theorem dX9_readBinder_123 : decode cX9_readBinder 123 = .ok (.iand, 1) := by decide +kernel
theorem dX9_readBinder_124 : decode cX9_readBinder 124 = .ok (.iload 4, 2) := by decide +kernel
theorem dX9_readBinder_126 : decode cX9_readBinder 126 = .ok (.iconst 2, 1) := by decide +kernel
theorem dX9_readBinder_127 : decode cX9_readBinder 127 = .ok (.iload_n 3, 1) := by decide +kernel
theorem dX9_readBinder_128 : decode cX9_readBinder 128 = .ok (.imul, 1) := by decide +kernel
theorem dX9_readBinder_129 : decode cX9_readBinder 129 = .ok (.ishl, 1) := by decide +kernel
theorem dX9_readBinder_130 : decode cX9_readBinder 130 = .ok (.ior, 1) := by decide +kernel
theorem dX9_readBinder_131 : decode cX9_readBinder 131 = .ok (.sipush 256, 3) := by decide +kernel
theorem dX9_readBinder_134 : decode cX9_readBinder 134 = .ok (.iadd, 1) := by decide +kernel
theorem dX9_readBinder_135 : decode cX9_readBinder 135 = .ok (.invokevirtual 304, 3) := by decide +kernel
theorem dX9_readBinder_138 : decode cX9_readBinder 138 = .ok (.iconst 1, 1) := by decide +kernel
theorem dX9_readBinder_139 : decode cX9_readBinder 139 = .ok (.ireturn, 1) := by decide +kernel
theorem dX9_readSame_0 : decode cX9_readSame 0 = .ok (.aload_n 0, 1) := by decide +kernel
theorem dX9_readSame_1 : decode cX9_readSame 1 = .ok (.getfield 102, 3) := by decide +kernel
theorem dX9_readSame_4 : decode cX9_readSame 4 = .ok (.iload_n 1, 1) := by decide +kernel
theorem dX9_readSame_5 : decode cX9_readSame 5 = .ok (.aload_n 0, 1) := by decide +kernel
theorem dX9_readSame_6 : decode cX9_readSame 6 = .ok (.iload_n 2, 1) := by decide +kernel
theorem dX9_readSame_7 : decode cX9_readSame 7 = .ok (.iconst (-1), 1) := by decide +kernel
theorem dX9_readSame_8 : decode cX9_readSame 8 = .ok (.invokevirtual 307, 3) := by decide +kernel
theorem dX9_readSame_11 : decode cX9_readSame 11 = .ok (.iastore, 1) := by decide +kernel
theorem dX9_readSame_12 : decode cX9_readSame 12 = .ok (.aload_n 0, 1) := by decide +kernel
theorem dX9_readSame_13 : decode cX9_readSame 13 = .ok (.getfield 102, 3) := by decide +kernel
theorem dX9_readSame_16 : decode cX9_readSame 16 = .ok (.iload_n 1, 1) := by decide +kernel
theorem dX9_readSame_17 : decode cX9_readSame 17 = .ok (.iaload, 1) := by decide +kernel
theorem dX9_readSame_18 : decode cX9_readSame 18 = .ok (.iconst (-1), 1) := by decide +kernel
theorem dX9_readSame_19 : decode cX9_readSame 19 = .ok (.if_icmp .ne 5, 3) := by decide +kernel
theorem dX9_readSame_22 : decode cX9_readSame 22 = .ok (.iconst 0, 1) := by decide +kernel
theorem dX9_readSame_23 : decode cX9_readSame 23 = .ok (.ireturn, 1) := by decide +kernel
theorem dX9_readSame_24 : decode cX9_readSame 24 = .ok (.aload_n 0, 1) := by decide +kernel
theorem dX9_readSame_25 : decode cX9_readSame 25 = .ok (.getfield 105, 3) := by decide +kernel
theorem dX9_readSame_28 : decode cX9_readSame 28 = .ok (.iload_n 1, 1) := by decide +kernel
theorem dX9_readSame_29 : decode cX9_readSame 29 = .ok (.aload_n 0, 1) := by decide +kernel
theorem dX9_readSame_30 : decode cX9_readSame 30 = .ok (.iload_n 2, 1) := by decide +kernel
theorem dX9_readSame_31 : decode cX9_readSame 31 = .ok (.iload_n 2, 1) := by decide +kernel
theorem dX9_readSame_32 : decode cX9_readSame 32 = .ok (.aload_n 0, 1) := by decide +kernel
theorem dX9_readSame_33 : decode cX9_readSame 33 = .ok (.getfield 102, 3) := by decide +kernel
theorem dX9_readSame_36 : decode cX9_readSame 36 = .ok (.iload_n 1, 1) := by decide +kernel
theorem dX9_readSame_37 : decode cX9_readSame 37 = .ok (.iaload, 1) := by decide +kernel
theorem dX9_readSame_38 : decode cX9_readSame 38 = .ok (.invokestatic 287, 3) := by decide +kernel
theorem dX9_readSame_41 : decode cX9_readSame 41 = .ok (.invokevirtual 307, 3) := by decide +kernel
theorem dX9_readSame_44 : decode cX9_readSame 44 = .ok (.iastore, 1) := by decide +kernel
theorem dX9_readSame_45 : decode cX9_readSame 45 = .ok (.aload_n 0, 1) := by decide +kernel
theorem dX9_readSame_46 : decode cX9_readSame 46 = .ok (.getfield 105, 3) := by decide +kernel
theorem dX9_readSame_49 : decode cX9_readSame 49 = .ok (.iload_n 1, 1) := by decide +kernel
theorem dX9_readSame_50 : decode cX9_readSame 50 = .ok (.iaload, 1) := by decide +kernel
theorem dX9_readSame_51 : decode cX9_readSame 51 = .ok (.iconst (-1), 1) := by decide +kernel
theorem dX9_readSame_52 : decode cX9_readSame 52 = .ok (.if_icmp .eq 7, 3) := by decide +kernel
theorem dX9_readSame_55 : decode cX9_readSame 55 = .ok (.iconst 1, 1) := by decide +kernel
theorem dX9_readSame_56 : decode cX9_readSame 56 = .ok (.goto 4, 3) := by decide +kernel
theorem dX9_readSame_59 : decode cX9_readSame 59 = .ok (.iconst 0, 1) := by decide +kernel
theorem dX9_readSame_60 : decode cX9_readSame 60 = .ok (.ireturn, 1) := by decide +kernel
theorem dX9_readRelation_0 : decode cX9_readRelation 0 = .ok (.aload_n 0, 1) := by decide +kernel
theorem dX9_readRelation_1 : decode cX9_readRelation 1 = .ok (.invokevirtual 310, 3) := by decide +kernel
theorem dX9_readRelation_4 : decode cX9_readRelation 4 = .ok (.istore_n 3, 1) := by decide +kernel
theorem dX9_readRelation_5 : decode cX9_readRelation 5 = .ok (.iload_n 3, 1) := by decide +kernel
theorem dX9_readRelation_6 : decode cX9_readRelation 6 = .ok (.iconst (-1), 1) := by decide +kernel
theorem dX9_readRelation_7 : decode cX9_readRelation 7 = .ok (.if_icmp .ne 13, 3) := by decide +kernel
theorem dX9_readRelation_10 : decode cX9_readRelation 10 = .ok (.aload_n 0, 1) := by decide +kernel
theorem dX9_readRelation_11 : decode cX9_readRelation 11 = .ok (.aload_n 0, 1) := by decide +kernel
theorem dX9_readRelation_12 : decode cX9_readRelation 12 = .ok (.getfield 211, 3) := by decide +kernel
theorem dX9_readRelation_15 : decode cX9_readRelation 15 = .ok (.putfield 272, 3) := by decide +kernel
theorem dX9_readRelation_18 : decode cX9_readRelation 18 = .ok (.iconst 0, 1) := by decide +kernel
theorem dX9_readRelation_19 : decode cX9_readRelation 19 = .ok (.ireturn, 1) := by decide +kernel
theorem dX9_readRelation_20 : decode cX9_readRelation 20 = .ok (.aload_n 0, 1) := by decide +kernel
theorem dX9_readRelation_21 : decode cX9_readRelation 21 = .ok (.getfield 99, 3) := by decide +kernel
theorem dX9_readRelation_24 : decode cX9_readRelation 24 = .ok (.iload_n 1, 1) := by decide +kernel
theorem dX9_readRelation_25 : decode cX9_readRelation 25 = .ok (.iaload, 1) := by decide +kernel
theorem dX9_readRelation_26 : decode cX9_readRelation 26 = .ok (.bipush 9, 2) := by decide +kernel
theorem dX9_readRelation_28 : decode cX9_readRelation 28 = .ok (.if_icmp .eq 14, 3) := by decide +kernel
theorem dX9_readRelation_31 : decode cX9_readRelation 31 = .ok (.aload_n 0, 1) := by decide +kernel
theorem dX9_readRelation_32 : decode cX9_readRelation 32 = .ok (.getfield 99, 3) := by decide +kernel
theorem dX9_readRelation_35 : decode cX9_readRelation 35 = .ok (.iload_n 1, 1) := by decide +kernel
theorem dX9_readRelation_36 : decode cX9_readRelation 36 = .ok (.iaload, 1) := by decide +kernel
theorem dX9_readRelation_37 : decode cX9_readRelation 37 = .ok (.bipush 10, 2) := by decide +kernel
theorem dX9_readRelation_39 : decode cX9_readRelation 39 = .ok (.if_icmp .ne 7, 3) := by decide +kernel
theorem dX9_readRelation_42 : decode cX9_readRelation 42 = .ok (.iconst 1, 1) := by decide +kernel
theorem dX9_readRelation_43 : decode cX9_readRelation 43 = .ok (.goto 4, 3) := by decide +kernel
theorem dX9_readRelation_46 : decode cX9_readRelation 46 = .ok (.iconst 0, 1) := by decide +kernel
theorem dX9_readRelation_47 : decode cX9_readRelation 47 = .ok (.istore 4, 2) := by decide +kernel
theorem dX9_readRelation_49 : decode cX9_readRelation 49 = .ok (.iload 4, 2) := by decide +kernel
theorem dX9_readRelation_51 : decode cX9_readRelation 51 = .ok (.ifCond .eq 18, 3) := by decide +kernel
theorem dX9_readRelation_54 : decode cX9_readRelation 54 = .ok (.aload_n 0, 1) := by decide +kernel
theorem dX9_readRelation_55 : decode cX9_readRelation 55 = .ok (.getfield 38, 3) := by decide +kernel
theorem dX9_readRelation_58 : decode cX9_readRelation 58 = .ok (.iload_n 3, 1) := by decide +kernel
theorem dX9_readRelation_59 : decode cX9_readRelation 59 = .ok (.iaload, 1) := by decide +kernel
theorem dX9_readRelation_60 : decode cX9_readRelation 60 = .ok (.aload_n 0, 1) := by decide +kernel
theorem dX9_readRelation_61 : decode cX9_readRelation 61 = .ok (.getfield 35, 3) := by decide +kernel
theorem dX9_readRelation_64 : decode cX9_readRelation 64 = .ok (.iload_n 3, 1) := by decide +kernel
theorem dX9_readRelation_65 : decode cX9_readRelation 65 = .ok (.iaload, 1) := by decide +kernel
theorem dX9_readRelation_66 : decode cX9_readRelation 66 = .ok (.if_icmp .ne 7, 3) := by decide +kernel
theorem dX9_readRelation_69 : decode cX9_readRelation 69 = .ok (.iconst 1, 1) := by decide +kernel
theorem dX9_readRelation_70 : decode cX9_readRelation 70 = .ok (.goto 4, 3) := by decide +kernel
theorem dX9_readRelation_73 : decode cX9_readRelation 73 = .ok (.iconst 0, 1) := by decide +kernel
theorem dX9_readRelation_74 : decode cX9_readRelation 74 = .ok (.istore 5, 2) := by decide +kernel
theorem dX9_readRelation_76 : decode cX9_readRelation 76 = .ok (.iload 5, 2) := by decide +kernel
theorem dX9_readRelation_78 : decode cX9_readRelation 78 = .ok (.ifCond .ne 12, 3) := by decide +kernel
theorem dX9_readRelation_81 : decode cX9_readRelation 81 = .ok (.aload_n 0, 1) := by decide +kernel
theorem dX9_readRelation_82 : decode cX9_readRelation 82 = .ok (.iconst 3, 1) := by decide +kernel
theorem dX9_readRelation_83 : decode cX9_readRelation 83 = .ok (.aload_n 0, 1) := by decide +kernel
theorem dX9_readRelation_84 : decode cX9_readRelation 84 = .ok (.getfield 211, 3) := by decide +kernel
theorem dX9_readRelation_87 : decode cX9_readRelation 87 = .ok (.invokevirtual 291, 3) := by decide +kernel
theorem dX9_readRelation_90 : decode cX9_readRelation 90 = .ok (.aload_n 0, 1) := by decide +kernel
theorem dX9_readRelation_91 : decode cX9_readRelation 91 = .ok (.getfield 99, 3) := by decide +kernel
theorem dX9_readRelation_94 : decode cX9_readRelation 94 = .ok (.iload_n 1, 1) := by decide +kernel
theorem dX9_readRelation_95 : decode cX9_readRelation 95 = .ok (.iload 4, 2) := by decide +kernel
theorem dX9_readRelation_97 : decode cX9_readRelation 97 = .ok (.ifCond .eq 12, 3) := by decide +kernel
theorem dX9_readRelation_100 : decode cX9_readRelation 100 = .ok (.aload_n 0, 1) := by decide +kernel
theorem dX9_readRelation_101 : decode cX9_readRelation 101 = .ok (.getfield 99, 3) := by decide +kernel
theorem dX9_readRelation_104 : decode cX9_readRelation 104 = .ok (.iload_n 1, 1) := by decide +kernel
theorem dX9_readRelation_105 : decode cX9_readRelation 105 = .ok (.iaload, 1) := by decide +kernel
theorem dX9_readRelation_106 : decode cX9_readRelation 106 = .ok (.goto 20, 3) := by decide +kernel
theorem dX9_readRelation_109 : decode cX9_readRelation 109 = .ok (.aload_n 0, 1) := by decide +kernel
theorem dX9_readRelation_110 : decode cX9_readRelation 110 = .ok (.getfield 38, 3) := by decide +kernel
theorem dX9_readRelation_113 : decode cX9_readRelation 113 = .ok (.iload_n 3, 1) := by decide +kernel
theorem dX9_readRelation_114 : decode cX9_readRelation 114 = .ok (.iaload, 1) := by decide +kernel
theorem dX9_readRelation_115 : decode cX9_readRelation 115 = .ok (.iconst (-1), 1) := by decide +kernel
theorem dX9_readRelation_116 : decode cX9_readRelation 116 = .ok (.if_icmp .ne 8, 3) := by decide +kernel
theorem dX9_readRelation_119 : decode cX9_readRelation 119 = .ok (.bipush 11, 2) := by decide +kernel
theorem dX9_readRelation_121 : decode cX9_readRelation 121 = .ok (.goto 5, 3) := by decide +kernel
theorem dX9_readRelation_124 : decode cX9_readRelation 124 = .ok (.bipush 12, 2) := by decide +kernel
theorem dX9_readRelation_126 : decode cX9_readRelation 126 = .ok (.iastore, 1) := by decide +kernel
theorem dX9_readRelation_127 : decode cX9_readRelation 127 = .ok (.aload_n 0, 1) := by decide +kernel
theorem dX9_readRelation_128 : decode cX9_readRelation 128 = .ok (.getfield 102, 3) := by decide +kernel
theorem dX9_readRelation_131 : decode cX9_readRelation 131 = .ok (.iload_n 1, 1) := by decide +kernel
theorem dX9_readRelation_132 : decode cX9_readRelation 132 = .ok (.iload_n 3, 1) := by decide +kernel
theorem dX9_readRelation_133 : decode cX9_readRelation 133 = .ok (.iastore, 1) := by decide +kernel
theorem dX9_readRelation_134 : decode cX9_readRelation 134 = .ok (.aload_n 0, 1) := by decide +kernel
theorem dX9_readRelation_135 : decode cX9_readRelation 135 = .ok (.invokevirtual 295, 3) := by decide +kernel
theorem dX9_readRelation_138 : decode cX9_readRelation 138 = .ok (.aload_n 0, 1) := by decide +kernel
theorem dX9_readRelation_139 : decode cX9_readRelation 139 = .ok (.getfield 99, 3) := by decide +kernel
theorem dX9_readRelation_142 : decode cX9_readRelation 142 = .ok (.iload_n 1, 1) := by decide +kernel
theorem dX9_readRelation_143 : decode cX9_readRelation 143 = .ok (.iaload, 1) := by decide +kernel
theorem dX9_readRelation_144 : decode cX9_readRelation 144 = .ok (.bipush 10, 2) := by decide +kernel
theorem dX9_readRelation_146 : decode cX9_readRelation 146 = .ok (.if_icmp .ne 5, 3) := by decide +kernel
theorem dX9_readRelation_149 : decode cX9_readRelation 149 = .ok (.iconst 1, 1) := by decide +kernel
theorem dX9_readRelation_150 : decode cX9_readRelation 150 = .ok (.ireturn, 1) := by decide +kernel
theorem dX9_readRelation_151 : decode cX9_readRelation 151 = .ok (.aload_n 0, 1) := by decide +kernel
theorem dX9_readRelation_152 : decode cX9_readRelation 152 = .ok (.getfield 105, 3) := by decide +kernel
theorem dX9_readRelation_155 : decode cX9_readRelation 155 = .ok (.iload_n 1, 1) := by decide +kernel
theorem dX9_readRelation_156 : decode cX9_readRelation 156 = .ok (.aload_n 0, 1) := by decide +kernel
theorem dX9_readRelation_157 : decode cX9_readRelation 157 = .ok (.iload_n 2, 1) := by decide +kernel
theorem dX9_readRelation_158 : decode cX9_readRelation 158 = .ok (.iload 5, 2) := by decide +kernel
theorem dX9_readRelation_160 : decode cX9_readRelation 160 = .ok (.ifCond .eq 12, 3) := by decide +kernel
theorem dX9_readRelation_163 : decode cX9_readRelation 163 = .ok (.aload_n 0, 1) := by decide +kernel
theorem dX9_readRelation_164 : decode cX9_readRelation 164 = .ok (.getfield 35, 3) := by decide +kernel
theorem dX9_readRelation_167 : decode cX9_readRelation 167 = .ok (.iload_n 3, 1) := by decide +kernel
theorem dX9_readRelation_168 : decode cX9_readRelation 168 = .ok (.iaload, 1) := by decide +kernel
theorem dX9_readRelation_169 : decode cX9_readRelation 169 = .ok (.goto 4, 3) := by decide +kernel
theorem dX9_readRelation_172 : decode cX9_readRelation 172 = .ok (.iconst (-1), 1) := by decide +kernel
theorem dX9_readRelation_173 : decode cX9_readRelation 173 = .ok (.invokevirtual 307, 3) := by decide +kernel
theorem dX9_readRelation_176 : decode cX9_readRelation 176 = .ok (.iastore, 1) := by decide +kernel
theorem dX9_readRelation_177 : decode cX9_readRelation 177 = .ok (.aload_n 0, 1) := by decide +kernel
theorem dX9_readRelation_178 : decode cX9_readRelation 178 = .ok (.getfield 105, 3) := by decide +kernel
theorem dX9_readRelation_181 : decode cX9_readRelation 181 = .ok (.iload_n 1, 1) := by decide +kernel
theorem dX9_readRelation_182 : decode cX9_readRelation 182 = .ok (.iaload, 1) := by decide +kernel
theorem dX9_readRelation_183 : decode cX9_readRelation 183 = .ok (.iconst (-1), 1) := by decide +kernel
theorem dX9_readRelation_184 : decode cX9_readRelation 184 = .ok (.if_icmp .eq 14, 3) := by decide +kernel
theorem dX9_readRelation_187 : decode cX9_readRelation 187 = .ok (.aload_n 0, 1) := by decide +kernel
theorem dX9_readRelation_188 : decode cX9_readRelation 188 = .ok (.getfield 99, 3) := by decide +kernel
theorem dX9_readRelation_191 : decode cX9_readRelation 191 = .ok (.iload_n 1, 1) := by decide +kernel
theorem dX9_readRelation_192 : decode cX9_readRelation 192 = .ok (.iaload, 1) := by decide +kernel
theorem dX9_readRelation_193 : decode cX9_readRelation 193 = .ok (.bipush 11, 2) := by decide +kernel
theorem dX9_readRelation_195 : decode cX9_readRelation 195 = .ok (.if_icmp .ne 19, 3) := by decide +kernel
theorem dX9_readRelation_198 : decode cX9_readRelation 198 = .ok (.aload_n 0, 1) := by decide +kernel
theorem dX9_readRelation_199 : decode cX9_readRelation 199 = .ok (.getfield 105, 3) := by decide +kernel
theorem dX9_readRelation_202 : decode cX9_readRelation 202 = .ok (.iload_n 1, 1) := by decide +kernel
theorem dX9_readRelation_203 : decode cX9_readRelation 203 = .ok (.iaload, 1) := by decide +kernel
theorem dX9_readRelation_204 : decode cX9_readRelation 204 = .ok (.iconst (-1), 1) := by decide +kernel
theorem dX9_readRelation_205 : decode cX9_readRelation 205 = .ok (.if_icmp .eq 7, 3) := by decide +kernel
theorem dX9_readRelation_208 : decode cX9_readRelation 208 = .ok (.iconst 1, 1) := by decide +kernel
theorem dX9_readRelation_209 : decode cX9_readRelation 209 = .ok (.goto 4, 3) := by decide +kernel
theorem dX9_readRelation_212 : decode cX9_readRelation 212 = .ok (.iconst 0, 1) := by decide +kernel
theorem dX9_readRelation_213 : decode cX9_readRelation 213 = .ok (.ireturn, 1) := by decide +kernel
theorem dX9_readRelation_214 : decode cX9_readRelation 214 = .ok (.aload_n 0, 1) := by decide +kernel
theorem dX9_readRelation_215 : decode cX9_readRelation 215 = .ok (.getfield 108, 3) := by decide +kernel
theorem dX9_readRelation_218 : decode cX9_readRelation 218 = .ok (.iload_n 1, 1) := by decide +kernel
theorem dX9_readRelation_219 : decode cX9_readRelation 219 = .ok (.aload_n 0, 1) := by decide +kernel
theorem dX9_readRelation_220 : decode cX9_readRelation 220 = .ok (.iload_n 2, 1) := by decide +kernel
theorem dX9_readRelation_221 : decode cX9_readRelation 221 = .ok (.iload 5, 2) := by decide +kernel
theorem dX9_readRelation_223 : decode cX9_readRelation 223 = .ok (.ifCond .eq 12, 3) := by decide +kernel
theorem dX9_readRelation_226 : decode cX9_readRelation 226 = .ok (.aload_n 0, 1) := by decide +kernel
theorem dX9_readRelation_227 : decode cX9_readRelation 227 = .ok (.getfield 38, 3) := by decide +kernel
theorem dX9_readRelation_230 : decode cX9_readRelation 230 = .ok (.iload_n 3, 1) := by decide +kernel
theorem dX9_readRelation_231 : decode cX9_readRelation 231 = .ok (.iaload, 1) := by decide +kernel
theorem dX9_readRelation_232 : decode cX9_readRelation 232 = .ok (.goto 4, 3) := by decide +kernel
theorem dX9_readRelation_235 : decode cX9_readRelation 235 = .ok (.iconst (-1), 1) := by decide +kernel
theorem dX9_readRelation_236 : decode cX9_readRelation 236 = .ok (.invokevirtual 307, 3) := by decide +kernel
theorem dX9_readRelation_239 : decode cX9_readRelation 239 = .ok (.iastore, 1) := by decide +kernel
theorem dX9_readRelation_240 : decode cX9_readRelation 240 = .ok (.aload_n 0, 1) := by decide +kernel
theorem dX9_readRelation_241 : decode cX9_readRelation 241 = .ok (.getfield 108, 3) := by decide +kernel
theorem dX9_readRelation_244 : decode cX9_readRelation 244 = .ok (.iload_n 1, 1) := by decide +kernel
theorem dX9_readRelation_245 : decode cX9_readRelation 245 = .ok (.iaload, 1) := by decide +kernel
theorem dX9_readRelation_246 : decode cX9_readRelation 246 = .ok (.iconst (-1), 1) := by decide +kernel
theorem dX9_readRelation_247 : decode cX9_readRelation 247 = .ok (.if_icmp .eq 7, 3) := by decide +kernel
theorem dX9_readRelation_250 : decode cX9_readRelation 250 = .ok (.iconst 1, 1) := by decide +kernel
theorem dX9_readRelation_251 : decode cX9_readRelation 251 = .ok (.goto 4, 3) := by decide +kernel
theorem dX9_readRelation_254 : decode cX9_readRelation 254 = .ok (.iconst 0, 1) := by decide +kernel
theorem dX9_readRelation_255 : decode cX9_readRelation 255 = .ok (.ireturn, 1) := by decide +kernel
theorem dX9_readPart_0 : decode cX9_readPart 0 = .ok (.aload_n 0, 1) := by decide +kernel
theorem dX9_readPart_1 : decode cX9_readPart 1 = .ok (.getfield 313, 3) := by decide +kernel
theorem dX9_readPart_4 : decode cX9_readPart 4 = .ok (.bipush 40, 2) := by decide +kernel
theorem dX9_readPart_6 : decode cX9_readPart 6 = .ok (.if_icmp .ne 12, 3) := by decide +kernel
theorem dX9_readPart_9 : decode cX9_readPart 9 = .ok (.aload_n 0, 1) := by decide +kernel
theorem dX9_readPart_10 : decode cX9_readPart 10 = .ok (.iconst 4, 1) := by decide +kernel
theorem dX9_readPart_11 : decode cX9_readPart 11 = .ok (.aload_n 0, 1) := by decide +kernel
theorem dX9_readPart_12 : decode cX9_readPart 12 = .ok (.getfield 211, 3) := by decide +kernel
theorem dX9_readPart_15 : decode cX9_readPart 15 = .ok (.invokevirtual 291, 3) := by decide +kernel
theorem dX9_readPart_18 : decode cX9_readPart 18 = .ok (.aload_n 0, 1) := by decide +kernel
theorem dX9_readPart_19 : decode cX9_readPart 19 = .ok (.getfield 313, 3) := by decide +kernel
theorem dX9_readPart_22 : decode cX9_readPart 22 = .ok (.bipush 40, 2) := by decide +kernel
theorem dX9_readPart_24 : decode cX9_readPart 24 = .ok (.if_icmp .ge 10, 3) := by decide +kernel
theorem dX9_readPart_27 : decode cX9_readPart 27 = .ok (.aload_n 0, 1) := by decide +kernel
theorem dX9_readPart_28 : decode cX9_readPart 28 = .ok (.getfield 313, 3) := by decide +kernel
theorem dX9_readPart_31 : decode cX9_readPart 31 = .ok (.goto 5, 3) := by decide +kernel
theorem dX9_readPart_34 : decode cX9_readPart 34 = .ok (.bipush 40, 2) := by decide +kernel
theorem dX9_readPart_36 : decode cX9_readPart 36 = .ok (.istore_n 2, 1) := by decide +kernel
theorem dX9_readPart_37 : decode cX9_readPart 37 = .ok (.aload_n 0, 1) := by decide +kernel
theorem dX9_readPart_38 : decode cX9_readPart 38 = .ok (.dup, 1) := by decide +kernel
theorem dX9_readPart_39 : decode cX9_readPart 39 = .ok (.getfield 313, 3) := by decide +kernel
theorem dX9_readPart_42 : decode cX9_readPart 42 = .ok (.iconst 1, 1) := by decide +kernel
theorem dX9_readPart_43 : decode cX9_readPart 43 = .ok (.iadd, 1) := by decide +kernel
theorem dX9_readPart_44 : decode cX9_readPart 44 = .ok (.putfield 313, 3) := by decide +kernel
theorem dX9_readPart_47 : decode cX9_readPart 47 = .ok (.aload_n 0, 1) := by decide +kernel
theorem dX9_readPart_48 : decode cX9_readPart 48 = .ok (.getfield 99, 3) := by decide +kernel
theorem dX9_readPart_51 : decode cX9_readPart 51 = .ok (.iload_n 2, 1) := by decide +kernel
theorem dX9_readPart_52 : decode cX9_readPart 52 = .ok (.aload_n 0, 1) := by decide +kernel
theorem dX9_readPart_53 : decode cX9_readPart 53 = .ok (.invokevirtual 316, 3) := by decide +kernel
theorem dX9_readPart_56 : decode cX9_readPart 56 = .ok (.iastore, 1) := by decide +kernel
theorem dX9_readPart_57 : decode cX9_readPart 57 = .ok (.aload_n 0, 1) := by decide +kernel
theorem dX9_readPart_58 : decode cX9_readPart 58 = .ok (.getfield 99, 3) := by decide +kernel
theorem dX9_readPart_61 : decode cX9_readPart 61 = .ok (.iload_n 2, 1) := by decide +kernel
theorem dX9_readPart_62 : decode cX9_readPart 62 = .ok (.iaload, 1) := by decide +kernel
theorem dX9_readPart_63 : decode cX9_readPart 63 = .ok (.iconst (-1), 1) := by decide +kernel
theorem dX9_readPart_64 : decode cX9_readPart 64 = .ok (.if_icmp .ne 10, 3) := by decide +kernel
theorem dX9_readPart_67 : decode cX9_readPart 67 = .ok (.aload_n 0, 1) := by decide +kernel
theorem dX9_readPart_68 : decode cX9_readPart 68 = .ok (.iload_n 2, 1) := by decide +kernel
theorem dX9_readPart_69 : decode cX9_readPart 69 = .ok (.iload_n 1, 1) := by decide +kernel
theorem dX9_readPart_70 : decode cX9_readPart 70 = .ok (.invokevirtual 319, 3) := by decide +kernel
theorem dX9_readPart_73 : decode cX9_readPart 73 = .ok (.ireturn, 1) := by decide +kernel
theorem dX9_readPart_74 : decode cX9_readPart 74 = .ok (.aload_n 0, 1) := by decide +kernel
theorem dX9_readPart_75 : decode cX9_readPart 75 = .ok (.getfield 99, 3) := by decide +kernel
theorem dX9_readPart_78 : decode cX9_readPart 78 = .ok (.iload_n 2, 1) := by decide +kernel
theorem dX9_readPart_79 : decode cX9_readPart 79 = .ok (.iaload, 1) := by decide +kernel
theorem dX9_readPart_80 : decode cX9_readPart 80 = .ok (.iconst 3, 1) := by decide +kernel
theorem dX9_readPart_81 : decode cX9_readPart 81 = .ok (.if_icmp .gt 21, 3) := by decide +kernel
theorem dX9_readPart_84 : decode cX9_readPart 84 = .ok (.iload_n 1, 1) := by decide +kernel
theorem dX9_readPart_85 : decode cX9_readPart 85 = .ok (.sipush 256, 3) := by decide +kernel
theorem dX9_readPart_88 : decode cX9_readPart 88 = .ok (.idiv, 1) := by decide +kernel
theorem dX9_readPart_89 : decode cX9_readPart 89 = .ok (.iconst 4, 1) := by decide +kernel
theorem dX9_readPart_90 : decode cX9_readPart 90 = .ok (.if_icmp .lt 12, 3) := by decide +kernel
theorem dX9_readPart_93 : decode cX9_readPart 93 = .ok (.aload_n 0, 1) := by decide +kernel
theorem dX9_readPart_94 : decode cX9_readPart 94 = .ok (.iconst 5, 1) := by decide +kernel
theorem dX9_readPart_95 : decode cX9_readPart 95 = .ok (.aload_n 0, 1) := by decide +kernel
theorem dX9_readPart_96 : decode cX9_readPart 96 = .ok (.getfield 211, 3) := by decide +kernel
theorem dX9_readPart_99 : decode cX9_readPart 99 = .ok (.invokevirtual 291, 3) := by decide +kernel
theorem dX9_readPart_102 : decode cX9_readPart 102 = .ok (.aload_n 0, 1) := by decide +kernel
theorem dX9_readPart_103 : decode cX9_readPart 103 = .ok (.invokevirtual 295, 3) := by decide +kernel
theorem dX9_readPart_106 : decode cX9_readPart 106 = .ok (.aload_n 0, 1) := by decide +kernel
theorem dX9_readPart_107 : decode cX9_readPart 107 = .ok (.getfield 99, 3) := by decide +kernel
theorem dX9_readPart_110 : decode cX9_readPart 110 = .ok (.iload_n 2, 1) := by decide +kernel
theorem dX9_readPart_111 : decode cX9_readPart 111 = .ok (.iaload, 1) := by decide +kernel
theorem dX9_readPart_112 : decode cX9_readPart 112 = .ok (.iconst 3, 1) := by decide +kernel
theorem dX9_readPart_113 : decode cX9_readPart 113 = .ok (.if_icmp .gt 10, 3) := by decide +kernel
theorem dX9_readPart_116 : decode cX9_readPart 116 = .ok (.aload_n 0, 1) := by decide +kernel
theorem dX9_readPart_117 : decode cX9_readPart 117 = .ok (.iload_n 2, 1) := by decide +kernel
theorem dX9_readPart_118 : decode cX9_readPart 118 = .ok (.iload_n 1, 1) := by decide +kernel
theorem dX9_readPart_119 : decode cX9_readPart 119 = .ok (.invokevirtual 323, 3) := by decide +kernel
theorem dX9_readPart_122 : decode cX9_readPart 122 = .ok (.ireturn, 1) := by decide +kernel
theorem dX9_readPart_123 : decode cX9_readPart 123 = .ok (.aload_n 0, 1) := by decide +kernel
theorem dX9_readPart_124 : decode cX9_readPart 124 = .ok (.getfield 99, 3) := by decide +kernel
theorem dX9_readPart_127 : decode cX9_readPart 127 = .ok (.iload_n 2, 1) := by decide +kernel
theorem dX9_readPart_128 : decode cX9_readPart 128 = .ok (.iaload, 1) := by decide +kernel
theorem dX9_readPart_129 : decode cX9_readPart 129 = .ok (.bipush 8, 2) := by decide +kernel
theorem dX9_readPart_131 : decode cX9_readPart 131 = .ok (.if_icmp .ne 10, 3) := by decide +kernel
theorem dX9_readPart_134 : decode cX9_readPart 134 = .ok (.aload_n 0, 1) := by decide +kernel
theorem dX9_readPart_135 : decode cX9_readPart 135 = .ok (.iload_n 2, 1) := by decide +kernel
theorem dX9_readPart_136 : decode cX9_readPart 136 = .ok (.iload_n 1, 1) := by decide +kernel
theorem dX9_readPart_137 : decode cX9_readPart 137 = .ok (.invokevirtual 326, 3) := by decide +kernel
theorem dX9_readPart_140 : decode cX9_readPart 140 = .ok (.ireturn, 1) := by decide +kernel
theorem dX9_readPart_141 : decode cX9_readPart 141 = .ok (.aload_n 0, 1) := by decide +kernel
theorem dX9_readPart_142 : decode cX9_readPart 142 = .ok (.getfield 99, 3) := by decide +kernel
theorem dX9_readPart_145 : decode cX9_readPart 145 = .ok (.iload_n 2, 1) := by decide +kernel
theorem dX9_readPart_146 : decode cX9_readPart 146 = .ok (.iaload, 1) := by decide +kernel
theorem dX9_readPart_147 : decode cX9_readPart 147 = .ok (.bipush 9, 2) := by decide +kernel
theorem dX9_readPart_149 : decode cX9_readPart 149 = .ok (.if_icmp .lt 10, 3) := by decide +kernel
theorem dX9_readPart_152 : decode cX9_readPart 152 = .ok (.aload_n 0, 1) := by decide +kernel
theorem dX9_readPart_153 : decode cX9_readPart 153 = .ok (.iload_n 2, 1) := by decide +kernel
theorem dX9_readPart_154 : decode cX9_readPart 154 = .ok (.iload_n 1, 1) := by decide +kernel
theorem dX9_readPart_155 : decode cX9_readPart 155 = .ok (.invokevirtual 319, 3) := by decide +kernel
theorem dX9_readPart_158 : decode cX9_readPart 158 = .ok (.ireturn, 1) := by decide +kernel
theorem dX9_readPart_159 : decode cX9_readPart 159 = .ok (.aload_n 0, 1) := by decide +kernel
theorem dX9_readPart_160 : decode cX9_readPart 160 = .ok (.iload_n 1, 1) := by decide +kernel
theorem dX9_readPart_161 : decode cX9_readPart 161 = .ok (.invokevirtual 304, 3) := by decide +kernel
theorem dX9_readPart_164 : decode cX9_readPart 164 = .ok (.aload_n 0, 1) := by decide +kernel
theorem dX9_readPart_165 : decode cX9_readPart 165 = .ok (.getfield 99, 3) := by decide +kernel
theorem dX9_readPart_168 : decode cX9_readPart 168 = .ok (.iload_n 2, 1) := by decide +kernel
theorem dX9_readPart_169 : decode cX9_readPart 169 = .ok (.iaload, 1) := by decide +kernel
theorem dX9_readPart_170 : decode cX9_readPart 170 = .ok (.iconst 4, 1) := by decide +kernel
theorem dX9_readPart_171 : decode cX9_readPart 171 = .ok (.if_icmp .eq 8, 3) := by decide +kernel
theorem dX9_readPart_174 : decode cX9_readPart 174 = .ok (.aload_n 0, 1) := by decide +kernel
theorem dX9_readPart_175 : decode cX9_readPart 175 = .ok (.iload_n 1, 1) := by decide +kernel
theorem dX9_readPart_176 : decode cX9_readPart 176 = .ok (.invokevirtual 304, 3) := by decide +kernel
theorem dX9_readPart_179 : decode cX9_readPart 179 = .ok (.iconst 1, 1) := by decide +kernel
theorem dX9_readPart_180 : decode cX9_readPart 180 = .ok (.ireturn, 1) := by decide +kernel
theorem dX9_readText_0 : decode cX9_readText 0 = .ok (.aload_n 0, 1) := by decide +kernel
theorem dX9_readText_1 : decode cX9_readText 1 = .ok (.aload_n 0, 1) := by decide +kernel
theorem dX9_readText_2 : decode cX9_readText 2 = .ok (.getfield 13, 3) := by decide +kernel
theorem dX9_readText_5 : decode cX9_readText 5 = .ok (.iconst 0, 1) := by decide +kernel
theorem dX9_readText_6 : decode cX9_readText 6 = .ok (.iaload, 1) := by decide +kernel
theorem dX9_readText_7 : decode cX9_readText 7 = .ok (.putfield 205, 3) := by decide +kernel
theorem dX9_readText_10 : decode cX9_readText 10 = .ok (.aload_n 0, 1) := by decide +kernel
theorem dX9_readText_11 : decode cX9_readText 11 = .ok (.getfield 13, 3) := by decide +kernel
theorem dX9_readText_14 : decode cX9_readText 14 = .ok (.iconst 0, 1) := by decide +kernel
theorem dX9_readText_15 : decode cX9_readText 15 = .ok (.iconst 0, 1) := by decide +kernel
theorem dX9_readText_16 : decode cX9_readText 16 = .ok (.iastore, 1) := by decide +kernel
theorem dX9_readText_17 : decode cX9_readText 17 = .ok (.aload_n 0, 1) := by decide +kernel
theorem dX9_readText_18 : decode cX9_readText 18 = .ok (.getfield 17, 3) := by decide +kernel
theorem dX9_readText_21 : decode cX9_readText 21 = .ok (.iconst 0, 1) := by decide +kernel
theorem dX9_readText_22 : decode cX9_readText 22 = .ok (.iconst 0, 1) := by decide +kernel
theorem dX9_readText_23 : decode cX9_readText 23 = .ok (.iastore, 1) := by decide +kernel
theorem dX9_readText_24 : decode cX9_readText 24 = .ok (.aload_n 0, 1) := by decide +kernel
theorem dX9_readText_25 : decode cX9_readText 25 = .ok (.getfield 20, 3) := by decide +kernel
theorem dX9_readText_28 : decode cX9_readText 28 = .ok (.iconst 0, 1) := by decide +kernel
theorem dX9_readText_29 : decode cX9_readText 29 = .ok (.iconst (-1), 1) := by decide +kernel
theorem dX9_readText_30 : decode cX9_readText 30 = .ok (.iastore, 1) := by decide +kernel
theorem dX9_readText_31 : decode cX9_readText 31 = .ok (.aload_n 0, 1) := by decide +kernel
theorem dX9_readText_32 : decode cX9_readText 32 = .ok (.iconst 0, 1) := by decide +kernel
theorem dX9_readText_33 : decode cX9_readText 33 = .ok (.putfield 202, 3) := by decide +kernel
theorem dX9_readText_36 : decode cX9_readText 36 = .ok (.aload_n 0, 1) := by decide +kernel
theorem dX9_readText_37 : decode cX9_readText 37 = .ok (.iconst (-1), 1) := by decide +kernel
theorem dX9_readText_38 : decode cX9_readText 38 = .ok (.putfield 272, 3) := by decide +kernel
theorem dX9_readText_41 : decode cX9_readText 41 = .ok (.aload_n 0, 1) := by decide +kernel
theorem dX9_readText_42 : decode cX9_readText 42 = .ok (.iconst 0, 1) := by decide +kernel
theorem dX9_readText_43 : decode cX9_readText 43 = .ok (.putfield 275, 3) := by decide +kernel
theorem dX9_readText_46 : decode cX9_readText 46 = .ok (.aload_n 0, 1) := by decide +kernel
theorem dX9_readText_47 : decode cX9_readText 47 = .ok (.iconst 0, 1) := by decide +kernel
theorem dX9_readText_48 : decode cX9_readText 48 = .ok (.putfield 278, 3) := by decide +kernel
theorem dX9_readText_51 : decode cX9_readText 51 = .ok (.aload_n 0, 1) := by decide +kernel
theorem dX9_readText_52 : decode cX9_readText 52 = .ok (.iconst 0, 1) := by decide +kernel
theorem dX9_readText_53 : decode cX9_readText 53 = .ok (.putfield 298, 3) := by decide +kernel
theorem dX9_readText_56 : decode cX9_readText 56 = .ok (.aload_n 0, 1) := by decide +kernel
theorem dX9_readText_57 : decode cX9_readText 57 = .ok (.iconst 0, 1) := by decide +kernel
theorem dX9_readText_58 : decode cX9_readText 58 = .ok (.putfield 313, 3) := by decide +kernel
theorem dX9_readText_61 : decode cX9_readText 61 = .ok (.aload_n 0, 1) := by decide +kernel
theorem dX9_readText_62 : decode cX9_readText 62 = .ok (.sipush 255, 3) := by decide +kernel
theorem dX9_readText_65 : decode cX9_readText 65 = .ok (.invokevirtual 304, 3) := by decide +kernel
theorem dX9_readText_68 : decode cX9_readText 68 = .ok (.aload_n 0, 1) := by decide +kernel
theorem dX9_readText_69 : decode cX9_readText 69 = .ok (.invokevirtual 295, 3) := by decide +kernel
theorem dX9_readText_72 : decode cX9_readText 72 = .ok (.iconst 1, 1) := by decide +kernel
theorem dX9_readText_73 : decode cX9_readText 73 = .ok (.istore_n 1, 1) := by decide +kernel
theorem dX9_readText_74 : decode cX9_readText 74 = .ok (.iload_n 1, 1) := by decide +kernel
theorem dX9_readText_75 : decode cX9_readText 75 = .ok (.ifCond .eq 37, 3) := by decide +kernel
theorem dX9_readText_78 : decode cX9_readText 78 = .ok (.aload_n 0, 1) := by decide +kernel
theorem dX9_readText_79 : decode cX9_readText 79 = .ok (.getfield 298, 3) := by decide +kernel
theorem dX9_readText_82 : decode cX9_readText 82 = .ok (.ifCond .le 30, 3) := by decide +kernel
theorem dX9_readText_85 : decode cX9_readText 85 = .ok (.aload_n 0, 1) := by decide +kernel
theorem dX9_readText_86 : decode cX9_readText 86 = .ok (.dup, 1) := by decide +kernel
theorem dX9_readText_87 : decode cX9_readText 87 = .ok (.getfield 298, 3) := by decide +kernel
theorem dX9_readText_90 : decode cX9_readText 90 = .ok (.iconst 1, 1) := by decide +kernel
theorem dX9_readText_91 : decode cX9_readText 91 = .ok (.isub, 1) := by decide +kernel
theorem dX9_readText_92 : decode cX9_readText 92 = .ok (.putfield 298, 3) := by decide +kernel
theorem dX9_readText_95 : decode cX9_readText 95 = .ok (.aload_n 0, 1) := by decide +kernel
theorem dX9_readText_96 : decode cX9_readText 96 = .ok (.aload_n 0, 1) := by decide +kernel
theorem dX9_readText_97 : decode cX9_readText 97 = .ok (.getfield 96, 3) := by decide +kernel
theorem dX9_readText_100 : decode cX9_readText 100 = .ok (.aload_n 0, 1) := by decide +kernel
theorem dX9_readText_101 : decode cX9_readText 101 = .ok (.getfield 298, 3) := by decide +kernel
theorem dX9_readText_104 : decode cX9_readText 104 = .ok (.iaload, 1) := by decide +kernel
theorem dX9_readText_105 : decode cX9_readText 105 = .ok (.invokevirtual 329, 3) := by decide +kernel
theorem dX9_readText_108 : decode cX9_readText 108 = .ok (.istore_n 1, 1) := by decide +kernel
theorem dX9_readText_109 : decode cX9_readText 109 = .ok (.goto (-35), 3) := by decide +kernel
theorem dX9_readText_112 : decode cX9_readText 112 = .ok (.iload_n 1, 1) := by decide +kernel
theorem dX9_readText_113 : decode cX9_readText 113 = .ok (.ifCond .eq 20, 3) := by decide +kernel
theorem dX9_readText_116 : decode cX9_readText 116 = .ok (.aload_n 0, 1) := by decide +kernel
theorem dX9_readText_117 : decode cX9_readText 117 = .ok (.getfield 221, 3) := by decide +kernel
theorem dX9_readText_120 : decode cX9_readText 120 = .ok (.ifCond .eq 13, 3) := by decide +kernel
theorem dX9_readText_123 : decode cX9_readText 123 = .ok (.aload_n 0, 1) := by decide +kernel
theorem dX9_readText_124 : decode cX9_readText 124 = .ok (.aload_n 0, 1) := by decide +kernel
theorem dX9_readText_125 : decode cX9_readText 125 = .ok (.getfield 211, 3) := by decide +kernel
theorem dX9_readText_128 : decode cX9_readText 128 = .ok (.putfield 272, 3) := by decide +kernel
theorem dX9_readText_131 : decode cX9_readText 131 = .ok (.iconst 0, 1) := by decide +kernel
theorem dX9_readText_132 : decode cX9_readText 132 = .ok (.istore_n 1, 1) := by decide +kernel
theorem dX9_readText_133 : decode cX9_readText 133 = .ok (.aload_n 0, 1) := by decide +kernel
theorem dX9_readText_134 : decode cX9_readText 134 = .ok (.getfield 17, 3) := by decide +kernel
theorem dX9_readText_137 : decode cX9_readText 137 = .ok (.iconst 0, 1) := by decide +kernel
theorem dX9_readText_138 : decode cX9_readText 138 = .ok (.iload_n 1, 1) := by decide +kernel
theorem dX9_readText_139 : decode cX9_readText 139 = .ok (.ifCond .ne 7, 3) := by decide +kernel
theorem dX9_readText_142 : decode cX9_readText 142 = .ok (.iconst 1, 1) := by decide +kernel
theorem dX9_readText_143 : decode cX9_readText 143 = .ok (.goto 7, 3) := by decide +kernel
theorem dX9_readText_146 : decode cX9_readText 146 = .ok (.aload_n 0, 1) := by decide +kernel
theorem dX9_readText_147 : decode cX9_readText 147 = .ok (.getfield 275, 3) := by decide +kernel
theorem dX9_readText_150 : decode cX9_readText 150 = .ok (.iastore, 1) := by decide +kernel
theorem dX9_readText_151 : decode cX9_readText 151 = .ok (.aload_n 0, 1) := by decide +kernel
theorem dX9_readText_152 : decode cX9_readText 152 = .ok (.getfield 20, 3) := by decide +kernel
theorem dX9_readText_155 : decode cX9_readText 155 = .ok (.iconst 0, 1) := by decide +kernel
theorem dX9_readText_156 : decode cX9_readText 156 = .ok (.iload_n 1, 1) := by decide +kernel
theorem dX9_readText_157 : decode cX9_readText 157 = .ok (.ifCond .ne 10, 3) := by decide +kernel
theorem dX9_readText_160 : decode cX9_readText 160 = .ok (.aload_n 0, 1) := by decide +kernel
theorem dX9_readText_161 : decode cX9_readText 161 = .ok (.getfield 272, 3) := by decide +kernel
theorem dX9_readText_164 : decode cX9_readText 164 = .ok (.goto 18, 3) := by decide +kernel
theorem dX9_readText_167 : decode cX9_readText 167 = .ok (.aload_n 0, 1) := by decide +kernel
theorem dX9_readText_168 : decode cX9_readText 168 = .ok (.getfield 275, 3) := by decide +kernel
theorem dX9_readText_171 : decode cX9_readText 171 = .ok (.ifCond .le 10, 3) := by decide +kernel
theorem dX9_readText_174 : decode cX9_readText 174 = .ok (.aload_n 0, 1) := by decide +kernel
theorem dX9_readText_175 : decode cX9_readText 175 = .ok (.getfield 278, 3) := by decide +kernel
theorem dX9_readText_178 : decode cX9_readText 178 = .ok (.goto 4, 3) := by decide +kernel
theorem dX9_readText_181 : decode cX9_readText 181 = .ok (.iconst (-1), 1) := by decide +kernel
theorem dX9_readText_182 : decode cX9_readText 182 = .ok (.iastore, 1) := by decide +kernel
theorem dX9_readText_183 : decode cX9_readText 183 = .ok (.aload_n 0, 1) := by decide +kernel
theorem dX9_readText_184 : decode cX9_readText 184 = .ok (.getfield 17, 3) := by decide +kernel
theorem dX9_readText_187 : decode cX9_readText 187 = .ok (.iconst 0, 1) := by decide +kernel
theorem dX9_readText_188 : decode cX9_readText 188 = .ok (.iaload, 1) := by decide +kernel
theorem dX9_readText_189 : decode cX9_readText 189 = .ok (.ifCond .ne 7, 3) := by decide +kernel
theorem dX9_readText_192 : decode cX9_readText 192 = .ok (.iconst 1, 1) := by decide +kernel
theorem dX9_readText_193 : decode cX9_readText 193 = .ok (.goto 4, 3) := by decide +kernel
theorem dX9_readText_196 : decode cX9_readText 196 = .ok (.iconst 0, 1) := by decide +kernel
theorem dX9_readText_197 : decode cX9_readText 197 = .ok (.ireturn, 1) := by decide +kernel
theorem dX9_keepText_0 : decode cX9_keepText 0 = .ok (.aload_n 0, 1) := by decide +kernel
theorem dX9_keepText_1 : decode cX9_keepText 1 = .ok (.getfield 54, 3) := by decide +kernel
theorem dX9_keepText_4 : decode cX9_keepText 4 = .ok (.iload_n 1, 1) := by decide +kernel
theorem dX9_keepText_5 : decode cX9_keepText 5 = .ok (.aload_n 0, 1) := by decide +kernel
theorem dX9_keepText_6 : decode cX9_keepText 6 = .ok (.getfield 313, 3) := by decide +kernel
theorem dX9_keepText_9 : decode cX9_keepText 9 = .ok (.iastore, 1) := by decide +kernel
theorem dX9_keepText_10 : decode cX9_keepText 10 = .ok (.iconst 0, 1) := by decide +kernel
theorem dX9_keepText_11 : decode cX9_keepText 11 = .ok (.istore_n 2, 1) := by decide +kernel
theorem dX9_keepText_12 : decode cX9_keepText 12 = .ok (.iload_n 2, 1) := by decide +kernel
theorem dX9_keepText_13 : decode cX9_keepText 13 = .ok (.aload_n 0, 1) := by decide +kernel
theorem dX9_keepText_14 : decode cX9_keepText 14 = .ok (.getfield 313, 3) := by decide +kernel
theorem dX9_keepText_17 : decode cX9_keepText 17 = .ok (.if_icmp .ge 77, 3) := by decide +kernel
theorem dX9_keepText_20 : decode cX9_keepText 20 = .ok (.aload_n 0, 1) := by decide +kernel
theorem dX9_keepText_21 : decode cX9_keepText 21 = .ok (.getfield 57, 3) := by decide +kernel
theorem dX9_keepText_24 : decode cX9_keepText 24 = .ok (.bipush 40, 2) := by decide +kernel
theorem dX9_keepText_26 : decode cX9_keepText 26 = .ok (.iload_n 1, 1) := by decide +kernel
theorem dX9_keepText_27 : decode cX9_keepText 27 = .ok (.imul, 1) := by decide +kernel
theorem dX9_keepText_28 : decode cX9_keepText 28 = .ok (.iload_n 2, 1) := by decide +kernel
theorem dX9_keepText_29 : decode cX9_keepText 29 = .ok (.iadd, 1) := by decide +kernel
theorem dX9_keepText_30 : decode cX9_keepText 30 = .ok (.aload_n 0, 1) := by decide +kernel
theorem dX9_keepText_31 : decode cX9_keepText 31 = .ok (.getfield 99, 3) := by decide +kernel
theorem dX9_keepText_34 : decode cX9_keepText 34 = .ok (.iload_n 2, 1) := by decide +kernel
theorem dX9_keepText_35 : decode cX9_keepText 35 = .ok (.iaload, 1) := by decide +kernel
theorem dX9_keepText_36 : decode cX9_keepText 36 = .ok (.iastore, 1) := by decide +kernel
theorem dX9_keepText_37 : decode cX9_keepText 37 = .ok (.aload_n 0, 1) := by decide +kernel
theorem dX9_keepText_38 : decode cX9_keepText 38 = .ok (.getfield 60, 3) := by decide +kernel
theorem dX9_keepText_41 : decode cX9_keepText 41 = .ok (.bipush 40, 2) := by decide +kernel
theorem dX9_keepText_43 : decode cX9_keepText 43 = .ok (.iload_n 1, 1) := by decide +kernel
theorem dX9_keepText_44 : decode cX9_keepText 44 = .ok (.imul, 1) := by decide +kernel
theorem dX9_keepText_45 : decode cX9_keepText 45 = .ok (.iload_n 2, 1) := by decide +kernel
theorem dX9_keepText_46 : decode cX9_keepText 46 = .ok (.iadd, 1) := by decide +kernel
theorem dX9_keepText_47 : decode cX9_keepText 47 = .ok (.aload_n 0, 1) := by decide +kernel
theorem dX9_keepText_48 : decode cX9_keepText 48 = .ok (.getfield 102, 3) := by decide +kernel
theorem dX9_keepText_51 : decode cX9_keepText 51 = .ok (.iload_n 2, 1) := by decide +kernel
theorem dX9_keepText_52 : decode cX9_keepText 52 = .ok (.iaload, 1) := by decide +kernel
theorem dX9_keepText_53 : decode cX9_keepText 53 = .ok (.iastore, 1) := by decide +kernel
theorem dX9_keepText_54 : decode cX9_keepText 54 = .ok (.aload_n 0, 1) := by decide +kernel
theorem dX9_keepText_55 : decode cX9_keepText 55 = .ok (.getfield 63, 3) := by decide +kernel
theorem dX9_keepText_58 : decode cX9_keepText 58 = .ok (.bipush 40, 2) := by decide +kernel
theorem dX9_keepText_60 : decode cX9_keepText 60 = .ok (.iload_n 1, 1) := by decide +kernel
theorem dX9_keepText_61 : decode cX9_keepText 61 = .ok (.imul, 1) := by decide +kernel
theorem dX9_keepText_62 : decode cX9_keepText 62 = .ok (.iload_n 2, 1) := by decide +kernel
theorem dX9_keepText_63 : decode cX9_keepText 63 = .ok (.iadd, 1) := by decide +kernel
theorem dX9_keepText_64 : decode cX9_keepText 64 = .ok (.aload_n 0, 1) := by decide +kernel
theorem dX9_keepText_65 : decode cX9_keepText 65 = .ok (.getfield 105, 3) := by decide +kernel
theorem dX9_keepText_68 : decode cX9_keepText 68 = .ok (.iload_n 2, 1) := by decide +kernel
theorem dX9_keepText_69 : decode cX9_keepText 69 = .ok (.iaload, 1) := by decide +kernel
theorem dX9_keepText_70 : decode cX9_keepText 70 = .ok (.iastore, 1) := by decide +kernel
theorem dX9_keepText_71 : decode cX9_keepText 71 = .ok (.aload_n 0, 1) := by decide +kernel
theorem dX9_keepText_72 : decode cX9_keepText 72 = .ok (.getfield 66, 3) := by decide +kernel
theorem dX9_keepText_75 : decode cX9_keepText 75 = .ok (.bipush 40, 2) := by decide +kernel
theorem dX9_keepText_77 : decode cX9_keepText 77 = .ok (.iload_n 1, 1) := by decide +kernel
theorem dX9_keepText_78 : decode cX9_keepText 78 = .ok (.imul, 1) := by decide +kernel
theorem dX9_keepText_79 : decode cX9_keepText 79 = .ok (.iload_n 2, 1) := by decide +kernel
theorem dX9_keepText_80 : decode cX9_keepText 80 = .ok (.iadd, 1) := by decide +kernel
theorem dX9_keepText_81 : decode cX9_keepText 81 = .ok (.aload_n 0, 1) := by decide +kernel
theorem dX9_keepText_82 : decode cX9_keepText 82 = .ok (.getfield 108, 3) := by decide +kernel
theorem dX9_keepText_85 : decode cX9_keepText 85 = .ok (.iload_n 2, 1) := by decide +kernel
theorem dX9_keepText_86 : decode cX9_keepText 86 = .ok (.iaload, 1) := by decide +kernel
theorem dX9_keepText_87 : decode cX9_keepText 87 = .ok (.iastore, 1) := by decide +kernel
theorem dX9_keepText_88 : decode cX9_keepText 88 = .ok (.iinc 2 1, 3) := by decide +kernel
theorem dX9_keepText_91 : decode cX9_keepText 91 = .ok (.goto (-79), 3) := by decide +kernel
theorem dX9_keepText_94 : decode cX9_keepText 94 = .ok (.return_, 1) := by decide +kernel
theorem dX9_story_0 : decode cX9_story 0 = .ok (.aload_n 0, 1) := by decide +kernel
theorem dX9_story_1 : decode cX9_story 1 = .ok (.iconst 0, 1) := by decide +kernel
theorem dX9_story_2 : decode cX9_story 2 = .ok (.putfield 142, 3) := by decide +kernel
theorem dX9_story_5 : decode cX9_story 5 = .ok (.aload_n 0, 1) := by decide +kernel
theorem dX9_story_6 : decode cX9_story 6 = .ok (.getfield 45, 3) := by decide +kernel
theorem dX9_story_9 : decode cX9_story 9 = .ok (.iconst 0, 1) := by decide +kernel
theorem dX9_story_10 : decode cX9_story 10 = .ok (.iaload, 1) := by decide +kernel
theorem dX9_story_11 : decode cX9_story 11 = .ok (.bipush 8, 2) := by decide +kernel
theorem dX9_story_13 : decode cX9_story 13 = .ok (.if_icmp .ne 27, 3) := by decide +kernel
theorem dX9_story_16 : decode cX9_story 16 = .ok (.aload_n 0, 1) := by decide +kernel
theorem dX9_story_17 : decode cX9_story 17 = .ok (.getfield 13, 3) := by decide +kernel
theorem dX9_story_20 : decode cX9_story 20 = .ok (.iconst 0, 1) := by decide +kernel
theorem dX9_story_21 : decode cX9_story 21 = .ok (.iconst 0, 1) := by decide +kernel
theorem dX9_story_22 : decode cX9_story 22 = .ok (.iastore, 1) := by decide +kernel
theorem dX9_story_23 : decode cX9_story 23 = .ok (.aload_n 0, 1) := by decide +kernel
theorem dX9_story_24 : decode cX9_story 24 = .ok (.getfield 17, 3) := by decide +kernel
theorem dX9_story_27 : decode cX9_story 27 = .ok (.iconst 0, 1) := by decide +kernel
theorem dX9_story_28 : decode cX9_story 28 = .ok (.iconst 0, 1) := by decide +kernel
theorem dX9_story_29 : decode cX9_story 29 = .ok (.iastore, 1) := by decide +kernel
theorem dX9_story_30 : decode cX9_story 30 = .ok (.aload_n 0, 1) := by decide +kernel
theorem dX9_story_31 : decode cX9_story 31 = .ok (.getfield 20, 3) := by decide +kernel
theorem dX9_story_34 : decode cX9_story 34 = .ok (.iconst 0, 1) := by decide +kernel
theorem dX9_story_35 : decode cX9_story 35 = .ok (.iconst (-1), 1) := by decide +kernel
theorem dX9_story_36 : decode cX9_story 36 = .ok (.iastore, 1) := by decide +kernel
theorem dX9_story_37 : decode cX9_story 37 = .ok (.bipush (-2), 2) := by decide +kernel
theorem dX9_story_39 : decode cX9_story 39 = .ok (.ireturn, 1) := by decide +kernel
theorem dX9_story_40 : decode cX9_story 40 = .ok (.aload_n 0, 1) := by decide +kernel
theorem dX9_story_41 : decode cX9_story 41 = .ok (.invokevirtual 332, 3) := by decide +kernel
theorem dX9_story_44 : decode cX9_story 44 = .ok (.ifCond .ne 5, 3) := by decide +kernel
theorem dX9_story_47 : decode cX9_story 47 = .ok (.iconst (-1), 1) := by decide +kernel
theorem dX9_story_48 : decode cX9_story 48 = .ok (.ireturn, 1) := by decide +kernel
theorem dX9_story_49 : decode cX9_story 49 = .ok (.aload_n 0, 1) := by decide +kernel
theorem dX9_story_50 : decode cX9_story 50 = .ok (.getfield 45, 3) := by decide +kernel
theorem dX9_story_53 : decode cX9_story 53 = .ok (.iconst 0, 1) := by decide +kernel
theorem dX9_story_54 : decode cX9_story 54 = .ok (.iaload, 1) := by decide +kernel
theorem dX9_story_55 : decode cX9_story 55 = .ok (.istore_n 1, 1) := by decide +kernel
theorem dX9_story_56 : decode cX9_story 56 = .ok (.aload_n 0, 1) := by decide +kernel
theorem dX9_story_57 : decode cX9_story 57 = .ok (.getfield 45, 3) := by decide +kernel
theorem dX9_story_60 : decode cX9_story 60 = .ok (.iconst 0, 1) := by decide +kernel
theorem dX9_story_61 : decode cX9_story 61 = .ok (.dup2, 1) := by decide +kernel
theorem dX9_story_62 : decode cX9_story 62 = .ok (.iaload, 1) := by decide +kernel
theorem dX9_story_63 : decode cX9_story 63 = .ok (.iconst 1, 1) := by decide +kernel
theorem dX9_story_64 : decode cX9_story 64 = .ok (.iadd, 1) := by decide +kernel
theorem dX9_story_65 : decode cX9_story 65 = .ok (.iastore, 1) := by decide +kernel
theorem dX9_story_66 : decode cX9_story 66 = .ok (.aload_n 0, 1) := by decide +kernel
theorem dX9_story_67 : decode cX9_story 67 = .ok (.iload_n 1, 1) := by decide +kernel
theorem dX9_story_68 : decode cX9_story 68 = .ok (.invokevirtual 335, 3) := by decide +kernel
theorem dX9_story_71 : decode cX9_story 71 = .ok (.aload_n 0, 1) := by decide +kernel
theorem dX9_story_72 : decode cX9_story 72 = .ok (.getfield 48, 3) := by decide +kernel
theorem dX9_story_75 : decode cX9_story 75 = .ok (.iload_n 1, 1) := by decide +kernel
theorem dX9_story_76 : decode cX9_story 76 = .ok (.aload_n 0, 1) := by decide +kernel
theorem dX9_story_77 : decode cX9_story 77 = .ok (.getfield 23, 3) := by decide +kernel
theorem dX9_story_80 : decode cX9_story 80 = .ok (.iconst 0, 1) := by decide +kernel
theorem dX9_story_81 : decode cX9_story 81 = .ok (.iaload, 1) := by decide +kernel
theorem dX9_story_82 : decode cX9_story 82 = .ok (.iastore, 1) := by decide +kernel
theorem dX9_story_83 : decode cX9_story 83 = .ok (.aload_n 0, 1) := by decide +kernel
theorem dX9_story_84 : decode cX9_story 84 = .ok (.getfield 51, 3) := by decide +kernel
theorem dX9_story_87 : decode cX9_story 87 = .ok (.iload_n 1, 1) := by decide +kernel
theorem dX9_story_88 : decode cX9_story 88 = .ok (.iconst (-1), 1) := by decide +kernel
theorem dX9_story_89 : decode cX9_story 89 = .ok (.iastore, 1) := by decide +kernel
theorem dX9_story_90 : decode cX9_story 90 = .ok (.iload_n 1, 1) := by decide +kernel
theorem dX9_story_91 : decode cX9_story 91 = .ok (.ireturn, 1) := by decide +kernel
theorem dX9_guess_0 : decode cX9_guess 0 = .ok (.aload_n 0, 1) := by decide +kernel
theorem dX9_guess_1 : decode cX9_guess 1 = .ok (.iconst 0, 1) := by decide +kernel
theorem dX9_guess_2 : decode cX9_guess 2 = .ok (.putfield 142, 3) := by decide +kernel
theorem dX9_guess_5 : decode cX9_guess 5 = .ok (.aload_n 0, 1) := by decide +kernel
theorem dX9_guess_6 : decode cX9_guess 6 = .ok (.invokevirtual 332, 3) := by decide +kernel
theorem dX9_guess_9 : decode cX9_guess 9 = .ok (.ifCond .ne 5, 3) := by decide +kernel
theorem dX9_guess_12 : decode cX9_guess 12 = .ok (.iconst (-1), 1) := by decide +kernel
theorem dX9_guess_13 : decode cX9_guess 13 = .ok (.ireturn, 1) := by decide +kernel
theorem dX9_guess_14 : decode cX9_guess 14 = .ok (.aload_n 0, 1) := by decide +kernel
theorem dX9_guess_15 : decode cX9_guess 15 = .ok (.bipush 8, 2) := by decide +kernel
theorem dX9_guess_17 : decode cX9_guess 17 = .ok (.invokevirtual 335, 3) := by decide +kernel
theorem dX9_guess_20 : decode cX9_guess 20 = .ok (.aload_n 0, 1) := by decide +kernel
theorem dX9_guess_21 : decode cX9_guess 21 = .ok (.getfield 313, 3) := by decide +kernel
theorem dX9_guess_24 : decode cX9_guess 24 = .ok (.ireturn, 1) := by decide +kernel
theorem dX9_fault_0 : decode cX9_fault 0 = .ok (.aload_n 0, 1) := by decide +kernel
theorem dX9_fault_1 : decode cX9_fault 1 = .ok (.iconst 0, 1) := by decide +kernel
theorem dX9_fault_2 : decode cX9_fault 2 = .ok (.putfield 142, 3) := by decide +kernel
theorem dX9_fault_5 : decode cX9_fault 5 = .ok (.iload_n 1, 1) := by decide +kernel
theorem dX9_fault_6 : decode cX9_fault 6 = .ok (.ifCond .ne 12, 3) := by decide +kernel
theorem dX9_fault_9 : decode cX9_fault 9 = .ok (.aload_n 0, 1) := by decide +kernel
theorem dX9_fault_10 : decode cX9_fault 10 = .ok (.getfield 17, 3) := by decide +kernel
theorem dX9_fault_13 : decode cX9_fault 13 = .ok (.iconst 0, 1) := by decide +kernel
theorem dX9_fault_14 : decode cX9_fault 14 = .ok (.iaload, 1) := by decide +kernel
theorem dX9_fault_15 : decode cX9_fault 15 = .ok (.goto 18, 3) := by decide +kernel
theorem dX9_fault_18 : decode cX9_fault 18 = .ok (.iload_n 1, 1) := by decide +kernel
theorem dX9_fault_19 : decode cX9_fault 19 = .ok (.iconst 1, 1) := by decide +kernel
theorem dX9_fault_20 : decode cX9_fault 20 = .ok (.if_icmp .ne 12, 3) := by decide +kernel
theorem dX9_fault_23 : decode cX9_fault 23 = .ok (.aload_n 0, 1) := by decide +kernel
theorem dX9_fault_24 : decode cX9_fault 24 = .ok (.getfield 20, 3) := by decide +kernel
theorem dX9_fault_27 : decode cX9_fault 27 = .ok (.iconst 0, 1) := by decide +kernel
theorem dX9_fault_28 : decode cX9_fault 28 = .ok (.iaload, 1) := by decide +kernel
theorem dX9_fault_29 : decode cX9_fault 29 = .ok (.goto 4, 3) := by decide +kernel
theorem dX9_fault_32 : decode cX9_fault 32 = .ok (.iconst (-1), 1) := by decide +kernel
theorem dX9_fault_33 : decode cX9_fault 33 = .ok (.ireturn, 1) := by decide +kernel
theorem dX9_strike_0 : decode cX9_strike 0 = .ok (.aload_n 0, 1) := by decide +kernel
theorem dX9_strike_1 : decode cX9_strike 1 = .ok (.iconst 0, 1) := by decide +kernel
theorem dX9_strike_2 : decode cX9_strike 2 = .ok (.putfield 142, 3) := by decide +kernel
theorem dX9_strike_5 : decode cX9_strike 5 = .ok (.iload_n 1, 1) := by decide +kernel
theorem dX9_strike_6 : decode cX9_strike 6 = .ok (.iconst 0, 1) := by decide +kernel
theorem dX9_strike_7 : decode cX9_strike 7 = .ok (.aload_n 0, 1) := by decide +kernel
theorem dX9_strike_8 : decode cX9_strike 8 = .ok (.getfield 45, 3) := by decide +kernel
theorem dX9_strike_11 : decode cX9_strike 11 = .ok (.iconst 0, 1) := by decide +kernel
theorem dX9_strike_12 : decode cX9_strike 12 = .ok (.iaload, 1) := by decide +kernel
theorem dX9_strike_13 : decode cX9_strike 13 = .ok (.iconst 1, 1) := by decide +kernel
theorem dX9_strike_14 : decode cX9_strike 14 = .ok (.isub, 1) := by decide +kernel
theorem dX9_strike_15 : decode cX9_strike 15 = .ok (.invokestatic 160, 3) := by decide +kernel
theorem dX9_strike_18 : decode cX9_strike 18 = .ok (.ifCond .eq 13, 3) := by decide +kernel
theorem dX9_strike_21 : decode cX9_strike 21 = .ok (.aload_n 0, 1) := by decide +kernel
theorem dX9_strike_22 : decode cX9_strike 22 = .ok (.getfield 51, 3) := by decide +kernel
theorem dX9_strike_25 : decode cX9_strike 25 = .ok (.iload_n 1, 1) := by decide +kernel
theorem dX9_strike_26 : decode cX9_strike 26 = .ok (.iaload, 1) := by decide +kernel
theorem dX9_strike_27 : decode cX9_strike 27 = .ok (.iconst (-1), 1) := by decide +kernel
theorem dX9_strike_28 : decode cX9_strike 28 = .ok (.if_icmp .eq 5, 3) := by decide +kernel
theorem dX9_strike_31 : decode cX9_strike 31 = .ok (.iconst 0, 1) := by decide +kernel
theorem dX9_strike_32 : decode cX9_strike 32 = .ok (.ireturn, 1) := by decide +kernel
theorem dX9_strike_33 : decode cX9_strike 33 = .ok (.aload_n 0, 1) := by decide +kernel
theorem dX9_strike_34 : decode cX9_strike 34 = .ok (.getfield 51, 3) := by decide +kernel
theorem dX9_strike_37 : decode cX9_strike 37 = .ok (.iload_n 1, 1) := by decide +kernel
theorem dX9_strike_38 : decode cX9_strike 38 = .ok (.aload_n 0, 1) := by decide +kernel
theorem dX9_strike_39 : decode cX9_strike 39 = .ok (.getfield 23, 3) := by decide +kernel
theorem dX9_strike_42 : decode cX9_strike 42 = .ok (.iconst 0, 1) := by decide +kernel
theorem dX9_strike_43 : decode cX9_strike 43 = .ok (.iaload, 1) := by decide +kernel
theorem dX9_strike_44 : decode cX9_strike 44 = .ok (.iastore, 1) := by decide +kernel
theorem dX9_strike_45 : decode cX9_strike 45 = .ok (.iconst 1, 1) := by decide +kernel
theorem dX9_strike_46 : decode cX9_strike 46 = .ok (.ireturn, 1) := by decide +kernel
theorem dX9_day_0 : decode cX9_day 0 = .ok (.aload_n 0, 1) := by decide +kernel
theorem dX9_day_1 : decode cX9_day 1 = .ok (.iconst 0, 1) := by decide +kernel
theorem dX9_day_2 : decode cX9_day 2 = .ok (.putfield 142, 3) := by decide +kernel
theorem dX9_day_5 : decode cX9_day 5 = .ok (.iload_n 1, 1) := by decide +kernel
theorem dX9_day_6 : decode cX9_day 6 = .ok (.aload_n 0, 1) := by decide +kernel
theorem dX9_day_7 : decode cX9_day 7 = .ok (.getfield 23, 3) := by decide +kernel
theorem dX9_day_10 : decode cX9_day 10 = .ok (.iconst 0, 1) := by decide +kernel
theorem dX9_day_11 : decode cX9_day 11 = .ok (.iaload, 1) := by decide +kernel
theorem dX9_day_12 : decode cX9_day 12 = .ok (.sipush 999, 3) := by decide +kernel
theorem dX9_day_15 : decode cX9_day 15 = .ok (.invokestatic 160, 3) := by decide +kernel
theorem dX9_day_18 : decode cX9_day 18 = .ok (.ifCond .ne 5, 3) := by decide +kernel
theorem dX9_day_21 : decode cX9_day 21 = .ok (.iconst 0, 1) := by decide +kernel
theorem dX9_day_22 : decode cX9_day 22 = .ok (.ireturn, 1) := by decide +kernel
theorem dX9_day_23 : decode cX9_day 23 = .ok (.aload_n 0, 1) := by decide +kernel
theorem dX9_day_24 : decode cX9_day 24 = .ok (.getfield 23, 3) := by decide +kernel
theorem dX9_day_27 : decode cX9_day 27 = .ok (.iconst 0, 1) := by decide +kernel
theorem dX9_day_28 : decode cX9_day 28 = .ok (.iload_n 1, 1) := by decide +kernel
theorem dX9_day_29 : decode cX9_day 29 = .ok (.iastore, 1) := by decide +kernel
theorem dX9_day_30 : decode cX9_day 30 = .ok (.iconst 1, 1) := by decide +kernel
theorem dX9_day_31 : decode cX9_day 31 = .ok (.ireturn, 1) := by decide +kernel
theorem dX9_view_0 : decode cX9_view 0 = .ok (.aload_n 0, 1) := by decide +kernel
theorem dX9_view_1 : decode cX9_view 1 = .ok (.iconst 0, 1) := by decide +kernel
theorem dX9_view_2 : decode cX9_view 2 = .ok (.putfield 142, 3) := by decide +kernel
theorem dX9_view_5 : decode cX9_view 5 = .ok (.iload_n 1, 1) := by decide +kernel
theorem dX9_view_6 : decode cX9_view 6 = .ok (.iconst (-1), 1) := by decide +kernel
theorem dX9_view_7 : decode cX9_view 7 = .ok (.aload_n 0, 1) := by decide +kernel
theorem dX9_view_8 : decode cX9_view 8 = .ok (.getfield 23, 3) := by decide +kernel
theorem dX9_view_11 : decode cX9_view 11 = .ok (.iconst 0, 1) := by decide +kernel
theorem dX9_view_12 : decode cX9_view 12 = .ok (.iaload, 1) := by decide +kernel
theorem dX9_view_13 : decode cX9_view 13 = .ok (.invokestatic 160, 3) := by decide +kernel
theorem dX9_view_16 : decode cX9_view 16 = .ok (.ifCond .ne 5, 3) := by decide +kernel
theorem dX9_view_19 : decode cX9_view 19 = .ok (.iconst 0, 1) := by decide +kernel
theorem dX9_view_20 : decode cX9_view 20 = .ok (.ireturn, 1) := by decide +kernel
theorem dX9_view_21 : decode cX9_view 21 = .ok (.aload_n 0, 1) := by decide +kernel
theorem dX9_view_22 : decode cX9_view 22 = .ok (.getfield 26, 3) := by decide +kernel
theorem dX9_view_25 : decode cX9_view 25 = .ok (.iconst 0, 1) := by decide +kernel
theorem dX9_view_26 : decode cX9_view 26 = .ok (.iload_n 1, 1) := by decide +kernel
theorem dX9_view_27 : decode cX9_view 27 = .ok (.iastore, 1) := by decide +kernel
theorem dX9_view_28 : decode cX9_view 28 = .ok (.iconst 1, 1) := by decide +kernel
theorem dX9_view_29 : decode cX9_view 29 = .ok (.ireturn, 1) := by decide +kernel
theorem dX9_told_0 : decode cX9_told 0 = .ok (.aload_n 0, 1) := by decide +kernel
theorem dX9_told_1 : decode cX9_told 1 = .ok (.getfield 26, 3) := by decide +kernel
theorem dX9_told_4 : decode cX9_told 4 = .ok (.iconst 0, 1) := by decide +kernel
theorem dX9_told_5 : decode cX9_told 5 = .ok (.iaload, 1) := by decide +kernel
theorem dX9_told_6 : decode cX9_told 6 = .ok (.iconst (-1), 1) := by decide +kernel
theorem dX9_told_7 : decode cX9_told 7 = .ok (.if_icmp .ne 12, 3) := by decide +kernel
theorem dX9_told_10 : decode cX9_told 10 = .ok (.aload_n 0, 1) := by decide +kernel
theorem dX9_told_11 : decode cX9_told 11 = .ok (.getfield 23, 3) := by decide +kernel
theorem dX9_told_14 : decode cX9_told 14 = .ok (.iconst 0, 1) := by decide +kernel
theorem dX9_told_15 : decode cX9_told 15 = .ok (.iaload, 1) := by decide +kernel
theorem dX9_told_16 : decode cX9_told 16 = .ok (.goto 9, 3) := by decide +kernel
theorem dX9_told_19 : decode cX9_told 19 = .ok (.aload_n 0, 1) := by decide +kernel
theorem dX9_told_20 : decode cX9_told 20 = .ok (.getfield 26, 3) := by decide +kernel
theorem dX9_told_23 : decode cX9_told 23 = .ok (.iconst 0, 1) := by decide +kernel
theorem dX9_told_24 : decode cX9_told 24 = .ok (.iaload, 1) := by decide +kernel
theorem dX9_told_25 : decode cX9_told 25 = .ok (.istore_n 1, 1) := by decide +kernel
theorem dX9_told_26 : decode cX9_told 26 = .ok (.iconst 0, 1) := by decide +kernel
theorem dX9_told_27 : decode cX9_told 27 = .ok (.istore_n 2, 1) := by decide +kernel
theorem dX9_told_28 : decode cX9_told 28 = .ok (.iconst 0, 1) := by decide +kernel
theorem dX9_told_29 : decode cX9_told 29 = .ok (.istore_n 3, 1) := by decide +kernel
theorem dX9_told_30 : decode cX9_told 30 = .ok (.iload_n 3, 1) := by decide +kernel
theorem dX9_told_31 : decode cX9_told 31 = .ok (.aload_n 0, 1) := by decide +kernel
theorem dX9_told_32 : decode cX9_told 32 = .ok (.getfield 45, 3) := by decide +kernel
theorem dX9_told_35 : decode cX9_told 35 = .ok (.iconst 0, 1) := by decide +kernel
theorem dX9_told_36 : decode cX9_told 36 = .ok (.iaload, 1) := by decide +kernel
theorem dX9_told_37 : decode cX9_told 37 = .ok (.if_icmp .ge 49, 3) := by decide +kernel
theorem dX9_told_40 : decode cX9_told 40 = .ok (.iload_n 2, 1) := by decide +kernel
theorem dX9_told_41 : decode cX9_told 41 = .ok (.aload_n 0, 1) := by decide +kernel
theorem dX9_told_42 : decode cX9_told 42 = .ok (.getfield 48, 3) := by decide +kernel
theorem dX9_told_45 : decode cX9_told 45 = .ok (.iload_n 3, 1) := by decide +kernel
theorem dX9_told_46 : decode cX9_told 46 = .ok (.iaload, 1) := by decide +kernel
theorem dX9_told_47 : decode cX9_told 47 = .ok (.iload_n 1, 1) := by decide +kernel
theorem dX9_told_48 : decode cX9_told 48 = .ok (.if_icmp .gt 29, 3) := by decide +kernel
theorem dX9_told_51 : decode cX9_told 51 = .ok (.aload_n 0, 1) := by decide +kernel
theorem dX9_told_52 : decode cX9_told 52 = .ok (.getfield 51, 3) := by decide +kernel
theorem dX9_told_55 : decode cX9_told 55 = .ok (.iload_n 3, 1) := by decide +kernel
theorem dX9_told_56 : decode cX9_told 56 = .ok (.iaload, 1) := by decide +kernel
theorem dX9_told_57 : decode cX9_told 57 = .ok (.iconst (-1), 1) := by decide +kernel
theorem dX9_told_58 : decode cX9_told 58 = .ok (.if_icmp .eq 13, 3) := by decide +kernel
theorem dX9_told_61 : decode cX9_told 61 = .ok (.aload_n 0, 1) := by decide +kernel
theorem dX9_told_62 : decode cX9_told 62 = .ok (.getfield 51, 3) := by decide +kernel
theorem dX9_told_65 : decode cX9_told 65 = .ok (.iload_n 3, 1) := by decide +kernel
theorem dX9_told_66 : decode cX9_told 66 = .ok (.iaload, 1) := by decide +kernel
theorem dX9_told_67 : decode cX9_told 67 = .ok (.iload_n 1, 1) := by decide +kernel
theorem dX9_told_68 : decode cX9_told 68 = .ok (.if_icmp .le 9, 3) := by decide +kernel
theorem dX9_told_71 : decode cX9_told 71 = .ok (.iconst 1, 1) := by decide +kernel
theorem dX9_told_72 : decode cX9_told 72 = .ok (.iload_n 3, 1) := by decide +kernel
theorem dX9_told_73 : decode cX9_told 73 = .ok (.ishl, 1) := by decide +kernel
theorem dX9_told_74 : decode cX9_told 74 = .ok (.goto 4, 3) := by decide +kernel
theorem dX9_told_77 : decode cX9_told 77 = .ok (.iconst 0, 1) := by decide +kernel
theorem dX9_told_78 : decode cX9_told 78 = .ok (.ior, 1) := by decide +kernel
theorem dX9_told_79 : decode cX9_told 79 = .ok (.istore_n 2, 1) := by decide +kernel
theorem dX9_told_80 : decode cX9_told 80 = .ok (.iinc 3 1, 3) := by decide +kernel
theorem dX9_told_83 : decode cX9_told 83 = .ok (.goto (-53), 3) := by decide +kernel
theorem dX9_told_86 : decode cX9_told 86 = .ok (.iload_n 2, 1) := by decide +kernel
theorem dX9_told_87 : decode cX9_told 87 = .ok (.ireturn, 1) := by decide +kernel
theorem dX9_unit_0 : decode cX9_unit 0 = .ok (.iload_n 0, 1) := by decide +kernel
theorem dX9_unit_1 : decode cX9_unit 1 = .ok (.ifCond .ne 7, 3) := by decide +kernel
theorem dX9_unit_4 : decode cX9_unit 4 = .ok (.iconst 1, 1) := by decide +kernel
theorem dX9_unit_5 : decode cX9_unit 5 = .ok (.goto 24, 3) := by decide +kernel
theorem dX9_unit_8 : decode cX9_unit 8 = .ok (.iload_n 0, 1) := by decide +kernel
theorem dX9_unit_9 : decode cX9_unit 9 = .ok (.iconst 1, 1) := by decide +kernel
theorem dX9_unit_10 : decode cX9_unit 10 = .ok (.if_icmp .ne 7, 3) := by decide +kernel
theorem dX9_unit_13 : decode cX9_unit 13 = .ok (.iconst 3, 1) := by decide +kernel
theorem dX9_unit_14 : decode cX9_unit 14 = .ok (.goto 15, 3) := by decide +kernel
theorem dX9_unit_17 : decode cX9_unit 17 = .ok (.iload_n 0, 1) := by decide +kernel
theorem dX9_unit_18 : decode cX9_unit 18 = .ok (.iconst 2, 1) := by decide +kernel
theorem dX9_unit_19 : decode cX9_unit 19 = .ok (.if_icmp .ne 8, 3) := by decide +kernel
theorem dX9_unit_22 : decode cX9_unit 22 = .ok (.bipush 9, 2) := by decide +kernel
theorem dX9_unit_24 : decode cX9_unit 24 = .ok (.goto 5, 3) := by decide +kernel
theorem dX9_unit_27 : decode cX9_unit 27 = .ok (.bipush 27, 2) := by decide +kernel
theorem dX9_unit_29 : decode cX9_unit 29 = .ok (.ireturn, 1) := by decide +kernel
theorem dX9_valueIn_0 : decode cX9_valueIn 0 = .ok (.iload_n 0, 1) := by decide +kernel
theorem dX9_valueIn_1 : decode cX9_valueIn 1 = .ok (.iload_n 1, 1) := by decide +kernel
theorem dX9_valueIn_2 : decode cX9_valueIn 2 = .ok (.invokestatic 338, 3) := by decide +kernel
theorem dX9_valueIn_5 : decode cX9_valueIn 5 = .ok (.idiv, 1) := by decide +kernel
theorem dX9_valueIn_6 : decode cX9_valueIn 6 = .ok (.iconst 3, 1) := by decide +kernel
theorem dX9_valueIn_7 : decode cX9_valueIn 7 = .ok (.irem, 1) := by decide +kernel
theorem dX9_valueIn_8 : decode cX9_valueIn 8 = .ok (.ireturn, 1) := by decide +kernel
theorem dX9_findJoined_0 : decode cX9_findJoined 0 = .ok (.iconst 0, 1) := by decide +kernel
theorem dX9_findJoined_1 : decode cX9_findJoined 1 = .ok (.istore_n 2, 1) := by decide +kernel
theorem dX9_findJoined_2 : decode cX9_findJoined 2 = .ok (.iload_n 2, 1) := by decide +kernel
theorem dX9_findJoined_3 : decode cX9_findJoined 3 = .ok (.bipush 9, 2) := by decide +kernel
theorem dX9_findJoined_5 : decode cX9_findJoined 5 = .ok (.if_icmp .ge 26, 3) := by decide +kernel
theorem dX9_findJoined_8 : decode cX9_findJoined 8 = .ok (.aload_n 0, 1) := by decide +kernel
theorem dX9_findJoined_9 : decode cX9_findJoined 9 = .ok (.getfield 114, 3) := by decide +kernel
theorem dX9_findJoined_12 : decode cX9_findJoined 12 = .ok (.iload_n 2, 1) := by decide +kernel
theorem dX9_findJoined_13 : decode cX9_findJoined 13 = .ok (.aload_n 0, 1) := by decide +kernel
theorem dX9_findJoined_14 : decode cX9_findJoined 14 = .ok (.iload_n 1, 1) := by decide +kernel
theorem dX9_findJoined_15 : decode cX9_findJoined 15 = .ok (.iload_n 2, 1) := by decide +kernel
theorem dX9_findJoined_16 : decode cX9_findJoined 16 = .ok (.iconst 3, 1) := by decide +kernel
theorem dX9_findJoined_17 : decode cX9_findJoined 17 = .ok (.idiv, 1) := by decide +kernel
theorem dX9_findJoined_18 : decode cX9_findJoined 18 = .ok (.iload_n 2, 1) := by decide +kernel
theorem dX9_findJoined_19 : decode cX9_findJoined 19 = .ok (.iconst 3, 1) := by decide +kernel
theorem dX9_findJoined_20 : decode cX9_findJoined 20 = .ok (.irem, 1) := by decide +kernel
theorem dX9_findJoined_21 : decode cX9_findJoined 21 = .ok (.invokevirtual 341, 3) := by decide +kernel
theorem dX9_findJoined_24 : decode cX9_findJoined 24 = .ok (.bastore, 1) := by decide +kernel
theorem dX9_findJoined_25 : decode cX9_findJoined 25 = .ok (.iinc 2 1, 3) := by decide +kernel
theorem dX9_findJoined_28 : decode cX9_findJoined 28 = .ok (.goto (-26), 3) := by decide +kernel
theorem dX9_findJoined_31 : decode cX9_findJoined 31 = .ok (.iconst 0, 1) := by decide +kernel
theorem dX9_findJoined_32 : decode cX9_findJoined 32 = .ok (.istore_n 2, 1) := by decide +kernel
theorem dX9_findJoined_33 : decode cX9_findJoined 33 = .ok (.iload_n 2, 1) := by decide +kernel
theorem dX9_findJoined_34 : decode cX9_findJoined 34 = .ok (.iconst 3, 1) := by decide +kernel
theorem dX9_findJoined_35 : decode cX9_findJoined 35 = .ok (.if_icmp .ge 73, 3) := by decide +kernel
theorem dX9_findJoined_38 : decode cX9_findJoined 38 = .ok (.iconst 0, 1) := by decide +kernel
theorem dX9_findJoined_39 : decode cX9_findJoined 39 = .ok (.istore_n 3, 1) := by decide +kernel
theorem dX9_findJoined_40 : decode cX9_findJoined 40 = .ok (.iload_n 3, 1) := by decide +kernel
theorem dX9_findJoined_41 : decode cX9_findJoined 41 = .ok (.bipush 9, 2) := by decide +kernel
theorem dX9_findJoined_43 : decode cX9_findJoined 43 = .ok (.if_icmp .ge 59, 3) := by decide +kernel
theorem dX9_findJoined_46 : decode cX9_findJoined 46 = .ok (.aload_n 0, 1) := by decide +kernel
theorem dX9_findJoined_47 : decode cX9_findJoined 47 = .ok (.getfield 114, 3) := by decide +kernel
theorem dX9_findJoined_50 : decode cX9_findJoined 50 = .ok (.iload_n 3, 1) := by decide +kernel
theorem dX9_findJoined_51 : decode cX9_findJoined 51 = .ok (.aload_n 0, 1) := by decide +kernel
theorem dX9_findJoined_52 : decode cX9_findJoined 52 = .ok (.getfield 114, 3) := by decide +kernel
theorem dX9_findJoined_55 : decode cX9_findJoined 55 = .ok (.iload_n 3, 1) := by decide +kernel
theorem dX9_findJoined_56 : decode cX9_findJoined 56 = .ok (.baload, 1) := by decide +kernel
theorem dX9_findJoined_57 : decode cX9_findJoined 57 = .ok (.ifCond .ne 33, 3) := by decide +kernel
theorem dX9_findJoined_60 : decode cX9_findJoined 60 = .ok (.aload_n 0, 1) := by decide +kernel
theorem dX9_findJoined_61 : decode cX9_findJoined 61 = .ok (.getfield 114, 3) := by decide +kernel
theorem dX9_findJoined_64 : decode cX9_findJoined 64 = .ok (.iload_n 3, 1) := by decide +kernel
theorem dX9_findJoined_65 : decode cX9_findJoined 65 = .ok (.iload_n 3, 1) := by decide +kernel
theorem dX9_findJoined_66 : decode cX9_findJoined 66 = .ok (.iconst 3, 1) := by decide +kernel
theorem dX9_findJoined_67 : decode cX9_findJoined 67 = .ok (.irem, 1) := by decide +kernel
theorem dX9_findJoined_68 : decode cX9_findJoined 68 = .ok (.isub, 1) := by decide +kernel
theorem dX9_findJoined_69 : decode cX9_findJoined 69 = .ok (.iload_n 2, 1) := by decide +kernel
theorem dX9_findJoined_70 : decode cX9_findJoined 70 = .ok (.iadd, 1) := by decide +kernel
theorem dX9_findJoined_71 : decode cX9_findJoined 71 = .ok (.baload, 1) := by decide +kernel
theorem dX9_findJoined_72 : decode cX9_findJoined 72 = .ok (.ifCond .eq 22, 3) := by decide +kernel
theorem dX9_findJoined_75 : decode cX9_findJoined 75 = .ok (.aload_n 0, 1) := by decide +kernel
theorem dX9_findJoined_76 : decode cX9_findJoined 76 = .ok (.getfield 114, 3) := by decide +kernel
theorem dX9_findJoined_79 : decode cX9_findJoined 79 = .ok (.iconst 3, 1) := by decide +kernel
theorem dX9_findJoined_80 : decode cX9_findJoined 80 = .ok (.iload_n 2, 1) := by decide +kernel
theorem dX9_findJoined_81 : decode cX9_findJoined 81 = .ok (.imul, 1) := by decide +kernel
theorem dX9_findJoined_82 : decode cX9_findJoined 82 = .ok (.iload_n 3, 1) := by decide +kernel
theorem dX9_findJoined_83 : decode cX9_findJoined 83 = .ok (.iconst 3, 1) := by decide +kernel
theorem dX9_findJoined_84 : decode cX9_findJoined 84 = .ok (.irem, 1) := by decide +kernel
theorem dX9_findJoined_85 : decode cX9_findJoined 85 = .ok (.iadd, 1) := by decide +kernel
theorem dX9_findJoined_86 : decode cX9_findJoined 86 = .ok (.baload, 1) := by decide +kernel
theorem dX9_findJoined_87 : decode cX9_findJoined 87 = .ok (.ifCond .eq 7, 3) := by decide +kernel
theorem dX9_findJoined_90 : decode cX9_findJoined 90 = .ok (.iconst 1, 1) := by decide +kernel
theorem dX9_findJoined_91 : decode cX9_findJoined 91 = .ok (.goto 4, 3) := by decide +kernel
theorem dX9_findJoined_94 : decode cX9_findJoined 94 = .ok (.iconst 0, 1) := by decide +kernel
theorem dX9_findJoined_95 : decode cX9_findJoined 95 = .ok (.bastore, 1) := by decide +kernel
theorem dX9_findJoined_96 : decode cX9_findJoined 96 = .ok (.iinc 3 1, 3) := by decide +kernel
theorem dX9_findJoined_99 : decode cX9_findJoined 99 = .ok (.goto (-59), 3) := by decide +kernel
theorem dX9_findJoined_102 : decode cX9_findJoined 102 = .ok (.iinc 2 1, 3) := by decide +kernel
theorem dX9_findJoined_105 : decode cX9_findJoined 105 = .ok (.goto (-72), 3) := by decide +kernel
theorem dX9_findJoined_108 : decode cX9_findJoined 108 = .ok (.return_, 1) := by decide +kernel
theorem dX9_isTree_0 : decode cX9_isTree 0 = .ok (.aload_n 0, 1) := by decide +kernel
theorem dX9_isTree_1 : decode cX9_isTree 1 = .ok (.iload_n 1, 1) := by decide +kernel
theorem dX9_isTree_2 : decode cX9_isTree 2 = .ok (.invokevirtual 344, 3) := by decide +kernel
theorem dX9_isTree_5 : decode cX9_isTree 5 = .ok (.iconst 1, 1) := by decide +kernel
theorem dX9_isTree_6 : decode cX9_isTree 6 = .ok (.istore_n 2, 1) := by decide +kernel
theorem dX9_isTree_7 : decode cX9_isTree 7 = .ok (.iconst 0, 1) := by decide +kernel
theorem dX9_isTree_8 : decode cX9_isTree 8 = .ok (.istore_n 3, 1) := by decide +kernel
theorem dX9_isTree_9 : decode cX9_isTree 9 = .ok (.iload_n 3, 1) := by decide +kernel
theorem dX9_isTree_10 : decode cX9_isTree 10 = .ok (.iconst 3, 1) := by decide +kernel
theorem dX9_isTree_11 : decode cX9_isTree 11 = .ok (.if_icmp .ge 75, 3) := by decide +kernel
theorem dX9_isTree_14 : decode cX9_isTree 14 = .ok (.iconst 0, 1) := by decide +kernel
theorem dX9_isTree_15 : decode cX9_isTree 15 = .ok (.istore 4, 2) := by decide +kernel
theorem dX9_isTree_17 : decode cX9_isTree 17 = .ok (.iconst 0, 1) := by decide +kernel
theorem dX9_isTree_18 : decode cX9_isTree 18 = .ok (.istore 5, 2) := by decide +kernel
theorem dX9_isTree_20 : decode cX9_isTree 20 = .ok (.iload 5, 2) := by decide +kernel
theorem dX9_isTree_22 : decode cX9_isTree 22 = .ok (.iconst 3, 1) := by decide +kernel
theorem dX9_isTree_23 : decode cX9_isTree 23 = .ok (.if_icmp .ge 30, 3) := by decide +kernel
theorem dX9_isTree_26 : decode cX9_isTree 26 = .ok (.iload 4, 2) := by decide +kernel
theorem dX9_isTree_28 : decode cX9_isTree 28 = .ok (.aload_n 0, 1) := by decide +kernel
theorem dX9_isTree_29 : decode cX9_isTree 29 = .ok (.iload_n 1, 1) := by decide +kernel
theorem dX9_isTree_30 : decode cX9_isTree 30 = .ok (.iload_n 3, 1) := by decide +kernel
theorem dX9_isTree_31 : decode cX9_isTree 31 = .ok (.iload 5, 2) := by decide +kernel
theorem dX9_isTree_33 : decode cX9_isTree 33 = .ok (.invokevirtual 341, 3) := by decide +kernel
theorem dX9_isTree_36 : decode cX9_isTree 36 = .ok (.ifCond .eq 7, 3) := by decide +kernel
theorem dX9_isTree_39 : decode cX9_isTree 39 = .ok (.iconst 1, 1) := by decide +kernel
theorem dX9_isTree_40 : decode cX9_isTree 40 = .ok (.goto 4, 3) := by decide +kernel
theorem dX9_isTree_43 : decode cX9_isTree 43 = .ok (.iconst 0, 1) := by decide +kernel
theorem dX9_isTree_44 : decode cX9_isTree 44 = .ok (.iadd, 1) := by decide +kernel
theorem dX9_isTree_45 : decode cX9_isTree 45 = .ok (.istore 4, 2) := by decide +kernel
theorem dX9_isTree_47 : decode cX9_isTree 47 = .ok (.iinc 5 1, 3) := by decide +kernel
theorem dX9_isTree_50 : decode cX9_isTree 50 = .ok (.goto (-30), 3) := by decide +kernel
theorem dX9_isTree_53 : decode cX9_isTree 53 = .ok (.iload_n 2, 1) := by decide +kernel
theorem dX9_isTree_54 : decode cX9_isTree 54 = .ok (.ifCond .eq 24, 3) := by decide +kernel
theorem dX9_isTree_57 : decode cX9_isTree 57 = .ok (.iload 4, 2) := by decide +kernel
theorem dX9_isTree_59 : decode cX9_isTree 59 = .ok (.iconst 1, 1) := by decide +kernel
theorem dX9_isTree_60 : decode cX9_isTree 60 = .ok (.if_icmp .gt 18, 3) := by decide +kernel
theorem dX9_isTree_63 : decode cX9_isTree 63 = .ok (.aload_n 0, 1) := by decide +kernel
theorem dX9_isTree_64 : decode cX9_isTree 64 = .ok (.getfield 114, 3) := by decide +kernel
theorem dX9_isTree_67 : decode cX9_isTree 67 = .ok (.iconst 4, 1) := by decide +kernel
theorem dX9_isTree_68 : decode cX9_isTree 68 = .ok (.iload_n 3, 1) := by decide +kernel
theorem dX9_isTree_69 : decode cX9_isTree 69 = .ok (.imul, 1) := by decide +kernel
theorem dX9_isTree_70 : decode cX9_isTree 70 = .ok (.baload, 1) := by decide +kernel
theorem dX9_isTree_71 : decode cX9_isTree 71 = .ok (.ifCond .ne 7, 3) := by decide +kernel
theorem dX9_isTree_74 : decode cX9_isTree 74 = .ok (.iconst 1, 1) := by decide +kernel
theorem dX9_isTree_75 : decode cX9_isTree 75 = .ok (.goto 4, 3) := by decide +kernel
theorem dX9_isTree_78 : decode cX9_isTree 78 = .ok (.iconst 0, 1) := by decide +kernel
theorem dX9_isTree_79 : decode cX9_isTree 79 = .ok (.istore_n 2, 1) := by decide +kernel
theorem dX9_isTree_80 : decode cX9_isTree 80 = .ok (.iinc 3 1, 3) := by decide +kernel
theorem dX9_isTree_83 : decode cX9_isTree 83 = .ok (.goto (-74), 3) := by decide +kernel
theorem dX9_isTree_86 : decode cX9_isTree 86 = .ok (.iload_n 2, 1) := by decide +kernel
theorem dX9_isTree_87 : decode cX9_isTree 87 = .ok (.ireturn, 1) := by decide +kernel
theorem dX9_leaf_0 : decode cX9_leaf 0 = .ok (.aload_n 0, 1) := by decide +kernel
theorem dX9_leaf_1 : decode cX9_leaf 1 = .ok (.getfield 57, 3) := by decide +kernel
theorem dX9_leaf_4 : decode cX9_leaf 4 = .ok (.iload_n 1, 1) := by decide +kernel
theorem dX9_leaf_5 : decode cX9_leaf 5 = .ok (.iaload, 1) := by decide +kernel
theorem dX9_leaf_6 : decode cX9_leaf 6 = .ok (.istore_n 2, 1) := by decide +kernel
theorem dX9_leaf_7 : decode cX9_leaf 7 = .ok (.iload_n 2, 1) := by decide +kernel
theorem dX9_leaf_8 : decode cX9_leaf 8 = .ok (.bipush 10, 2) := by decide +kernel
theorem dX9_leaf_10 : decode cX9_leaf 10 = .ok (.if_icmp .ne 20, 3) := by decide +kernel
theorem dX9_leaf_13 : decode cX9_leaf 13 = .ok (.aload_n 0, 1) := by decide +kernel
theorem dX9_leaf_14 : decode cX9_leaf 14 = .ok (.aload_n 0, 1) := by decide +kernel
