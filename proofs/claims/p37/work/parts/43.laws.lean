theorem dL_describes_0 : decode cL_describes 0 = .ok (.aload_n 3, 1) := by decide +kernel
theorem dL_describes_1 : decode cL_describes 1 = .ok (.iconst 0, 1) := by decide +kernel
theorem dL_describes_2 : decode cL_describes 2 = .ok (.iaload, 1) := by decide +kernel
theorem dL_describes_3 : decode cL_describes 3 = .ok (.iconst 4, 1) := by decide +kernel
theorem dL_describes_4 : decode cL_describes 4 = .ok (.if_icmp .ne 5, 3) := by decide +kernel
theorem dL_describes_7 : decode cL_describes 7 = .ok (.iconst 1, 1) := by decide +kernel
theorem dL_describes_8 : decode cL_describes 8 = .ok (.ireturn, 1) := by decide +kernel
theorem dL_describes_9 : decode cL_describes 9 = .ok (.iconst 2, 1) := by decide +kernel
theorem dL_describes_10 : decode cL_describes 10 = .ok (.iload_n 1, 1) := by decide +kernel
theorem dL_describes_11 : decode cL_describes 11 = .ok (.iconst 5, 1) := by decide +kernel
theorem dL_describes_12 : decode cL_describes 12 = .ok (.irem, 1) := by decide +kernel
theorem dL_describes_13 : decode cL_describes 13 = .ok (.iadd, 1) := by decide +kernel
theorem dL_describes_14 : decode cL_describes 14 = .ok (.istore 4, 2) := by decide +kernel
theorem dL_describes_16 : decode cL_describes 16 = .ok (.aload_n 0, 1) := by decide +kernel
theorem dL_describes_17 : decode cL_describes 17 = .ok (.invokevirtual 58, 3) := by decide +kernel
theorem dL_describes_20 : decode cL_describes 20 = .ok (.istore 5, 2) := by decide +kernel
theorem dL_describes_22 : decode cL_describes 22 = .ok (.iconst 0, 1) := by decide +kernel
theorem dL_describes_23 : decode cL_describes 23 = .ok (.istore 6, 2) := by decide +kernel
theorem dL_describes_25 : decode cL_describes 25 = .ok (.iload_n 1, 1) := by decide +kernel
theorem dL_describes_26 : decode cL_describes 26 = .ok (.iconst 5, 1) := by decide +kernel
theorem dL_describes_27 : decode cL_describes 27 = .ok (.idiv, 1) := by decide +kernel
theorem dL_describes_28 : decode cL_describes 28 = .ok (.iload_n 2, 1) := by decide +kernel
theorem dL_describes_29 : decode cL_describes 29 = .ok (.ixor, 1) := by decide +kernel
theorem dL_describes_30 : decode cL_describes 30 = .ok (.istore 7, 2) := by decide +kernel
theorem dL_describes_32 : decode cL_describes 32 = .ok (.iconst 0, 1) := by decide +kernel
theorem dL_describes_33 : decode cL_describes 33 = .ok (.istore 8, 2) := by decide +kernel
theorem dL_describes_35 : decode cL_describes 35 = .ok (.iload 8, 2) := by decide +kernel
theorem dL_describes_37 : decode cL_describes 37 = .ok (.iload 4, 2) := by decide +kernel
theorem dL_describes_39 : decode cL_describes 39 = .ok (.if_icmp .ge 359, 3) := by decide +kernel
theorem dL_describes_42 : decode cL_describes 42 = .ok (.iload 7, 2) := by decide +kernel
theorem dL_describes_44 : decode cL_describes 44 = .ok (.bipush 11, 2) := by decide +kernel
theorem dL_describes_46 : decode cL_describes 46 = .ok (.irem, 1) := by decide +kernel
theorem dL_describes_47 : decode cL_describes 47 = .ok (.istore 9, 2) := by decide +kernel
theorem dL_describes_49 : decode cL_describes 49 = .ok (.iload 9, 2) := by decide +kernel
theorem dL_describes_51 : decode cL_describes 51 = .ok (.bipush 10, 2) := by decide +kernel
theorem dL_describes_53 : decode cL_describes 53 = .ok (.if_icmp .ne 7, 3) := by decide +kernel
theorem dL_describes_56 : decode cL_describes 56 = .ok (.iconst 0, 1) := by decide +kernel
theorem dL_describes_57 : decode cL_describes 57 = .ok (.goto 5, 3) := by decide +kernel
theorem dL_describes_60 : decode cL_describes 60 = .ok (.iload 9, 2) := by decide +kernel
theorem dL_describes_62 : decode cL_describes 62 = .ok (.istore 9, 2) := by decide +kernel
theorem dL_describes_64 : decode cL_describes 64 = .ok (.iload 9, 2) := by decide +kernel
theorem dL_describes_66 : decode cL_describes 66 = .ok (.ifCond .ne 30, 3) := by decide +kernel
theorem dL_describes_69 : decode cL_describes 69 = .ok (.aload_n 0, 1) := by decide +kernel
theorem dL_describes_70 : decode cL_describes 70 = .ok (.iconst 0, 1) := by decide +kernel
theorem dL_describes_71 : decode cL_describes 71 = .ok (.iload 8, 2) := by decide +kernel
theorem dL_describes_73 : decode cL_describes 73 = .ok (.iconst 2, 1) := by decide +kernel
theorem dL_describes_74 : decode cL_describes 74 = .ok (.iload 7, 2) := by decide +kernel
theorem dL_describes_76 : decode cL_describes 76 = .ok (.bipush 11, 2) := by decide +kernel
theorem dL_describes_78 : decode cL_describes 78 = .ok (.idiv, 1) := by decide +kernel
theorem dL_describes_79 : decode cL_describes 79 = .ok (.iconst 5, 1) := by decide +kernel
theorem dL_describes_80 : decode cL_describes 80 = .ok (.irem, 1) := by decide +kernel
theorem dL_describes_81 : decode cL_describes 81 = .ok (.iadd, 1) := by decide +kernel
theorem dL_describes_82 : decode cL_describes 82 = .ok (.iload 7, 2) := by decide +kernel
theorem dL_describes_84 : decode cL_describes 84 = .ok (.bipush 55, 2) := by decide +kernel
theorem dL_describes_86 : decode cL_describes 86 = .ok (.idiv, 1) := by decide +kernel
theorem dL_describes_87 : decode cL_describes 87 = .ok (.bipush 9, 2) := by decide +kernel
theorem dL_describes_89 : decode cL_describes 89 = .ok (.irem, 1) := by decide +kernel
theorem dL_describes_90 : decode cL_describes 90 = .ok (.invokestatic 62, 3) := by decide +kernel
theorem dL_describes_93 : decode cL_describes 93 = .ok (.goto 249, 3) := by decide +kernel
theorem dL_describes_96 : decode cL_describes 96 = .ok (.iload 9, 2) := by decide +kernel
theorem dL_describes_98 : decode cL_describes 98 = .ok (.iconst 1, 1) := by decide +kernel
theorem dL_describes_99 : decode cL_describes 99 = .ok (.if_icmp .ne 29, 3) := by decide +kernel
theorem dL_describes_102 : decode cL_describes 102 = .ok (.aload_n 0, 1) := by decide +kernel
theorem dL_describes_103 : decode cL_describes 103 = .ok (.iconst 1, 1) := by decide +kernel
theorem dL_describes_104 : decode cL_describes 104 = .ok (.iload 8, 2) := by decide +kernel
theorem dL_describes_106 : decode cL_describes 106 = .ok (.iconst 1, 1) := by decide +kernel
theorem dL_describes_107 : decode cL_describes 107 = .ok (.iload 7, 2) := by decide +kernel
theorem dL_describes_109 : decode cL_describes 109 = .ok (.bipush 11, 2) := by decide +kernel
theorem dL_describes_111 : decode cL_describes 111 = .ok (.idiv, 1) := by decide +kernel
theorem dL_describes_112 : decode cL_describes 112 = .ok (.iconst 5, 1) := by decide +kernel
theorem dL_describes_113 : decode cL_describes 113 = .ok (.irem, 1) := by decide +kernel
theorem dL_describes_114 : decode cL_describes 114 = .ok (.iadd, 1) := by decide +kernel
theorem dL_describes_115 : decode cL_describes 115 = .ok (.iload 7, 2) := by decide +kernel
theorem dL_describes_117 : decode cL_describes 117 = .ok (.bipush 55, 2) := by decide +kernel
theorem dL_describes_119 : decode cL_describes 119 = .ok (.idiv, 1) := by decide +kernel
theorem dL_describes_120 : decode cL_describes 120 = .ok (.iconst 3, 1) := by decide +kernel
theorem dL_describes_121 : decode cL_describes 121 = .ok (.irem, 1) := by decide +kernel
theorem dL_describes_122 : decode cL_describes 122 = .ok (.invokestatic 62, 3) := by decide +kernel
theorem dL_describes_125 : decode cL_describes 125 = .ok (.goto 217, 3) := by decide +kernel
theorem dL_describes_128 : decode cL_describes 128 = .ok (.iload 9, 2) := by decide +kernel
theorem dL_describes_130 : decode cL_describes 130 = .ok (.iconst 2, 1) := by decide +kernel
theorem dL_describes_131 : decode cL_describes 131 = .ok (.if_icmp .ne 39, 3) := by decide +kernel
theorem dL_describes_134 : decode cL_describes 134 = .ok (.aload_n 0, 1) := by decide +kernel
theorem dL_describes_135 : decode cL_describes 135 = .ok (.iconst 2, 1) := by decide +kernel
theorem dL_describes_136 : decode cL_describes 136 = .ok (.iload 8, 2) := by decide +kernel
theorem dL_describes_138 : decode cL_describes 138 = .ok (.iload 7, 2) := by decide +kernel
theorem dL_describes_140 : decode cL_describes 140 = .ok (.bipush 11, 2) := by decide +kernel
theorem dL_describes_142 : decode cL_describes 142 = .ok (.idiv, 1) := by decide +kernel
theorem dL_describes_143 : decode cL_describes 143 = .ok (.iconst 3, 1) := by decide +kernel
theorem dL_describes_144 : decode cL_describes 144 = .ok (.irem, 1) := by decide +kernel
theorem dL_describes_145 : decode cL_describes 145 = .ok (.ifCond .ne 8, 3) := by decide +kernel
theorem dL_describes_148 : decode cL_describes 148 = .ok (.bipush 98, 2) := by decide +kernel
theorem dL_describes_150 : decode cL_describes 150 = .ok (.goto 13, 3) := by decide +kernel
theorem dL_describes_153 : decode cL_describes 153 = .ok (.bipush 59, 2) := by decide +kernel
theorem dL_describes_155 : decode cL_describes 155 = .ok (.iload 7, 2) := by decide +kernel
theorem dL_describes_157 : decode cL_describes 157 = .ok (.bipush 33, 2) := by decide +kernel
theorem dL_describes_159 : decode cL_describes 159 = .ok (.idiv, 1) := by decide +kernel
theorem dL_describes_160 : decode cL_describes 160 = .ok (.iconst 4, 1) := by decide +kernel
theorem dL_describes_161 : decode cL_describes 161 = .ok (.irem, 1) := by decide +kernel
theorem dL_describes_162 : decode cL_describes 162 = .ok (.iadd, 1) := by decide +kernel
theorem dL_describes_163 : decode cL_describes 163 = .ok (.iconst 0, 1) := by decide +kernel
theorem dL_describes_164 : decode cL_describes 164 = .ok (.invokestatic 62, 3) := by decide +kernel
theorem dL_describes_167 : decode cL_describes 167 = .ok (.goto 175, 3) := by decide +kernel
theorem dL_describes_170 : decode cL_describes 170 = .ok (.iload 9, 2) := by decide +kernel
theorem dL_describes_172 : decode cL_describes 172 = .ok (.iconst 3, 1) := by decide +kernel
theorem dL_describes_173 : decode cL_describes 173 = .ok (.if_icmp .ne 23, 3) := by decide +kernel
theorem dL_describes_176 : decode cL_describes 176 = .ok (.aload_n 0, 1) := by decide +kernel
theorem dL_describes_177 : decode cL_describes 177 = .ok (.iconst 3, 1) := by decide +kernel
theorem dL_describes_178 : decode cL_describes 178 = .ok (.iload 8, 2) := by decide +kernel
theorem dL_describes_180 : decode cL_describes 180 = .ok (.iconst 1, 1) := by decide +kernel
theorem dL_describes_181 : decode cL_describes 181 = .ok (.iload 7, 2) := by decide +kernel
theorem dL_describes_183 : decode cL_describes 183 = .ok (.bipush 11, 2) := by decide +kernel
theorem dL_describes_185 : decode cL_describes 185 = .ok (.idiv, 1) := by decide +kernel
theorem dL_describes_186 : decode cL_describes 186 = .ok (.iconst 4, 1) := by decide +kernel
theorem dL_describes_187 : decode cL_describes 187 = .ok (.irem, 1) := by decide +kernel
theorem dL_describes_188 : decode cL_describes 188 = .ok (.iadd, 1) := by decide +kernel
theorem dL_describes_189 : decode cL_describes 189 = .ok (.iconst 0, 1) := by decide +kernel
theorem dL_describes_190 : decode cL_describes 190 = .ok (.invokestatic 62, 3) := by decide +kernel
theorem dL_describes_193 : decode cL_describes 193 = .ok (.goto 149, 3) := by decide +kernel
theorem dL_describes_196 : decode cL_describes 196 = .ok (.iload 9, 2) := by decide +kernel
theorem dL_describes_198 : decode cL_describes 198 = .ok (.iconst 4, 1) := by decide +kernel
theorem dL_describes_199 : decode cL_describes 199 = .ok (.if_icmp .ne 14, 3) := by decide +kernel
theorem dL_describes_202 : decode cL_describes 202 = .ok (.aload_n 0, 1) := by decide +kernel
theorem dL_describes_203 : decode cL_describes 203 = .ok (.iconst 4, 1) := by decide +kernel
theorem dL_describes_204 : decode cL_describes 204 = .ok (.iconst 0, 1) := by decide +kernel
theorem dL_describes_205 : decode cL_describes 205 = .ok (.iconst 0, 1) := by decide +kernel
theorem dL_describes_206 : decode cL_describes 206 = .ok (.iconst 0, 1) := by decide +kernel
theorem dL_describes_207 : decode cL_describes 207 = .ok (.invokestatic 62, 3) := by decide +kernel
theorem dL_describes_210 : decode cL_describes 210 = .ok (.goto 132, 3) := by decide +kernel
theorem dL_describes_213 : decode cL_describes 213 = .ok (.iload 9, 2) := by decide +kernel
theorem dL_describes_215 : decode cL_describes 215 = .ok (.iconst 5, 1) := by decide +kernel
theorem dL_describes_216 : decode cL_describes 216 = .ok (.if_icmp .ne 24, 3) := by decide +kernel
theorem dL_describes_219 : decode cL_describes 219 = .ok (.aload_n 0, 1) := by decide +kernel
theorem dL_describes_220 : decode cL_describes 220 = .ok (.iconst 5, 1) := by decide +kernel
theorem dL_describes_221 : decode cL_describes 221 = .ok (.bipush 32, 2) := by decide +kernel
theorem dL_describes_223 : decode cL_describes 223 = .ok (.iload 7, 2) := by decide +kernel
theorem dL_describes_225 : decode cL_describes 225 = .ok (.bipush 11, 2) := by decide +kernel
theorem dL_describes_227 : decode cL_describes 227 = .ok (.idiv, 1) := by decide +kernel
theorem dL_describes_228 : decode cL_describes 228 = .ok (.bipush 95, 2) := by decide +kernel
theorem dL_describes_230 : decode cL_describes 230 = .ok (.irem, 1) := by decide +kernel
theorem dL_describes_231 : decode cL_describes 231 = .ok (.iadd, 1) := by decide +kernel
theorem dL_describes_232 : decode cL_describes 232 = .ok (.iconst 0, 1) := by decide +kernel
theorem dL_describes_233 : decode cL_describes 233 = .ok (.iconst 0, 1) := by decide +kernel
theorem dL_describes_234 : decode cL_describes 234 = .ok (.invokestatic 62, 3) := by decide +kernel
theorem dL_describes_237 : decode cL_describes 237 = .ok (.goto 105, 3) := by decide +kernel
theorem dL_describes_240 : decode cL_describes 240 = .ok (.iload 9, 2) := by decide +kernel
theorem dL_describes_242 : decode cL_describes 242 = .ok (.bipush 6, 2) := by decide +kernel
theorem dL_describes_244 : decode cL_describes 244 = .ok (.if_icmp .ne 16, 3) := by decide +kernel
theorem dL_describes_247 : decode cL_describes 247 = .ok (.aload_n 0, 1) := by decide +kernel
theorem dL_describes_248 : decode cL_describes 248 = .ok (.bipush 6, 2) := by decide +kernel
theorem dL_describes_250 : decode cL_describes 250 = .ok (.iload 8, 2) := by decide +kernel
theorem dL_describes_252 : decode cL_describes 252 = .ok (.iconst 0, 1) := by decide +kernel
theorem dL_describes_253 : decode cL_describes 253 = .ok (.iconst 0, 1) := by decide +kernel
theorem dL_describes_254 : decode cL_describes 254 = .ok (.invokestatic 62, 3) := by decide +kernel
theorem dL_describes_257 : decode cL_describes 257 = .ok (.goto 85, 3) := by decide +kernel
theorem dL_describes_260 : decode cL_describes 260 = .ok (.iload 9, 2) := by decide +kernel
theorem dL_describes_262 : decode cL_describes 262 = .ok (.bipush 7, 2) := by decide +kernel
theorem dL_describes_264 : decode cL_describes 264 = .ok (.if_icmp .ne 30, 3) := by decide +kernel
theorem dL_describes_267 : decode cL_describes 267 = .ok (.aload_n 0, 1) := by decide +kernel
theorem dL_describes_268 : decode cL_describes 268 = .ok (.bipush 7, 2) := by decide +kernel
theorem dL_describes_270 : decode cL_describes 270 = .ok (.iload 7, 2) := by decide +kernel
theorem dL_describes_272 : decode cL_describes 272 = .ok (.bipush 11, 2) := by decide +kernel
theorem dL_describes_274 : decode cL_describes 274 = .ok (.idiv, 1) := by decide +kernel
theorem dL_describes_275 : decode cL_describes 275 = .ok (.iload 4, 2) := by decide +kernel
theorem dL_describes_277 : decode cL_describes 277 = .ok (.irem, 1) := by decide +kernel
theorem dL_describes_278 : decode cL_describes 278 = .ok (.iconst 1, 1) := by decide +kernel
theorem dL_describes_279 : decode cL_describes 279 = .ok (.iload 7, 2) := by decide +kernel
theorem dL_describes_281 : decode cL_describes 281 = .ok (.bipush 88, 2) := by decide +kernel
theorem dL_describes_283 : decode cL_describes 283 = .ok (.idiv, 1) := by decide +kernel
theorem dL_describes_284 : decode cL_describes 284 = .ok (.iconst 2, 1) := by decide +kernel
theorem dL_describes_285 : decode cL_describes 285 = .ok (.irem, 1) := by decide +kernel
theorem dL_describes_286 : decode cL_describes 286 = .ok (.iadd, 1) := by decide +kernel
theorem dL_describes_287 : decode cL_describes 287 = .ok (.iconst 0, 1) := by decide +kernel
theorem dL_describes_288 : decode cL_describes 288 = .ok (.invokestatic 62, 3) := by decide +kernel
theorem dL_describes_291 : decode cL_describes 291 = .ok (.goto 51, 3) := by decide +kernel
theorem dL_describes_294 : decode cL_describes 294 = .ok (.iload 9, 2) := by decide +kernel
theorem dL_describes_296 : decode cL_describes 296 = .ok (.bipush 8, 2) := by decide +kernel
theorem dL_describes_298 : decode cL_describes 298 = .ok (.if_icmp .ne 28, 3) := by decide +kernel
theorem dL_describes_301 : decode cL_describes 301 = .ok (.aload_n 0, 1) := by decide +kernel
theorem dL_describes_302 : decode cL_describes 302 = .ok (.bipush 8, 2) := by decide +kernel
theorem dL_describes_304 : decode cL_describes 304 = .ok (.iload 7, 2) := by decide +kernel
theorem dL_describes_306 : decode cL_describes 306 = .ok (.bipush 11, 2) := by decide +kernel
theorem dL_describes_308 : decode cL_describes 308 = .ok (.idiv, 1) := by decide +kernel
theorem dL_describes_309 : decode cL_describes 309 = .ok (.iload 4, 2) := by decide +kernel
theorem dL_describes_311 : decode cL_describes 311 = .ok (.irem, 1) := by decide +kernel
theorem dL_describes_312 : decode cL_describes 312 = .ok (.iconst 1, 1) := by decide +kernel
theorem dL_describes_313 : decode cL_describes 313 = .ok (.iload 7, 2) := by decide +kernel
theorem dL_describes_315 : decode cL_describes 315 = .ok (.bipush 88, 2) := by decide +kernel
theorem dL_describes_317 : decode cL_describes 317 = .ok (.idiv, 1) := by decide +kernel
theorem dL_describes_318 : decode cL_describes 318 = .ok (.iconst 4, 1) := by decide +kernel
theorem dL_describes_319 : decode cL_describes 319 = .ok (.irem, 1) := by decide +kernel
theorem dL_describes_320 : decode cL_describes 320 = .ok (.invokestatic 62, 3) := by decide +kernel
theorem dL_describes_323 : decode cL_describes 323 = .ok (.goto 19, 3) := by decide +kernel
theorem dL_describes_326 : decode cL_describes 326 = .ok (.aload_n 0, 1) := by decide +kernel
theorem dL_describes_327 : decode cL_describes 327 = .ok (.bipush 9, 2) := by decide +kernel
theorem dL_describes_329 : decode cL_describes 329 = .ok (.iload 7, 2) := by decide +kernel
theorem dL_describes_331 : decode cL_describes 331 = .ok (.bipush 11, 2) := by decide +kernel
theorem dL_describes_333 : decode cL_describes 333 = .ok (.idiv, 1) := by decide +kernel
theorem dL_describes_334 : decode cL_describes 334 = .ok (.iload 4, 2) := by decide +kernel
theorem dL_describes_336 : decode cL_describes 336 = .ok (.irem, 1) := by decide +kernel
theorem dL_describes_337 : decode cL_describes 337 = .ok (.iconst 0, 1) := by decide +kernel
theorem dL_describes_338 : decode cL_describes 338 = .ok (.iconst 0, 1) := by decide +kernel
theorem dL_describes_339 : decode cL_describes 339 = .ok (.invokestatic 62, 3) := by decide +kernel
theorem dL_describes_342 : decode cL_describes 342 = .ok (.istore 10, 2) := by decide +kernel
theorem dL_describes_344 : decode cL_describes 344 = .ok (.iload 6, 2) := by decide +kernel
theorem dL_describes_346 : decode cL_describes 346 = .ok (.iload 10, 2) := by decide +kernel
theorem dL_describes_348 : decode cL_describes 348 = .ok (.ifCond .lt 7, 3) := by decide +kernel
theorem dL_describes_351 : decode cL_describes 351 = .ok (.iconst 1, 1) := by decide +kernel
theorem dL_describes_352 : decode cL_describes 352 = .ok (.goto 4, 3) := by decide +kernel
theorem dL_describes_355 : decode cL_describes 355 = .ok (.iconst 0, 1) := by decide +kernel
theorem dL_describes_356 : decode cL_describes 356 = .ok (.iadd, 1) := by decide +kernel
theorem dL_describes_357 : decode cL_describes 357 = .ok (.istore 6, 2) := by decide +kernel
theorem dL_describes_359 : decode cL_describes 359 = .ok (.iload 10, 2) := by decide +kernel
theorem dL_describes_361 : decode cL_describes 361 = .ok (.ifCond .lt 12, 3) := by decide +kernel
theorem dL_describes_364 : decode cL_describes 364 = .ok (.iload 10, 2) := by decide +kernel
theorem dL_describes_366 : decode cL_describes 366 = .ok (.iload 6, 2) := by decide +kernel
theorem dL_describes_368 : decode cL_describes 368 = .ok (.if_icmp .eq 5, 3) := by decide +kernel
theorem dL_describes_371 : decode cL_describes 371 = .ok (.iconst 0, 1) := by decide +kernel
theorem dL_describes_372 : decode cL_describes 372 = .ok (.ireturn, 1) := by decide +kernel
theorem dL_describes_373 : decode cL_describes 373 = .ok (.iload 7, 2) := by decide +kernel
theorem dL_describes_375 : decode cL_describes 375 = .ok (.iconst 3, 1) := by decide +kernel
theorem dL_describes_376 : decode cL_describes 376 = .ok (.ishr, 1) := by decide +kernel
theorem dL_describes_377 : decode cL_describes 377 = .ok (.sipush 7919, 3) := by decide +kernel
theorem dL_describes_380 : decode cL_describes 380 = .ok (.iload_n 2, 1) := by decide +kernel
theorem dL_describes_381 : decode cL_describes 381 = .ok (.sipush 1000, 3) := by decide +kernel
theorem dL_describes_384 : decode cL_describes 384 = .ok (.irem, 1) := by decide +kernel
theorem dL_describes_385 : decode cL_describes 385 = .ok (.iload 8, 2) := by decide +kernel
theorem dL_describes_387 : decode cL_describes 387 = .ok (.iadd, 1) := by decide +kernel
theorem dL_describes_388 : decode cL_describes 388 = .ok (.imul, 1) := by decide +kernel
theorem dL_describes_389 : decode cL_describes 389 = .ok (.iadd, 1) := by decide +kernel
theorem dL_describes_390 : decode cL_describes 390 = .ok (.istore 7, 2) := by decide +kernel
theorem dL_describes_392 : decode cL_describes 392 = .ok (.iinc 8 1, 3) := by decide +kernel
theorem dL_describes_395 : decode cL_describes 395 = .ok (.goto (-360), 3) := by decide +kernel
theorem dL_describes_398 : decode cL_describes 398 = .ok (.aload_n 0, 1) := by decide +kernel
theorem dL_describes_399 : decode cL_describes 399 = .ok (.invokevirtual 65, 3) := by decide +kernel
theorem dL_describes_402 : decode cL_describes 402 = .ok (.istore 8, 2) := by decide +kernel
theorem dL_describes_404 : decode cL_describes 404 = .ok (.iload 8, 2) := by decide +kernel
theorem dL_describes_406 : decode cL_describes 406 = .ok (.ifCond .ge 7, 3) := by decide +kernel
theorem dL_describes_409 : decode cL_describes 409 = .ok (.iconst (-1), 1) := by decide +kernel
theorem dL_describes_410 : decode cL_describes 410 = .ok (.goto 9, 3) := by decide +kernel
theorem dL_describes_413 : decode cL_describes 413 = .ok (.aload_n 0, 1) := by decide +kernel
theorem dL_describes_414 : decode cL_describes 414 = .ok (.iload 8, 2) := by decide +kernel
theorem dL_describes_416 : decode cL_describes 416 = .ok (.invokevirtual 68, 3) := by decide +kernel
theorem dL_describes_419 : decode cL_describes 419 = .ok (.istore 9, 2) := by decide +kernel
theorem dL_describes_421 : decode cL_describes 421 = .ok (.iload 5, 2) := by decide +kernel
theorem dL_describes_423 : decode cL_describes 423 = .ok (.ifCond .lt 57, 3) := by decide +kernel
theorem dL_describes_426 : decode cL_describes 426 = .ok (.iload 8, 2) := by decide +kernel
theorem dL_describes_428 : decode cL_describes 428 = .ok (.iconst (-1), 1) := by decide +kernel
theorem dL_describes_429 : decode cL_describes 429 = .ok (.if_icmp .eq 16, 3) := by decide +kernel
theorem dL_describes_432 : decode cL_describes 432 = .ok (.iload 8, 2) := by decide +kernel
theorem dL_describes_434 : decode cL_describes 434 = .ok (.aload_n 3, 1) := by decide +kernel
theorem dL_describes_435 : decode cL_describes 435 = .ok (.iconst 0, 1) := by decide +kernel
theorem dL_describes_436 : decode cL_describes 436 = .ok (.iaload, 1) := by decide +kernel
theorem dL_describes_437 : decode cL_describes 437 = .ok (.if_icmp .ne 43, 3) := by decide +kernel
theorem dL_describes_440 : decode cL_describes 440 = .ok (.iload 6, 2) := by decide +kernel
theorem dL_describes_442 : decode cL_describes 442 = .ok (.ifCond .le 38, 3) := by decide +kernel
theorem dL_describes_445 : decode cL_describes 445 = .ok (.iload 9, 2) := by decide +kernel
theorem dL_describes_447 : decode cL_describes 447 = .ok (.iload 6, 2) := by decide +kernel
theorem dL_describes_449 : decode cL_describes 449 = .ok (.if_icmp .ge 31, 3) := by decide +kernel
theorem dL_describes_452 : decode cL_describes 452 = .ok (.iload 9, 2) := by decide +kernel
theorem dL_describes_454 : decode cL_describes 454 = .ok (.iconst (-1), 1) := by decide +kernel
theorem dL_describes_455 : decode cL_describes 455 = .ok (.if_icmp .lt 25, 3) := by decide +kernel
theorem dL_describes_458 : decode cL_describes 458 = .ok (.aload_n 0, 1) := by decide +kernel
theorem dL_describes_459 : decode cL_describes 459 = .ok (.invokevirtual 58, 3) := by decide +kernel
theorem dL_describes_462 : decode cL_describes 462 = .ok (.iload 8, 2) := by decide +kernel
theorem dL_describes_464 : decode cL_describes 464 = .ok (.ifCond .ge 8, 3) := by decide +kernel
theorem dL_describes_467 : decode cL_describes 467 = .ok (.iload 6, 2) := by decide +kernel
theorem dL_describes_469 : decode cL_describes 469 = .ok (.goto 4, 3) := by decide +kernel
theorem dL_describes_472 : decode cL_describes 472 = .ok (.iconst 0, 1) := by decide +kernel
theorem dL_describes_473 : decode cL_describes 473 = .ok (.if_icmp .ne 7, 3) := by decide +kernel
theorem dL_describes_476 : decode cL_describes 476 = .ok (.iconst 1, 1) := by decide +kernel
theorem dL_describes_477 : decode cL_describes 477 = .ok (.goto 4, 3) := by decide +kernel
theorem dL_describes_480 : decode cL_describes 480 = .ok (.iconst 0, 1) := by decide +kernel
theorem dL_describes_481 : decode cL_describes 481 = .ok (.istore 10, 2) := by decide +kernel
theorem dL_describes_483 : decode cL_describes 483 = .ok (.aload_n 3, 1) := by decide +kernel
theorem dL_describes_484 : decode cL_describes 484 = .ok (.iconst 0, 1) := by decide +kernel
theorem dL_describes_485 : decode cL_describes 485 = .ok (.dup2, 1) := by decide +kernel
theorem dL_describes_486 : decode cL_describes 486 = .ok (.iaload, 1) := by decide +kernel
theorem dL_describes_487 : decode cL_describes 487 = .ok (.iload 8, 2) := by decide +kernel
theorem dL_describes_489 : decode cL_describes 489 = .ok (.ifCond .lt 7, 3) := by decide +kernel
theorem dL_describes_492 : decode cL_describes 492 = .ok (.iconst 1, 1) := by decide +kernel
theorem dL_describes_493 : decode cL_describes 493 = .ok (.goto 4, 3) := by decide +kernel
theorem dL_describes_496 : decode cL_describes 496 = .ok (.iconst 0, 1) := by decide +kernel
theorem dL_describes_497 : decode cL_describes 497 = .ok (.iadd, 1) := by decide +kernel
theorem dL_describes_498 : decode cL_describes 498 = .ok (.iastore, 1) := by decide +kernel
theorem dL_describes_499 : decode cL_describes 499 = .ok (.iload 10, 2) := by decide +kernel
theorem dL_describes_501 : decode cL_describes 501 = .ok (.ireturn, 1) := by decide +kernel
def is_L_describes (Rt : np_Rt) : List (Nat × np_Op) := [(0, np_ald 1 3), (1, np_push 1 (.int 0)), (2, nw_ialdT .int), (3, np_push 1 (.int 4)), (4, nq_icne 9), (7, np_push 1 (.int 1)), (8, np_ret Rt), (9, np_push 1 (.int 2)), (10, np_ild 1 1), (11, np_push 1 (.int 5)), (12, nq_ibn (fun x y => x - x / y * y)), (13, np_ib (fun x y => x + y)), (14, nw_ist 2 4), (16, np_ald 1 0), (17, nw_callV 11 1 sp_X11_dropItems 2 0 0 9 54), (20, nw_ist 2 5), (22, np_push 1 (.int 0)), (23, nw_ist 2 6), (25, np_ild 1 1), (26, np_push 1 (.int 5)), (27, nq_ibn (fun x y => x / y)), (28, np_ild 1 2), (29, np_ib (fun x y => x ^^^ y)), (30, nw_ist 2 7), (32, np_push 1 (.int 0)), (33, nw_ist 2 8), (35, np_ild 2 8), (37, np_ild 2 4), (39, nq_ic (fun x y => y ≤ x) 398), (42, np_ild 2 7), (44, np_push 2 (.int 11)), (46, nq_ibn (fun x y => x - x / y * y)), (47, nw_ist 2 9), (49, np_ild 2 9), (51, np_push 2 (.int 10)), (53, nq_icne 60), (56, np_push 1 (.int 0)), (57, np_goto 62), (60, np_ild 2 9), (62, nw_ist 2 9), (64, np_ild 2 9), (66, nq_ifne 96), (69, np_ald 1 0), (70, np_push 1 (.int 0)), (71, np_ild 2 8), (73, np_push 1 (.int 2)), (74, np_ild 2 7), (76, np_push 2 (.int 11)), (78, nq_ibn (fun x y => x / y)), (79, np_push 1 (.int 5)), (80, nq_ibn (fun x y => x - x / y * y)), (81, np_ib (fun x y => x + y)), (82, np_ild 2 7), (84, np_push 2 (.int 55)), (86, nq_ibn (fun x y => x / y)), (87, np_push 2 (.int 9)), (89, nq_ibn (fun x y => x - x / y * y)), (90, nq_call 5 sp_L_items 6 1 6 9 54), (93, np_goto 342), (96, np_ild 2 9), (98, np_push 1 (.int 1)), (99, nq_icne 128), (102, np_ald 1 0), (103, np_push 1 (.int 1)), (104, np_ild 2 8), (106, np_push 1 (.int 1)), (107, np_ild 2 7), (109, np_push 2 (.int 11)), (111, nq_ibn (fun x y => x / y)), (112, np_push 1 (.int 5)), (113, nq_ibn (fun x y => x - x / y * y)), (114, np_ib (fun x y => x + y)), (115, np_ild 2 7), (117, np_push 2 (.int 55)), (119, nq_ibn (fun x y => x / y)), (120, np_push 1 (.int 3)), (121, nq_ibn (fun x y => x - x / y * y)), (122, nq_call 5 sp_L_items 6 1 6 9 54), (125, np_goto 342), (128, np_ild 2 9), (130, np_push 1 (.int 2)), (131, nq_icne 170), (134, np_ald 1 0), (135, np_push 1 (.int 2)), (136, np_ild 2 8), (138, np_ild 2 7), (140, np_push 2 (.int 11)), (142, nq_ibn (fun x y => x / y)), (143, np_push 1 (.int 3)), (144, nq_ibn (fun x y => x - x / y * y)), (145, nq_ifne 153), (148, np_push 2 (.int 98)), (150, np_goto 163), (153, np_push 2 (.int 59)), (155, np_ild 2 7), (157, np_push 2 (.int 33)), (159, nq_ibn (fun x y => x / y)), (160, np_push 1 (.int 4)), (161, nq_ibn (fun x y => x - x / y * y)), (162, np_ib (fun x y => x + y)), (163, np_push 1 (.int 0)), (164, nq_call 5 sp_L_items 6 1 6 9 54), (167, np_goto 342), (170, np_ild 2 9), (172, np_push 1 (.int 3)), (173, nq_icne 196), (176, np_ald 1 0), (177, np_push 1 (.int 3)), (178, np_ild 2 8), (180, np_push 1 (.int 1)), (181, np_ild 2 7), (183, np_push 2 (.int 11)), (185, nq_ibn (fun x y => x / y)), (186, np_push 1 (.int 4)), (187, nq_ibn (fun x y => x - x / y * y)), (188, np_ib (fun x y => x + y)), (189, np_push 1 (.int 0)), (190, nq_call 5 sp_L_items 6 1 6 9 54), (193, np_goto 342), (196, np_ild 2 9), (198, np_push 1 (.int 4)), (199, nq_icne 213), (202, np_ald 1 0), (203, np_push 1 (.int 4)), (204, np_push 1 (.int 0)), (205, np_push 1 (.int 0)), (206, np_push 1 (.int 0)), (207, nq_call 5 sp_L_items 6 1 6 9 54), (210, np_goto 342), (213, np_ild 2 9), (215, np_push 1 (.int 5)), (216, nq_icne 240), (219, np_ald 1 0), (220, np_push 1 (.int 5)), (221, np_push 2 (.int 32)), (223, np_ild 2 7), (225, np_push 2 (.int 11)), (227, nq_ibn (fun x y => x / y)), (228, np_push 2 (.int 95)), (230, nq_ibn (fun x y => x - x / y * y)), (231, np_ib (fun x y => x + y)), (232, np_push 1 (.int 0)), (233, np_push 1 (.int 0)), (234, nq_call 5 sp_L_items 6 1 6 9 54), (237, np_goto 342), (240, np_ild 2 9), (242, np_push 2 (.int 6)), (244, nq_icne 260), (247, np_ald 1 0), (248, np_push 2 (.int 6)), (250, np_ild 2 8), (252, np_push 1 (.int 0)), (253, np_push 1 (.int 0)), (254, nq_call 5 sp_L_items 6 1 6 9 54), (257, np_goto 342), (260, np_ild 2 9), (262, np_push 2 (.int 7)), (264, nq_icne 294), (267, np_ald 1 0), (268, np_push 2 (.int 7)), (270, np_ild 2 7), (272, np_push 2 (.int 11)), (274, nq_ibn (fun x y => x / y)), (275, np_ild 2 4), (277, nq_ibn (fun x y => x - x / y * y)), (278, np_push 1 (.int 1)), (279, np_ild 2 7), (281, np_push 2 (.int 88)), (283, nq_ibn (fun x y => x / y)), (284, np_push 1 (.int 2)), (285, nq_ibn (fun x y => x - x / y * y)), (286, np_ib (fun x y => x + y)), (287, np_push 1 (.int 0)), (288, nq_call 5 sp_L_items 6 1 6 9 54), (291, np_goto 342), (294, np_ild 2 9), (296, np_push 2 (.int 8)), (298, nq_icne 326), (301, np_ald 1 0), (302, np_push 2 (.int 8)), (304, np_ild 2 7), (306, np_push 2 (.int 11)), (308, nq_ibn (fun x y => x / y)), (309, np_ild 2 4), (311, nq_ibn (fun x y => x - x / y * y)), (312, np_push 1 (.int 1)), (313, np_ild 2 7), (315, np_push 2 (.int 88)), (317, nq_ibn (fun x y => x / y)), (318, np_push 1 (.int 4)), (319, nq_ibn (fun x y => x - x / y * y)), (320, nq_call 5 sp_L_items 6 1 6 9 54), (323, np_goto 342), (326, np_ald 1 0), (327, np_push 2 (.int 9)), (329, np_ild 2 7), (331, np_push 2 (.int 11)), (333, nq_ibn (fun x y => x / y)), (334, np_ild 2 4), (336, nq_ibn (fun x y => x - x / y * y)), (337, np_push 1 (.int 0)), (338, np_push 1 (.int 0)), (339, nq_call 5 sp_L_items 6 1 6 9 54), (342, nw_ist 2 10), (344, np_ild 2 6), (346, np_ild 2 10), (348, nq_if (fun x => x < 0) 355), (351, np_push 1 (.int 1)), (352, np_goto 356), (355, np_push 1 (.int 0)), (356, np_ib (fun x y => x + y)), (357, nw_ist 2 6), (359, np_ild 2 10), (361, nq_if (fun x => x < 0) 373), (364, np_ild 2 10), (366, np_ild 2 6), (368, nq_ic (fun x y => x = y) 373), (371, np_push 1 (.int 0)), (372, np_ret Rt), (373, np_ild 2 7), (375, np_push 1 (.int 3)), (376, np_ib (fun x y => x >>> (y &&& 31))), (377, np_push 3 (.int 7919)), (380, np_ild 1 2), (381, np_push 3 (.int 1000)), (384, nq_ibn (fun x y => x - x / y * y)), (385, np_ild 2 8), (387, np_ib (fun x y => x + y)), (388, np_ib (fun x y => x * y)), (389, np_ib (fun x y => x + y)), (390, nw_ist 2 7), (392, nw_iinc 8 1), (395, np_goto 35), (398, np_ald 1 0), (399, nw_callVX 11 1 sp_X11_description 2 1 6 9 54 []), (402, nw_ist 2 8), (404, np_ild 2 8), (406, nq_if (fun x => 0 ≤ x) 413), (409, np_push 1 (.int (-1))), (410, np_goto 419), (413, np_ald 1 0), (414, np_ild 2 8), (416, nw_callVX 11 2 sp_X11_sure 3 1 6 9 54 []), (419, nw_ist 2 9), (421, np_ild 2 5), (423, nq_if (fun x => x < 0) 480), (426, np_ild 2 8), (428, np_push 1 (.int (-1))), (429, nq_ic (fun x y => x = y) 445), (432, np_ild 2 8), (434, np_ald 1 3), (435, np_push 1 (.int 0)), (436, nw_ialdT .int), (437, nq_icne 480), (440, np_ild 2 6), (442, nq_if (fun x => x ≤ 0) 480), (445, np_ild 2 9), (447, np_ild 2 6), (449, nq_ic (fun x y => y ≤ x) 480), (452, np_ild 2 9), (454, np_push 1 (.int (-1))), (455, nq_ic (fun x y => x < y) 480), (458, np_ald 1 0), (459, nw_callV 11 1 sp_X11_dropItems 2 0 0 9 54), (462, np_ild 2 8), (464, nq_if (fun x => 0 ≤ x) 472), (467, np_ild 2 6), (469, np_goto 473), (472, np_push 1 (.int 0)), (473, nq_icne 480), (476, np_push 1 (.int 1)), (477, np_goto 481), (480, np_push 1 (.int 0)), (481, nw_ist 2 10), (483, np_ald 1 3), (484, np_push 1 (.int 0)), (485, nq_dup2), (486, nw_ialdT .int), (487, np_ild 2 8), (489, nq_if (fun x => x < 0) 496), (492, np_push 1 (.int 1)), (493, np_goto 497), (496, np_push 1 (.int 0)), (497, np_ib (fun x y => x + y)), (498, nw_iastT .int), (499, np_ild 2 10), (501, np_ret Rt)]
set_option maxRecDepth 20000 in
theorem so_L_describes {X : np_Ctx} {Rt : np_Rt} (hX : np_ok RL cL_describes 11 8 152 9 54 .ireturn X) (hR : ∀ st w ce sl, Rt st w ce sl → X.2.2.1 st w ce sl) : ∀ q ∈ is_L_describes Rt, np_S X q.1 q.2 :=
  List.forall_mem_cons.mpr ⟨np_s_aload_n hX dL_describes_0 rfl, List.forall_mem_cons.mpr ⟨np_s_iconst hX dL_describes_1 (by decide), List.forall_mem_cons.mpr ⟨np_S.mono (op := np_ialdT .int) (np_s_iald hX dL_describes_2) nw_ialdT_le, List.forall_mem_cons.mpr ⟨np_s_iconst hX dL_describes_3 (by decide), List.forall_mem_cons.mpr ⟨np_S.mono (op := np_icne 9) (np_s_icmp_ne hX dL_describes_4 (by decide)) nq_icne_le, List.forall_mem_cons.mpr ⟨np_s_iconst hX dL_describes_7 (by decide), List.forall_mem_cons.mpr ⟨np_S.mono (op := np_ret X.2.2.1) (np_s_ret hX dL_describes_8) (nq_ret_le hR), List.forall_mem_cons.mpr ⟨np_s_iconst hX dL_describes_9 (by decide), List.forall_mem_cons.mpr ⟨np_s_iload_n hX dL_describes_10 rfl, List.forall_mem_cons.mpr ⟨np_s_iconst hX dL_describes_11 (by decide), List.forall_mem_cons.mpr ⟨np_S.mono (op := np_ibn (fun x y => x - x / y * y)) (np_s_irem hX dL_describes_12) nq_ibn_le, List.forall_mem_cons.mpr ⟨np_s_iadd hX dL_describes_13, List.forall_mem_cons.mpr ⟨np_S.mono (op := np_ist 2 4) (np_s_istore hX dL_describes_14 (by decide)) nw_ist_le, List.forall_mem_cons.mpr ⟨np_s_aload_n hX dL_describes_16 rfl, List.forall_mem_cons.mpr ⟨np_S.mono (op := np_callV 11 1 sp_X11_dropItems 2 0 0 9 54) (np_s_callV hX C_X11_dropItems dL_describes_17 (q := (RX11, TX11, 14)) rfl rfl gw497 gw63 gw494 gw495 gw496 ⟨by decide, by decide, by decide⟩ (by decide) (by decide)) nw_callV_le, List.forall_mem_cons.mpr ⟨np_S.mono (op := np_ist 2 5) (np_s_istore hX dL_describes_20 (by decide)) nw_ist_le, List.forall_mem_cons.mpr ⟨np_s_iconst hX dL_describes_22 (by decide), List.forall_mem_cons.mpr ⟨np_S.mono (op := np_ist 2 6) (np_s_istore hX dL_describes_23 (by decide)) nw_ist_le, List.forall_mem_cons.mpr ⟨np_s_iload_n hX dL_describes_25 rfl, List.forall_mem_cons.mpr ⟨np_s_iconst hX dL_describes_26 (by decide), List.forall_mem_cons.mpr ⟨np_S.mono (op := np_ibn (fun x y => x / y)) (np_s_idiv hX dL_describes_27) nq_ibn_le, List.forall_mem_cons.mpr ⟨np_s_iload_n hX dL_describes_28 rfl, List.forall_mem_cons.mpr ⟨np_s_ixor hX dL_describes_29, List.forall_mem_cons.mpr ⟨np_S.mono (op := np_ist 2 7) (np_s_istore hX dL_describes_30 (by decide)) nw_ist_le, List.forall_mem_cons.mpr ⟨np_s_iconst hX dL_describes_32 (by decide), List.forall_mem_cons.mpr ⟨np_S.mono (op := np_ist 2 8) (np_s_istore hX dL_describes_33 (by decide)) nw_ist_le, List.forall_mem_cons.mpr ⟨np_s_iload hX dL_describes_35, List.forall_mem_cons.mpr ⟨np_s_iload hX dL_describes_37, List.forall_mem_cons.mpr ⟨np_S.mono (op := np_ic (fun x y => y ≤ x) 398) (np_s_icmp_ge hX dL_describes_39 (by decide)) nq_ic_le, List.forall_mem_cons.mpr ⟨np_s_iload hX dL_describes_42, List.forall_mem_cons.mpr ⟨np_s_bipush hX dL_describes_44 (by decide), List.forall_mem_cons.mpr ⟨np_S.mono (op := np_ibn (fun x y => x - x / y * y)) (np_s_irem hX dL_describes_46) nq_ibn_le, List.forall_mem_cons.mpr ⟨np_S.mono (op := np_ist 2 9) (np_s_istore hX dL_describes_47 (by decide)) nw_ist_le, List.forall_mem_cons.mpr ⟨np_s_iload hX dL_describes_49, List.forall_mem_cons.mpr ⟨np_s_bipush hX dL_describes_51 (by decide), List.forall_mem_cons.mpr ⟨np_S.mono (op := np_icne 60) (np_s_icmp_ne hX dL_describes_53 (by decide)) nq_icne_le, List.forall_mem_cons.mpr ⟨np_s_iconst hX dL_describes_56 (by decide), List.forall_mem_cons.mpr ⟨np_s_goto hX dL_describes_57 (by decide), List.forall_mem_cons.mpr ⟨np_s_iload hX dL_describes_60, List.forall_mem_cons.mpr ⟨np_S.mono (op := np_ist 2 9) (np_s_istore hX dL_describes_62 (by decide)) nw_ist_le, List.forall_mem_cons.mpr ⟨np_s_iload hX dL_describes_64, List.forall_mem_cons.mpr ⟨np_S.mono (op := np_ifne 96) (np_s_if_ne hX dL_describes_66 (by decide)) nq_ifne_le, List.forall_mem_cons.mpr ⟨np_s_aload_n hX dL_describes_69 rfl, List.forall_mem_cons.mpr ⟨np_s_iconst hX dL_describes_70 (by decide), List.forall_mem_cons.mpr ⟨np_s_iload hX dL_describes_71, List.forall_mem_cons.mpr ⟨np_s_iconst hX dL_describes_73 (by decide), List.forall_mem_cons.mpr ⟨np_s_iload hX dL_describes_74, List.forall_mem_cons.mpr ⟨np_s_bipush hX dL_describes_76 (by decide), List.forall_mem_cons.mpr ⟨np_S.mono (op := np_ibn (fun x y => x / y)) (np_s_idiv hX dL_describes_78) nq_ibn_le, List.forall_mem_cons.mpr ⟨np_s_iconst hX dL_describes_79 (by decide), List.forall_mem_cons.mpr ⟨np_S.mono (op := np_ibn (fun x y => x - x / y * y)) (np_s_irem hX dL_describes_80) nq_ibn_le, List.forall_mem_cons.mpr ⟨np_s_iadd hX dL_describes_81, List.forall_mem_cons.mpr ⟨np_s_iload hX dL_describes_82, List.forall_mem_cons.mpr ⟨np_s_bipush hX dL_describes_84 (by decide), List.forall_mem_cons.mpr ⟨np_S.mono (op := np_ibn (fun x y => x / y)) (np_s_idiv hX dL_describes_86) nq_ibn_le, List.forall_mem_cons.mpr ⟨np_s_bipush hX dL_describes_87 (by decide), List.forall_mem_cons.mpr ⟨np_S.mono (op := np_ibn (fun x y => x - x / y * y)) (np_s_irem hX dL_describes_89) nq_ibn_le, List.forall_mem_cons.mpr ⟨np_S.mono (op := np_call 5 sp_L_items 6 1 6 9 54) (np_s_callSW hX C_L_items dL_describes_90 gw504 gw62 gw502 gw503 ⟨by decide, by decide, by decide⟩ (by decide) (by decide)) nq_call_le, List.forall_mem_cons.mpr ⟨np_s_goto hX dL_describes_93 (by decide), List.forall_mem_cons.mpr ⟨np_s_iload hX dL_describes_96, List.forall_mem_cons.mpr ⟨np_s_iconst hX dL_describes_98 (by decide), List.forall_mem_cons.mpr ⟨np_S.mono (op := np_icne 128) (np_s_icmp_ne hX dL_describes_99 (by decide)) nq_icne_le, List.forall_mem_cons.mpr ⟨np_s_aload_n hX dL_describes_102 rfl, List.forall_mem_cons.mpr ⟨np_s_iconst hX dL_describes_103 (by decide), List.forall_mem_cons.mpr ⟨np_s_iload hX dL_describes_104, List.forall_mem_cons.mpr ⟨np_s_iconst hX dL_describes_106 (by decide), List.forall_mem_cons.mpr ⟨np_s_iload hX dL_describes_107, List.forall_mem_cons.mpr ⟨np_s_bipush hX dL_describes_109 (by decide), List.forall_mem_cons.mpr ⟨np_S.mono (op := np_ibn (fun x y => x / y)) (np_s_idiv hX dL_describes_111) nq_ibn_le, List.forall_mem_cons.mpr ⟨np_s_iconst hX dL_describes_112 (by decide), List.forall_mem_cons.mpr ⟨np_S.mono (op := np_ibn (fun x y => x - x / y * y)) (np_s_irem hX dL_describes_113) nq_ibn_le, List.forall_mem_cons.mpr ⟨np_s_iadd hX dL_describes_114, List.forall_mem_cons.mpr ⟨np_s_iload hX dL_describes_115, List.forall_mem_cons.mpr ⟨np_s_bipush hX dL_describes_117 (by decide), List.forall_mem_cons.mpr ⟨np_S.mono (op := np_ibn (fun x y => x / y)) (np_s_idiv hX dL_describes_119) nq_ibn_le, List.forall_mem_cons.mpr ⟨np_s_iconst hX dL_describes_120 (by decide), List.forall_mem_cons.mpr ⟨np_S.mono (op := np_ibn (fun x y => x - x / y * y)) (np_s_irem hX dL_describes_121) nq_ibn_le, List.forall_mem_cons.mpr ⟨np_S.mono (op := np_call 5 sp_L_items 6 1 6 9 54) (np_s_callSW hX C_L_items dL_describes_122 gw504 gw62 gw502 gw503 ⟨by decide, by decide, by decide⟩ (by decide) (by decide)) nq_call_le, List.forall_mem_cons.mpr ⟨np_s_goto hX dL_describes_125 (by decide), List.forall_mem_cons.mpr ⟨np_s_iload hX dL_describes_128, List.forall_mem_cons.mpr ⟨np_s_iconst hX dL_describes_130 (by decide), List.forall_mem_cons.mpr ⟨np_S.mono (op := np_icne 170) (np_s_icmp_ne hX dL_describes_131 (by decide)) nq_icne_le, List.forall_mem_cons.mpr ⟨np_s_aload_n hX dL_describes_134 rfl, List.forall_mem_cons.mpr ⟨np_s_iconst hX dL_describes_135 (by decide), List.forall_mem_cons.mpr ⟨np_s_iload hX dL_describes_136, List.forall_mem_cons.mpr ⟨np_s_iload hX dL_describes_138, List.forall_mem_cons.mpr ⟨np_s_bipush hX dL_describes_140 (by decide), List.forall_mem_cons.mpr ⟨np_S.mono (op := np_ibn (fun x y => x / y)) (np_s_idiv hX dL_describes_142) nq_ibn_le, List.forall_mem_cons.mpr ⟨np_s_iconst hX dL_describes_143 (by decide), List.forall_mem_cons.mpr ⟨np_S.mono (op := np_ibn (fun x y => x - x / y * y)) (np_s_irem hX dL_describes_144) nq_ibn_le, List.forall_mem_cons.mpr ⟨np_S.mono (op := np_ifne 153) (np_s_if_ne hX dL_describes_145 (by decide)) nq_ifne_le, List.forall_mem_cons.mpr ⟨np_s_bipush hX dL_describes_148 (by decide), List.forall_mem_cons.mpr ⟨np_s_goto hX dL_describes_150 (by decide), List.forall_mem_cons.mpr ⟨np_s_bipush hX dL_describes_153 (by decide), List.forall_mem_cons.mpr ⟨np_s_iload hX dL_describes_155, List.forall_mem_cons.mpr ⟨np_s_bipush hX dL_describes_157 (by decide), List.forall_mem_cons.mpr ⟨np_S.mono (op := np_ibn (fun x y => x / y)) (np_s_idiv hX dL_describes_159) nq_ibn_le, List.forall_mem_cons.mpr ⟨np_s_iconst hX dL_describes_160 (by decide), List.forall_mem_cons.mpr ⟨np_S.mono (op := np_ibn (fun x y => x - x / y * y)) (np_s_irem hX dL_describes_161) nq_ibn_le, List.forall_mem_cons.mpr ⟨np_s_iadd hX dL_describes_162, List.forall_mem_cons.mpr ⟨np_s_iconst hX dL_describes_163 (by decide), List.forall_mem_cons.mpr ⟨np_S.mono (op := np_call 5 sp_L_items 6 1 6 9 54) (np_s_callSW hX C_L_items dL_describes_164 gw504 gw62 gw502 gw503 ⟨by decide, by decide, by decide⟩ (by decide) (by decide)) nq_call_le, List.forall_mem_cons.mpr ⟨np_s_goto hX dL_describes_167 (by decide), List.forall_mem_cons.mpr ⟨np_s_iload hX dL_describes_170, List.forall_mem_cons.mpr ⟨np_s_iconst hX dL_describes_172 (by decide), List.forall_mem_cons.mpr ⟨np_S.mono (op := np_icne 196) (np_s_icmp_ne hX dL_describes_173 (by decide)) nq_icne_le, List.forall_mem_cons.mpr ⟨np_s_aload_n hX dL_describes_176 rfl, List.forall_mem_cons.mpr ⟨np_s_iconst hX dL_describes_177 (by decide), List.forall_mem_cons.mpr ⟨np_s_iload hX dL_describes_178, List.forall_mem_cons.mpr ⟨np_s_iconst hX dL_describes_180 (by decide), List.forall_mem_cons.mpr ⟨np_s_iload hX dL_describes_181, List.forall_mem_cons.mpr ⟨np_s_bipush hX dL_describes_183 (by decide), List.forall_mem_cons.mpr ⟨np_S.mono (op := np_ibn (fun x y => x / y)) (np_s_idiv hX dL_describes_185) nq_ibn_le, List.forall_mem_cons.mpr ⟨np_s_iconst hX dL_describes_186 (by decide), List.forall_mem_cons.mpr ⟨np_S.mono (op := np_ibn (fun x y => x - x / y * y)) (np_s_irem hX dL_describes_187) nq_ibn_le, List.forall_mem_cons.mpr ⟨np_s_iadd hX dL_describes_188, List.forall_mem_cons.mpr ⟨np_s_iconst hX dL_describes_189 (by decide), List.forall_mem_cons.mpr ⟨np_S.mono (op := np_call 5 sp_L_items 6 1 6 9 54) (np_s_callSW hX C_L_items dL_describes_190 gw504 gw62 gw502 gw503 ⟨by decide, by decide, by decide⟩ (by decide) (by decide)) nq_call_le, List.forall_mem_cons.mpr ⟨np_s_goto hX dL_describes_193 (by decide), List.forall_mem_cons.mpr ⟨np_s_iload hX dL_describes_196, List.forall_mem_cons.mpr ⟨np_s_iconst hX dL_describes_198 (by decide), List.forall_mem_cons.mpr ⟨np_S.mono (op := np_icne 213) (np_s_icmp_ne hX dL_describes_199 (by decide)) nq_icne_le, List.forall_mem_cons.mpr ⟨np_s_aload_n hX dL_describes_202 rfl, List.forall_mem_cons.mpr ⟨np_s_iconst hX dL_describes_203 (by decide), List.forall_mem_cons.mpr ⟨np_s_iconst hX dL_describes_204 (by decide), List.forall_mem_cons.mpr ⟨np_s_iconst hX dL_describes_205 (by decide), List.forall_mem_cons.mpr ⟨np_s_iconst hX dL_describes_206 (by decide), List.forall_mem_cons.mpr ⟨np_S.mono (op := np_call 5 sp_L_items 6 1 6 9 54) (np_s_callSW hX C_L_items dL_describes_207 gw504 gw62 gw502 gw503 ⟨by decide, by decide, by decide⟩ (by decide) (by decide)) nq_call_le, List.forall_mem_cons.mpr ⟨np_s_goto hX dL_describes_210 (by decide), List.forall_mem_cons.mpr ⟨np_s_iload hX dL_describes_213, List.forall_mem_cons.mpr ⟨np_s_iconst hX dL_describes_215 (by decide), List.forall_mem_cons.mpr ⟨np_S.mono (op := np_icne 240) (np_s_icmp_ne hX dL_describes_216 (by decide)) nq_icne_le, List.forall_mem_cons.mpr ⟨np_s_aload_n hX dL_describes_219 rfl, List.forall_mem_cons.mpr ⟨np_s_iconst hX dL_describes_220 (by decide), List.forall_mem_cons.mpr ⟨np_s_bipush hX dL_describes_221 (by decide), List.forall_mem_cons.mpr ⟨np_s_iload hX dL_describes_223, List.forall_mem_cons.mpr ⟨np_s_bipush hX dL_describes_225 (by decide), List.forall_mem_cons.mpr ⟨np_S.mono (op := np_ibn (fun x y => x / y)) (np_s_idiv hX dL_describes_227) nq_ibn_le, List.forall_mem_cons.mpr ⟨np_s_bipush hX dL_describes_228 (by decide), List.forall_mem_cons.mpr ⟨np_S.mono (op := np_ibn (fun x y => x - x / y * y)) (np_s_irem hX dL_describes_230) nq_ibn_le, List.forall_mem_cons.mpr ⟨np_s_iadd hX dL_describes_231, List.forall_mem_cons.mpr ⟨np_s_iconst hX dL_describes_232 (by decide), List.forall_mem_cons.mpr ⟨np_s_iconst hX dL_describes_233 (by decide), List.forall_mem_cons.mpr ⟨np_S.mono (op := np_call 5 sp_L_items 6 1 6 9 54) (np_s_callSW hX C_L_items dL_describes_234 gw504 gw62 gw502 gw503 ⟨by decide, by decide, by decide⟩ (by decide) (by decide)) nq_call_le, List.forall_mem_cons.mpr ⟨np_s_goto hX dL_describes_237 (by decide), List.forall_mem_cons.mpr ⟨np_s_iload hX dL_describes_240, List.forall_mem_cons.mpr ⟨np_s_bipush hX dL_describes_242 (by decide), List.forall_mem_cons.mpr ⟨np_S.mono (op := np_icne 260) (np_s_icmp_ne hX dL_describes_244 (by decide)) nq_icne_le, List.forall_mem_cons.mpr ⟨np_s_aload_n hX dL_describes_247 rfl, List.forall_mem_cons.mpr ⟨np_s_bipush hX dL_describes_248 (by decide), List.forall_mem_cons.mpr ⟨np_s_iload hX dL_describes_250, List.forall_mem_cons.mpr ⟨np_s_iconst hX dL_describes_252 (by decide), List.forall_mem_cons.mpr ⟨np_s_iconst hX dL_describes_253 (by decide), List.forall_mem_cons.mpr ⟨np_S.mono (op := np_call 5 sp_L_items 6 1 6 9 54) (np_s_callSW hX C_L_items dL_describes_254 gw504 gw62 gw502 gw503 ⟨by decide, by decide, by decide⟩ (by decide) (by decide)) nq_call_le, List.forall_mem_cons.mpr ⟨np_s_goto hX dL_describes_257 (by decide), List.forall_mem_cons.mpr ⟨np_s_iload hX dL_describes_260, List.forall_mem_cons.mpr ⟨np_s_bipush hX dL_describes_262 (by decide), List.forall_mem_cons.mpr ⟨np_S.mono (op := np_icne 294) (np_s_icmp_ne hX dL_describes_264 (by decide)) nq_icne_le, List.forall_mem_cons.mpr ⟨np_s_aload_n hX dL_describes_267 rfl, List.forall_mem_cons.mpr ⟨np_s_bipush hX dL_describes_268 (by decide), List.forall_mem_cons.mpr ⟨np_s_iload hX dL_describes_270, List.forall_mem_cons.mpr ⟨np_s_bipush hX dL_describes_272 (by decide), List.forall_mem_cons.mpr ⟨np_S.mono (op := np_ibn (fun x y => x / y)) (np_s_idiv hX dL_describes_274) nq_ibn_le, List.forall_mem_cons.mpr ⟨np_s_iload hX dL_describes_275, List.forall_mem_cons.mpr ⟨np_S.mono (op := np_ibn (fun x y => x - x / y * y)) (np_s_irem hX dL_describes_277) nq_ibn_le, List.forall_mem_cons.mpr ⟨np_s_iconst hX dL_describes_278 (by decide), List.forall_mem_cons.mpr ⟨np_s_iload hX dL_describes_279, List.forall_mem_cons.mpr ⟨np_s_bipush hX dL_describes_281 (by decide), List.forall_mem_cons.mpr ⟨np_S.mono (op := np_ibn (fun x y => x / y)) (np_s_idiv hX dL_describes_283) nq_ibn_le, List.forall_mem_cons.mpr ⟨np_s_iconst hX dL_describes_284 (by decide), List.forall_mem_cons.mpr ⟨np_S.mono (op := np_ibn (fun x y => x - x / y * y)) (np_s_irem hX dL_describes_285) nq_ibn_le, List.forall_mem_cons.mpr ⟨np_s_iadd hX dL_describes_286, List.forall_mem_cons.mpr ⟨np_s_iconst hX dL_describes_287 (by decide), List.forall_mem_cons.mpr ⟨np_S.mono (op := np_call 5 sp_L_items 6 1 6 9 54) (np_s_callSW hX C_L_items dL_describes_288 gw504 gw62 gw502 gw503 ⟨by decide, by decide, by decide⟩ (by decide) (by decide)) nq_call_le, List.forall_mem_cons.mpr ⟨np_s_goto hX dL_describes_291 (by decide), List.forall_mem_cons.mpr ⟨np_s_iload hX dL_describes_294, List.forall_mem_cons.mpr ⟨np_s_bipush hX dL_describes_296 (by decide), List.forall_mem_cons.mpr ⟨np_S.mono (op := np_icne 326) (np_s_icmp_ne hX dL_describes_298 (by decide)) nq_icne_le, List.forall_mem_cons.mpr ⟨np_s_aload_n hX dL_describes_301 rfl, List.forall_mem_cons.mpr ⟨np_s_bipush hX dL_describes_302 (by decide), List.forall_mem_cons.mpr ⟨np_s_iload hX dL_describes_304, List.forall_mem_cons.mpr ⟨np_s_bipush hX dL_describes_306 (by decide), List.forall_mem_cons.mpr ⟨np_S.mono (op := np_ibn (fun x y => x / y)) (np_s_idiv hX dL_describes_308) nq_ibn_le, List.forall_mem_cons.mpr ⟨np_s_iload hX dL_describes_309, List.forall_mem_cons.mpr ⟨np_S.mono (op := np_ibn (fun x y => x - x / y * y)) (np_s_irem hX dL_describes_311) nq_ibn_le, List.forall_mem_cons.mpr ⟨np_s_iconst hX dL_describes_312 (by decide), List.forall_mem_cons.mpr ⟨np_s_iload hX dL_describes_313, List.forall_mem_cons.mpr ⟨np_s_bipush hX dL_describes_315 (by decide), List.forall_mem_cons.mpr ⟨np_S.mono (op := np_ibn (fun x y => x / y)) (np_s_idiv hX dL_describes_317) nq_ibn_le, List.forall_mem_cons.mpr ⟨np_s_iconst hX dL_describes_318 (by decide), List.forall_mem_cons.mpr ⟨np_S.mono (op := np_ibn (fun x y => x - x / y * y)) (np_s_irem hX dL_describes_319) nq_ibn_le, List.forall_mem_cons.mpr ⟨np_S.mono (op := np_call 5 sp_L_items 6 1 6 9 54) (np_s_callSW hX C_L_items dL_describes_320 gw504 gw62 gw502 gw503 ⟨by decide, by decide, by decide⟩ (by decide) (by decide)) nq_call_le, List.forall_mem_cons.mpr ⟨np_s_goto hX dL_describes_323 (by decide), List.forall_mem_cons.mpr ⟨np_s_aload_n hX dL_describes_326 rfl, List.forall_mem_cons.mpr ⟨np_s_bipush hX dL_describes_327 (by decide), List.forall_mem_cons.mpr ⟨np_s_iload hX dL_describes_329, List.forall_mem_cons.mpr ⟨np_s_bipush hX dL_describes_331 (by decide), List.forall_mem_cons.mpr ⟨np_S.mono (op := np_ibn (fun x y => x / y)) (np_s_idiv hX dL_describes_333) nq_ibn_le, List.forall_mem_cons.mpr ⟨np_s_iload hX dL_describes_334, List.forall_mem_cons.mpr ⟨np_S.mono (op := np_ibn (fun x y => x - x / y * y)) (np_s_irem hX dL_describes_336) nq_ibn_le, List.forall_mem_cons.mpr ⟨np_s_iconst hX dL_describes_337 (by decide), List.forall_mem_cons.mpr ⟨np_s_iconst hX dL_describes_338 (by decide), List.forall_mem_cons.mpr ⟨np_S.mono (op := np_call 5 sp_L_items 6 1 6 9 54) (np_s_callSW hX C_L_items dL_describes_339 gw504 gw62 gw502 gw503 ⟨by decide, by decide, by decide⟩ (by decide) (by decide)) nq_call_le, List.forall_mem_cons.mpr ⟨np_S.mono (op := np_ist 2 10) (np_s_istore hX dL_describes_342 (by decide)) nw_ist_le, List.forall_mem_cons.mpr ⟨np_s_iload hX dL_describes_344, List.forall_mem_cons.mpr ⟨np_s_iload hX dL_describes_346, List.forall_mem_cons.mpr ⟨np_S.mono (op := np_if (fun x => x < 0) 355) (np_s_if_lt hX dL_describes_348 (by decide)) nq_if_le, List.forall_mem_cons.mpr ⟨np_s_iconst hX dL_describes_351 (by decide), List.forall_mem_cons.mpr ⟨np_s_goto hX dL_describes_352 (by decide), List.forall_mem_cons.mpr ⟨np_s_iconst hX dL_describes_355 (by decide), List.forall_mem_cons.mpr ⟨np_s_iadd hX dL_describes_356, List.forall_mem_cons.mpr ⟨np_S.mono (op := np_ist 2 6) (np_s_istore hX dL_describes_357 (by decide)) nw_ist_le, List.forall_mem_cons.mpr ⟨np_s_iload hX dL_describes_359, List.forall_mem_cons.mpr ⟨np_S.mono (op := np_if (fun x => x < 0) 373) (np_s_if_lt hX dL_describes_361 (by decide)) nq_if_le, List.forall_mem_cons.mpr ⟨np_s_iload hX dL_describes_364, List.forall_mem_cons.mpr ⟨np_s_iload hX dL_describes_366, List.forall_mem_cons.mpr ⟨np_S.mono (op := np_ic (fun x y => x = y) 373) (np_s_icmp_eq hX dL_describes_368 (by decide)) nq_ic_le, List.forall_mem_cons.mpr ⟨np_s_iconst hX dL_describes_371 (by decide), List.forall_mem_cons.mpr ⟨np_S.mono (op := np_ret X.2.2.1) (np_s_ret hX dL_describes_372) (nq_ret_le hR), List.forall_mem_cons.mpr ⟨np_s_iload hX dL_describes_373, List.forall_mem_cons.mpr ⟨np_s_iconst hX dL_describes_375 (by decide), List.forall_mem_cons.mpr ⟨np_s_ishr hX dL_describes_376, List.forall_mem_cons.mpr ⟨np_s_sipush hX dL_describes_377 (by decide), List.forall_mem_cons.mpr ⟨np_s_iload_n hX dL_describes_380 rfl, List.forall_mem_cons.mpr ⟨np_s_sipush hX dL_describes_381 (by decide), List.forall_mem_cons.mpr ⟨np_S.mono (op := np_ibn (fun x y => x - x / y * y)) (np_s_irem hX dL_describes_384) nq_ibn_le, List.forall_mem_cons.mpr ⟨np_s_iload hX dL_describes_385, List.forall_mem_cons.mpr ⟨np_s_iadd hX dL_describes_387, List.forall_mem_cons.mpr ⟨np_s_imul hX dL_describes_388, List.forall_mem_cons.mpr ⟨np_s_iadd hX dL_describes_389, List.forall_mem_cons.mpr ⟨np_S.mono (op := np_ist 2 7) (np_s_istore hX dL_describes_390 (by decide)) nw_ist_le, List.forall_mem_cons.mpr ⟨np_S.mono (op := np_iinc 8 1) (np_s_iinc hX dL_describes_392 (by decide)) nw_iinc_le, List.forall_mem_cons.mpr ⟨np_s_goto hX dL_describes_395 (by decide), List.forall_mem_cons.mpr ⟨np_s_aload_n hX dL_describes_398 rfl, List.forall_mem_cons.mpr ⟨np_S.mono (op := np_callVX 11 1 sp_X11_description 2 1 6 9 54 []) (np_s_callVX hX C_X11_description dL_describes_399 (q := (RX11, TX11, 14)) rfl rfl gw637 gw63 gw634 gw635 gw636 ⟨by decide, by decide, by decide⟩ (by decide) (by decide) (fun _ h => nomatch h)) (nw_callVX_le2 (ci := 11) (n := 1) (sp := sp_X11_description) (maxL := 2) (mc := 1) (ms := 6) (RC := 9) (RS := 54) (hs := [])), List.forall_mem_cons.mpr ⟨np_S.mono (op := np_ist 2 8) (np_s_istore hX dL_describes_402 (by decide)) nw_ist_le, List.forall_mem_cons.mpr ⟨np_s_iload hX dL_describes_404, List.forall_mem_cons.mpr ⟨np_S.mono (op := np_if (fun x => 0 ≤ x) 413) (np_s_if_ge hX dL_describes_406 (by decide)) nq_if_le, List.forall_mem_cons.mpr ⟨np_s_iconst hX dL_describes_409 (by decide), List.forall_mem_cons.mpr ⟨np_s_goto hX dL_describes_410 (by decide), List.forall_mem_cons.mpr ⟨np_s_aload_n hX dL_describes_413 rfl, List.forall_mem_cons.mpr ⟨np_s_iload hX dL_describes_414, List.forall_mem_cons.mpr ⟨np_S.mono (op := np_callVX 11 2 sp_X11_sure 3 1 6 9 54 []) (np_s_callVX hX C_X11_sure dL_describes_416 (q := (RX11, TX11, 14)) rfl rfl gw695 gw63 gw692 gw693 gw694 ⟨by decide, by decide, by decide⟩ (by decide) (by decide) (fun _ h => nomatch h)) (nw_callVX_le2 (ci := 11) (n := 2) (sp := sp_X11_sure) (maxL := 3) (mc := 1) (ms := 6) (RC := 9) (RS := 54) (hs := [])), List.forall_mem_cons.mpr ⟨np_S.mono (op := np_ist 2 9) (np_s_istore hX dL_describes_419 (by decide)) nw_ist_le, List.forall_mem_cons.mpr ⟨np_s_iload hX dL_describes_421, List.forall_mem_cons.mpr ⟨np_S.mono (op := np_if (fun x => x < 0) 480) (np_s_if_lt hX dL_describes_423 (by decide)) nq_if_le, List.forall_mem_cons.mpr ⟨np_s_iload hX dL_describes_426, List.forall_mem_cons.mpr ⟨np_s_iconst hX dL_describes_428 (by decide), List.forall_mem_cons.mpr ⟨np_S.mono (op := np_ic (fun x y => x = y) 445) (np_s_icmp_eq hX dL_describes_429 (by decide)) nq_ic_le, List.forall_mem_cons.mpr ⟨np_s_iload hX dL_describes_432, List.forall_mem_cons.mpr ⟨np_s_aload_n hX dL_describes_434 rfl, List.forall_mem_cons.mpr ⟨np_s_iconst hX dL_describes_435 (by decide), List.forall_mem_cons.mpr ⟨np_S.mono (op := np_ialdT .int) (np_s_iald hX dL_describes_436) nw_ialdT_le, List.forall_mem_cons.mpr ⟨np_S.mono (op := np_icne 480) (np_s_icmp_ne hX dL_describes_437 (by decide)) nq_icne_le, List.forall_mem_cons.mpr ⟨np_s_iload hX dL_describes_440, List.forall_mem_cons.mpr ⟨np_S.mono (op := np_if (fun x => x ≤ 0) 480) (np_s_if_le hX dL_describes_442 (by decide)) nq_if_le, List.forall_mem_cons.mpr ⟨np_s_iload hX dL_describes_445, List.forall_mem_cons.mpr ⟨np_s_iload hX dL_describes_447, List.forall_mem_cons.mpr ⟨np_S.mono (op := np_ic (fun x y => y ≤ x) 480) (np_s_icmp_ge hX dL_describes_449 (by decide)) nq_ic_le, List.forall_mem_cons.mpr ⟨np_s_iload hX dL_describes_452, List.forall_mem_cons.mpr ⟨np_s_iconst hX dL_describes_454 (by decide), List.forall_mem_cons.mpr ⟨np_S.mono (op := np_ic (fun x y => x < y) 480) (np_s_icmp_lt hX dL_describes_455 (by decide)) nq_ic_le, List.forall_mem_cons.mpr ⟨np_s_aload_n hX dL_describes_458 rfl, List.forall_mem_cons.mpr ⟨np_S.mono (op := np_callV 11 1 sp_X11_dropItems 2 0 0 9 54) (np_s_callV hX C_X11_dropItems dL_describes_459 (q := (RX11, TX11, 14)) rfl rfl gw497 gw63 gw494 gw495 gw496 ⟨by decide, by decide, by decide⟩ (by decide) (by decide)) nw_callV_le, List.forall_mem_cons.mpr ⟨np_s_iload hX dL_describes_462, List.forall_mem_cons.mpr ⟨np_S.mono (op := np_if (fun x => 0 ≤ x) 472) (np_s_if_ge hX dL_describes_464 (by decide)) nq_if_le, List.forall_mem_cons.mpr ⟨np_s_iload hX dL_describes_467, List.forall_mem_cons.mpr ⟨np_s_goto hX dL_describes_469 (by decide), List.forall_mem_cons.mpr ⟨np_s_iconst hX dL_describes_472 (by decide), List.forall_mem_cons.mpr ⟨np_S.mono (op := np_icne 480) (np_s_icmp_ne hX dL_describes_473 (by decide)) nq_icne_le, List.forall_mem_cons.mpr ⟨np_s_iconst hX dL_describes_476 (by decide), List.forall_mem_cons.mpr ⟨np_s_goto hX dL_describes_477 (by decide), List.forall_mem_cons.mpr ⟨np_s_iconst hX dL_describes_480 (by decide), List.forall_mem_cons.mpr ⟨np_S.mono (op := np_ist 2 10) (np_s_istore hX dL_describes_481 (by decide)) nw_ist_le, List.forall_mem_cons.mpr ⟨np_s_aload_n hX dL_describes_483 rfl, List.forall_mem_cons.mpr ⟨np_s_iconst hX dL_describes_484 (by decide), List.forall_mem_cons.mpr ⟨np_S.mono (op := np_dup2) (np_s_dup2 hX dL_describes_485) nq_dup2_le, List.forall_mem_cons.mpr ⟨np_S.mono (op := np_ialdT .int) (np_s_iald hX dL_describes_486) nw_ialdT_le, List.forall_mem_cons.mpr ⟨np_s_iload hX dL_describes_487, List.forall_mem_cons.mpr ⟨np_S.mono (op := np_if (fun x => x < 0) 496) (np_s_if_lt hX dL_describes_489 (by decide)) nq_if_le, List.forall_mem_cons.mpr ⟨np_s_iconst hX dL_describes_492 (by decide), List.forall_mem_cons.mpr ⟨np_s_goto hX dL_describes_493 (by decide), List.forall_mem_cons.mpr ⟨np_s_iconst hX dL_describes_496 (by decide), List.forall_mem_cons.mpr ⟨np_s_iadd hX dL_describes_497, List.forall_mem_cons.mpr ⟨np_S.mono (op := np_iastT .int) (np_s_iast hX dL_describes_498) nw_iastT_le, List.forall_mem_cons.mpr ⟨np_s_iload hX dL_describes_499, List.forall_mem_cons.mpr ⟨np_S.mono (op := np_ret X.2.2.1) (np_s_ret hX dL_describes_501) (nq_ret_le hR), fun _ h => nomatch h⟩⟩⟩⟩⟩⟩⟩⟩⟩⟩⟩⟩⟩⟩⟩⟩⟩⟩⟩⟩⟩⟩⟩⟩⟩⟩⟩⟩⟩⟩⟩⟩⟩⟩⟩⟩⟩⟩⟩⟩⟩⟩⟩⟩⟩⟩⟩⟩⟩⟩⟩⟩⟩⟩⟩⟩⟩⟩⟩⟩⟩⟩⟩⟩⟩⟩⟩⟩⟩⟩⟩⟩⟩⟩⟩⟩⟩⟩⟩⟩⟩⟩⟩⟩⟩⟩⟩⟩⟩⟩⟩⟩⟩⟩⟩⟩⟩⟩⟩⟩⟩⟩⟩⟩⟩⟩⟩⟩⟩⟩⟩⟩⟩⟩⟩⟩⟩⟩⟩⟩⟩⟩⟩⟩⟩⟩⟩⟩⟩⟩⟩⟩⟩⟩⟩⟩⟩⟩⟩⟩⟩⟩⟩⟩⟩⟩⟩⟩⟩⟩⟩⟩⟩⟩⟩⟩⟩⟩⟩⟩⟩⟩⟩⟩⟩⟩⟩⟩⟩⟩⟩⟩⟩⟩⟩⟩⟩⟩⟩⟩⟩⟩⟩⟩⟩⟩⟩⟩⟩⟩⟩⟩⟩⟩⟩⟩⟩⟩⟩⟩⟩⟩⟩⟩⟩⟩⟩⟩⟩⟩⟩⟩⟩⟩⟩⟩⟩⟩⟩⟩⟩⟩⟩⟩⟩⟩⟩⟩⟩⟩⟩⟩⟩⟩⟩⟩⟩⟩⟩⟩⟩⟩⟩⟩⟩⟩⟩⟩⟩⟩⟩⟩⟩⟩⟩⟩⟩⟩⟩⟩⟩⟩⟩⟩⟩⟩⟩⟩⟩⟩⟩⟩⟩⟩⟩⟩⟩⟩⟩⟩⟩⟩⟩⟩⟩⟩⟩
noncomputable def m_L_describes_35 (k398 : pw_S → Nat → Nat → Nat → Int32 → Int32 → pw_R Int32) : Nat → pw_S → Nat → Int32 → Nat → Nat → Int32 → Int32 → Int32 → Int32 → Int32 → pw_R Int32
| 0, _, _, _, _, _, _, _, _, _, _ => none
| N + 1, S, v0, v2, va3, vi3, v4, v5, v6, v7, v8 =>
 if v4 ≤ v8 then
 (k398 S v0 va3 vi3 v5 v6)
 else
 (pw_l ((v7 - v7 / 11 * 11) : Int32) fun z1 =>
 if z1 = 10 then
 (pw_l (0 : Int32) fun z2 =>
 if z2 = 0 then
 (pw_b (m_L_items S v0 0 v8 (2 + ((v7 / 11) - (v7 / 11) / 5 * 5)) ((v7 / 55) - (v7 / 55) / 9 * 9)) fun S3 r6 =>
 pw_l (r6 : Int32) fun z8 =>
 if z8 < 0 then
 (pw_l ((v6 + 0) : Int32) fun z9 =>
 if z8 < 0 then
 (pw_l (((v7 >>> (3 &&& 31)) + (7919 * ((v2 - v2 / 1000 * 1000) + v8))) : Int32) fun z10 =>
 pw_l (v8 + 1 : Int32) fun z11 =>
 m_L_describes_35 k398 N S3 v0 v2 va3 vi3 v4 v5 z9 z10 z11)
 else
 (if z8 = z9 then
 (pw_l (((v7 >>> (3 &&& 31)) + (7919 * ((v2 - v2 / 1000 * 1000) + v8))) : Int32) fun z12 =>
 pw_l (v8 + 1 : Int32) fun z13 =>
 m_L_describes_35 k398 N S3 v0 v2 va3 vi3 v4 v5 z9 z12 z13)
 else
 (some (S3, 0))))
 else
 (pw_l ((v6 + 1) : Int32) fun z14 =>
 if z8 < 0 then
 (pw_l (((v7 >>> (3 &&& 31)) + (7919 * ((v2 - v2 / 1000 * 1000) + v8))) : Int32) fun z15 =>
 pw_l (v8 + 1 : Int32) fun z16 =>
 m_L_describes_35 k398 N S3 v0 v2 va3 vi3 v4 v5 z14 z15 z16)
 else
 (if z8 = z14 then
 (pw_l (((v7 >>> (3 &&& 31)) + (7919 * ((v2 - v2 / 1000 * 1000) + v8))) : Int32) fun z17 =>
 pw_l (v8 + 1 : Int32) fun z18 =>
 m_L_describes_35 k398 N S3 v0 v2 va3 vi3 v4 v5 z14 z17 z18)
 else
 (some (S3, 0)))))
 else
 (if z2 = 1 then
 (pw_b (m_L_items S v0 1 v8 (1 + ((v7 / 11) - (v7 / 11) / 5 * 5)) ((v7 / 55) - (v7 / 55) / 3 * 3)) fun S19 r22 =>
 pw_l (r22 : Int32) fun z24 =>
 if z24 < 0 then
 (pw_l ((v6 + 0) : Int32) fun z25 =>
 if z24 < 0 then
 (pw_l (((v7 >>> (3 &&& 31)) + (7919 * ((v2 - v2 / 1000 * 1000) + v8))) : Int32) fun z26 =>
 pw_l (v8 + 1 : Int32) fun z27 =>
 m_L_describes_35 k398 N S19 v0 v2 va3 vi3 v4 v5 z25 z26 z27)
 else
 (if z24 = z25 then
 (pw_l (((v7 >>> (3 &&& 31)) + (7919 * ((v2 - v2 / 1000 * 1000) + v8))) : Int32) fun z28 =>
 pw_l (v8 + 1 : Int32) fun z29 =>
 m_L_describes_35 k398 N S19 v0 v2 va3 vi3 v4 v5 z25 z28 z29)
 else
 (some (S19, 0))))
 else
 (pw_l ((v6 + 1) : Int32) fun z30 =>
 if z24 < 0 then
 (pw_l (((v7 >>> (3 &&& 31)) + (7919 * ((v2 - v2 / 1000 * 1000) + v8))) : Int32) fun z31 =>
 pw_l (v8 + 1 : Int32) fun z32 =>
 m_L_describes_35 k398 N S19 v0 v2 va3 vi3 v4 v5 z30 z31 z32)
 else
 (if z24 = z30 then
 (pw_l (((v7 >>> (3 &&& 31)) + (7919 * ((v2 - v2 / 1000 * 1000) + v8))) : Int32) fun z33 =>
 pw_l (v8 + 1 : Int32) fun z34 =>
 m_L_describes_35 k398 N S19 v0 v2 va3 vi3 v4 v5 z30 z33 z34)
 else
 (some (S19, 0)))))
 else
 (if z2 = 2 then
 (if ((v7 / 11) - (v7 / 11) / 3 * 3) = 0 then
 (pw_b (m_L_items S v0 2 v8 98 0) fun S35 r38 =>
 pw_l (r38 : Int32) fun z40 =>
 if z40 < 0 then
 (pw_l ((v6 + 0) : Int32) fun z41 =>
 if z40 < 0 then
 (pw_l (((v7 >>> (3 &&& 31)) + (7919 * ((v2 - v2 / 1000 * 1000) + v8))) : Int32) fun z42 =>
 pw_l (v8 + 1 : Int32) fun z43 =>
 m_L_describes_35 k398 N S35 v0 v2 va3 vi3 v4 v5 z41 z42 z43)
 else
 (if z40 = z41 then
 (pw_l (((v7 >>> (3 &&& 31)) + (7919 * ((v2 - v2 / 1000 * 1000) + v8))) : Int32) fun z44 =>
 pw_l (v8 + 1 : Int32) fun z45 =>
 m_L_describes_35 k398 N S35 v0 v2 va3 vi3 v4 v5 z41 z44 z45)
 else
 (some (S35, 0))))
 else
 (pw_l ((v6 + 1) : Int32) fun z46 =>
 if z40 < 0 then
 (pw_l (((v7 >>> (3 &&& 31)) + (7919 * ((v2 - v2 / 1000 * 1000) + v8))) : Int32) fun z47 =>
 pw_l (v8 + 1 : Int32) fun z48 =>
 m_L_describes_35 k398 N S35 v0 v2 va3 vi3 v4 v5 z46 z47 z48)
 else
 (if z40 = z46 then
 (pw_l (((v7 >>> (3 &&& 31)) + (7919 * ((v2 - v2 / 1000 * 1000) + v8))) : Int32) fun z49 =>
 pw_l (v8 + 1 : Int32) fun z50 =>
 m_L_describes_35 k398 N S35 v0 v2 va3 vi3 v4 v5 z46 z49 z50)
 else
 (some (S35, 0)))))
 else
 (pw_b (m_L_items S v0 2 v8 (59 + ((v7 / 33) - (v7 / 33) / 4 * 4)) 0) fun S51 r54 =>
 pw_l (r54 : Int32) fun z56 =>
 if z56 < 0 then
 (pw_l ((v6 + 0) : Int32) fun z57 =>
 if z56 < 0 then
 (pw_l (((v7 >>> (3 &&& 31)) + (7919 * ((v2 - v2 / 1000 * 1000) + v8))) : Int32) fun z58 =>
 pw_l (v8 + 1 : Int32) fun z59 =>
 m_L_describes_35 k398 N S51 v0 v2 va3 vi3 v4 v5 z57 z58 z59)
 else
 (if z56 = z57 then
 (pw_l (((v7 >>> (3 &&& 31)) + (7919 * ((v2 - v2 / 1000 * 1000) + v8))) : Int32) fun z60 =>
 pw_l (v8 + 1 : Int32) fun z61 =>
 m_L_describes_35 k398 N S51 v0 v2 va3 vi3 v4 v5 z57 z60 z61)
 else
 (some (S51, 0))))
 else
 (pw_l ((v6 + 1) : Int32) fun z62 =>
 if z56 < 0 then
 (pw_l (((v7 >>> (3 &&& 31)) + (7919 * ((v2 - v2 / 1000 * 1000) + v8))) : Int32) fun z63 =>
 pw_l (v8 + 1 : Int32) fun z64 =>
 m_L_describes_35 k398 N S51 v0 v2 va3 vi3 v4 v5 z62 z63 z64)
 else
 (if z56 = z62 then
 (pw_l (((v7 >>> (3 &&& 31)) + (7919 * ((v2 - v2 / 1000 * 1000) + v8))) : Int32) fun z65 =>
 pw_l (v8 + 1 : Int32) fun z66 =>
 m_L_describes_35 k398 N S51 v0 v2 va3 vi3 v4 v5 z62 z65 z66)
 else
 (some (S51, 0))))))
 else
 (if z2 = 3 then
 (pw_b (m_L_items S v0 3 v8 (1 + ((v7 / 11) - (v7 / 11) / 4 * 4)) 0) fun S67 r70 =>
 pw_l (r70 : Int32) fun z72 =>
 if z72 < 0 then
 (pw_l ((v6 + 0) : Int32) fun z73 =>
 if z72 < 0 then
 (pw_l (((v7 >>> (3 &&& 31)) + (7919 * ((v2 - v2 / 1000 * 1000) + v8))) : Int32) fun z74 =>
 pw_l (v8 + 1 : Int32) fun z75 =>
 m_L_describes_35 k398 N S67 v0 v2 va3 vi3 v4 v5 z73 z74 z75)
 else
 (if z72 = z73 then
 (pw_l (((v7 >>> (3 &&& 31)) + (7919 * ((v2 - v2 / 1000 * 1000) + v8))) : Int32) fun z76 =>
 pw_l (v8 + 1 : Int32) fun z77 =>
 m_L_describes_35 k398 N S67 v0 v2 va3 vi3 v4 v5 z73 z76 z77)
 else
 (some (S67, 0))))
 else
 (pw_l ((v6 + 1) : Int32) fun z78 =>
 if z72 < 0 then
 (pw_l (((v7 >>> (3 &&& 31)) + (7919 * ((v2 - v2 / 1000 * 1000) + v8))) : Int32) fun z79 =>
 pw_l (v8 + 1 : Int32) fun z80 =>
 m_L_describes_35 k398 N S67 v0 v2 va3 vi3 v4 v5 z78 z79 z80)
 else
 (if z72 = z78 then
 (pw_l (((v7 >>> (3 &&& 31)) + (7919 * ((v2 - v2 / 1000 * 1000) + v8))) : Int32) fun z81 =>
 pw_l (v8 + 1 : Int32) fun z82 =>
 m_L_describes_35 k398 N S67 v0 v2 va3 vi3 v4 v5 z78 z81 z82)
 else
 (some (S67, 0)))))
 else
 (if z2 = 4 then
 (pw_b (m_L_items S v0 4 0 0 0) fun S83 r86 =>
 pw_l (r86 : Int32) fun z88 =>
 if z88 < 0 then
 (pw_l ((v6 + 0) : Int32) fun z89 =>
 if z88 < 0 then
 (pw_l (((v7 >>> (3 &&& 31)) + (7919 * ((v2 - v2 / 1000 * 1000) + v8))) : Int32) fun z90 =>
 pw_l (v8 + 1 : Int32) fun z91 =>
 m_L_describes_35 k398 N S83 v0 v2 va3 vi3 v4 v5 z89 z90 z91)
 else
 (if z88 = z89 then
 (pw_l (((v7 >>> (3 &&& 31)) + (7919 * ((v2 - v2 / 1000 * 1000) + v8))) : Int32) fun z92 =>
 pw_l (v8 + 1 : Int32) fun z93 =>
 m_L_describes_35 k398 N S83 v0 v2 va3 vi3 v4 v5 z89 z92 z93)
 else
 (some (S83, 0))))
 else
 (pw_l ((v6 + 1) : Int32) fun z94 =>
 if z88 < 0 then
 (pw_l (((v7 >>> (3 &&& 31)) + (7919 * ((v2 - v2 / 1000 * 1000) + v8))) : Int32) fun z95 =>
 pw_l (v8 + 1 : Int32) fun z96 =>
 m_L_describes_35 k398 N S83 v0 v2 va3 vi3 v4 v5 z94 z95 z96)
 else
 (if z88 = z94 then
 (pw_l (((v7 >>> (3 &&& 31)) + (7919 * ((v2 - v2 / 1000 * 1000) + v8))) : Int32) fun z97 =>
 pw_l (v8 + 1 : Int32) fun z98 =>
 m_L_describes_35 k398 N S83 v0 v2 va3 vi3 v4 v5 z94 z97 z98)
 else
 (some (S83, 0)))))
 else
 (if z2 = 5 then
 (pw_b (m_L_items S v0 5 (32 + ((v7 / 11) - (v7 / 11) / 95 * 95)) 0 0) fun S99 r102 =>
 pw_l (r102 : Int32) fun z104 =>
 if z104 < 0 then
 (pw_l ((v6 + 0) : Int32) fun z105 =>
 if z104 < 0 then
 (pw_l (((v7 >>> (3 &&& 31)) + (7919 * ((v2 - v2 / 1000 * 1000) + v8))) : Int32) fun z106 =>
 pw_l (v8 + 1 : Int32) fun z107 =>
 m_L_describes_35 k398 N S99 v0 v2 va3 vi3 v4 v5 z105 z106 z107)
 else
 (if z104 = z105 then
 (pw_l (((v7 >>> (3 &&& 31)) + (7919 * ((v2 - v2 / 1000 * 1000) + v8))) : Int32) fun z108 =>
 pw_l (v8 + 1 : Int32) fun z109 =>
 m_L_describes_35 k398 N S99 v0 v2 va3 vi3 v4 v5 z105 z108 z109)
 else
 (some (S99, 0))))
 else
 (pw_l ((v6 + 1) : Int32) fun z110 =>
 if z104 < 0 then
 (pw_l (((v7 >>> (3 &&& 31)) + (7919 * ((v2 - v2 / 1000 * 1000) + v8))) : Int32) fun z111 =>
 pw_l (v8 + 1 : Int32) fun z112 =>
 m_L_describes_35 k398 N S99 v0 v2 va3 vi3 v4 v5 z110 z111 z112)
 else
 (if z104 = z110 then
 (pw_l (((v7 >>> (3 &&& 31)) + (7919 * ((v2 - v2 / 1000 * 1000) + v8))) : Int32) fun z113 =>
 pw_l (v8 + 1 : Int32) fun z114 =>
 m_L_describes_35 k398 N S99 v0 v2 va3 vi3 v4 v5 z110 z113 z114)
 else
 (some (S99, 0)))))
 else
 (if z2 = 6 then
 (pw_b (m_L_items S v0 6 v8 0 0) fun S115 r118 =>
 pw_l (r118 : Int32) fun z120 =>
 if z120 < 0 then
 (pw_l ((v6 + 0) : Int32) fun z121 =>
 if z120 < 0 then
 (pw_l (((v7 >>> (3 &&& 31)) + (7919 * ((v2 - v2 / 1000 * 1000) + v8))) : Int32) fun z122 =>
 pw_l (v8 + 1 : Int32) fun z123 =>
 m_L_describes_35 k398 N S115 v0 v2 va3 vi3 v4 v5 z121 z122 z123)
 else
 (if z120 = z121 then
 (pw_l (((v7 >>> (3 &&& 31)) + (7919 * ((v2 - v2 / 1000 * 1000) + v8))) : Int32) fun z124 =>
 pw_l (v8 + 1 : Int32) fun z125 =>
 m_L_describes_35 k398 N S115 v0 v2 va3 vi3 v4 v5 z121 z124 z125)
 else
 (some (S115, 0))))
 else
 (pw_l ((v6 + 1) : Int32) fun z126 =>
 if z120 < 0 then
 (pw_l (((v7 >>> (3 &&& 31)) + (7919 * ((v2 - v2 / 1000 * 1000) + v8))) : Int32) fun z127 =>
 pw_l (v8 + 1 : Int32) fun z128 =>
 m_L_describes_35 k398 N S115 v0 v2 va3 vi3 v4 v5 z126 z127 z128)
 else
 (if z120 = z126 then
 (pw_l (((v7 >>> (3 &&& 31)) + (7919 * ((v2 - v2 / 1000 * 1000) + v8))) : Int32) fun z129 =>
 pw_l (v8 + 1 : Int32) fun z130 =>
 m_L_describes_35 k398 N S115 v0 v2 va3 vi3 v4 v5 z126 z129 z130)
 else
 (some (S115, 0)))))
 else
 (if z2 = 7 then
 (pw_c (!decide (v4 = 0)) <|
 pw_b (m_L_items S v0 7 ((v7 / 11) - (v7 / 11) / v4 * v4) (1 + ((v7 / 88) - (v7 / 88) / 2 * 2)) 0) fun S131 r134 =>
 pw_l (r134 : Int32) fun z136 =>
 if z136 < 0 then
 (pw_l ((v6 + 0) : Int32) fun z137 =>
 if z136 < 0 then
 (pw_l (((v7 >>> (3 &&& 31)) + (7919 * ((v2 - v2 / 1000 * 1000) + v8))) : Int32) fun z138 =>
 pw_l (v8 + 1 : Int32) fun z139 =>
 m_L_describes_35 k398 N S131 v0 v2 va3 vi3 v4 v5 z137 z138 z139)
 else
 (if z136 = z137 then
 (pw_l (((v7 >>> (3 &&& 31)) + (7919 * ((v2 - v2 / 1000 * 1000) + v8))) : Int32) fun z140 =>
 pw_l (v8 + 1 : Int32) fun z141 =>
 m_L_describes_35 k398 N S131 v0 v2 va3 vi3 v4 v5 z137 z140 z141)
 else
 (some (S131, 0))))
 else
 (pw_l ((v6 + 1) : Int32) fun z142 =>
 if z136 < 0 then
 (pw_l (((v7 >>> (3 &&& 31)) + (7919 * ((v2 - v2 / 1000 * 1000) + v8))) : Int32) fun z143 =>
 pw_l (v8 + 1 : Int32) fun z144 =>
 m_L_describes_35 k398 N S131 v0 v2 va3 vi3 v4 v5 z142 z143 z144)
 else
 (if z136 = z142 then
 (pw_l (((v7 >>> (3 &&& 31)) + (7919 * ((v2 - v2 / 1000 * 1000) + v8))) : Int32) fun z145 =>
 pw_l (v8 + 1 : Int32) fun z146 =>
 m_L_describes_35 k398 N S131 v0 v2 va3 vi3 v4 v5 z142 z145 z146)
 else
 (some (S131, 0)))))
 else
 (if z2 = 8 then
 (pw_c (!decide (v4 = 0)) <|
 pw_b (m_L_items S v0 8 ((v7 / 11) - (v7 / 11) / v4 * v4) 1 ((v7 / 88) - (v7 / 88) / 4 * 4)) fun S147 r150 =>
 pw_l (r150 : Int32) fun z152 =>
 if z152 < 0 then
 (pw_l ((v6 + 0) : Int32) fun z153 =>
 if z152 < 0 then
 (pw_l (((v7 >>> (3 &&& 31)) + (7919 * ((v2 - v2 / 1000 * 1000) + v8))) : Int32) fun z154 =>
 pw_l (v8 + 1 : Int32) fun z155 =>
 m_L_describes_35 k398 N S147 v0 v2 va3 vi3 v4 v5 z153 z154 z155)
 else
 (if z152 = z153 then
 (pw_l (((v7 >>> (3 &&& 31)) + (7919 * ((v2 - v2 / 1000 * 1000) + v8))) : Int32) fun z156 =>
 pw_l (v8 + 1 : Int32) fun z157 =>
 m_L_describes_35 k398 N S147 v0 v2 va3 vi3 v4 v5 z153 z156 z157)
 else
 (some (S147, 0))))
 else
 (pw_l ((v6 + 1) : Int32) fun z158 =>
 if z152 < 0 then
 (pw_l (((v7 >>> (3 &&& 31)) + (7919 * ((v2 - v2 / 1000 * 1000) + v8))) : Int32) fun z159 =>
 pw_l (v8 + 1 : Int32) fun z160 =>
 m_L_describes_35 k398 N S147 v0 v2 va3 vi3 v4 v5 z158 z159 z160)
 else
 (if z152 = z158 then
 (pw_l (((v7 >>> (3 &&& 31)) + (7919 * ((v2 - v2 / 1000 * 1000) + v8))) : Int32) fun z161 =>
 pw_l (v8 + 1 : Int32) fun z162 =>
 m_L_describes_35 k398 N S147 v0 v2 va3 vi3 v4 v5 z158 z161 z162)
 else
 (some (S147, 0)))))
 else
 (pw_c (!decide (v4 = 0)) <|
 pw_b (m_L_items S v0 9 ((v7 / 11) - (v7 / 11) / v4 * v4) 0 0) fun S163 r166 =>
 pw_l (r166 : Int32) fun z168 =>
 if z168 < 0 then
 (pw_l ((v6 + 0) : Int32) fun z169 =>
 if z168 < 0 then
 (pw_l (((v7 >>> (3 &&& 31)) + (7919 * ((v2 - v2 / 1000 * 1000) + v8))) : Int32) fun z170 =>
 pw_l (v8 + 1 : Int32) fun z171 =>
 m_L_describes_35 k398 N S163 v0 v2 va3 vi3 v4 v5 z169 z170 z171)
 else
 (if z168 = z169 then
 (pw_l (((v7 >>> (3 &&& 31)) + (7919 * ((v2 - v2 / 1000 * 1000) + v8))) : Int32) fun z172 =>
 pw_l (v8 + 1 : Int32) fun z173 =>
 m_L_describes_35 k398 N S163 v0 v2 va3 vi3 v4 v5 z169 z172 z173)
 else
 (some (S163, 0))))
 else
 (pw_l ((v6 + 1) : Int32) fun z174 =>
 if z168 < 0 then
 (pw_l (((v7 >>> (3 &&& 31)) + (7919 * ((v2 - v2 / 1000 * 1000) + v8))) : Int32) fun z175 =>
 pw_l (v8 + 1 : Int32) fun z176 =>
 m_L_describes_35 k398 N S163 v0 v2 va3 vi3 v4 v5 z174 z175 z176)
 else
 (if z168 = z174 then
 (pw_l (((v7 >>> (3 &&& 31)) + (7919 * ((v2 - v2 / 1000 * 1000) + v8))) : Int32) fun z177 =>
 pw_l (v8 + 1 : Int32) fun z178 =>
 m_L_describes_35 k398 N S163 v0 v2 va3 vi3 v4 v5 z174 z177 z178)
 else
 (some (S163, 0))))))))))))))
 else
 (pw_l (z1 : Int32) fun z179 =>
 if z179 = 0 then
 (pw_b (m_L_items S v0 0 v8 (2 + ((v7 / 11) - (v7 / 11) / 5 * 5)) ((v7 / 55) - (v7 / 55) / 9 * 9)) fun S180 r183 =>
 pw_l (r183 : Int32) fun z185 =>
 if z185 < 0 then
 (pw_l ((v6 + 0) : Int32) fun z186 =>
 if z185 < 0 then
 (pw_l (((v7 >>> (3 &&& 31)) + (7919 * ((v2 - v2 / 1000 * 1000) + v8))) : Int32) fun z187 =>
 pw_l (v8 + 1 : Int32) fun z188 =>
 m_L_describes_35 k398 N S180 v0 v2 va3 vi3 v4 v5 z186 z187 z188)
 else
 (if z185 = z186 then
 (pw_l (((v7 >>> (3 &&& 31)) + (7919 * ((v2 - v2 / 1000 * 1000) + v8))) : Int32) fun z189 =>
 pw_l (v8 + 1 : Int32) fun z190 =>
 m_L_describes_35 k398 N S180 v0 v2 va3 vi3 v4 v5 z186 z189 z190)
 else
 (some (S180, 0))))
 else
 (pw_l ((v6 + 1) : Int32) fun z191 =>
 if z185 < 0 then
 (pw_l (((v7 >>> (3 &&& 31)) + (7919 * ((v2 - v2 / 1000 * 1000) + v8))) : Int32) fun z192 =>
 pw_l (v8 + 1 : Int32) fun z193 =>
 m_L_describes_35 k398 N S180 v0 v2 va3 vi3 v4 v5 z191 z192 z193)
 else
 (if z185 = z191 then
 (pw_l (((v7 >>> (3 &&& 31)) + (7919 * ((v2 - v2 / 1000 * 1000) + v8))) : Int32) fun z194 =>
 pw_l (v8 + 1 : Int32) fun z195 =>
 m_L_describes_35 k398 N S180 v0 v2 va3 vi3 v4 v5 z191 z194 z195)
 else
 (some (S180, 0)))))
 else
 (if z179 = 1 then
 (pw_b (m_L_items S v0 1 v8 (1 + ((v7 / 11) - (v7 / 11) / 5 * 5)) ((v7 / 55) - (v7 / 55) / 3 * 3)) fun S196 r199 =>
 pw_l (r199 : Int32) fun z201 =>
 if z201 < 0 then
 (pw_l ((v6 + 0) : Int32) fun z202 =>
 if z201 < 0 then
 (pw_l (((v7 >>> (3 &&& 31)) + (7919 * ((v2 - v2 / 1000 * 1000) + v8))) : Int32) fun z203 =>
 pw_l (v8 + 1 : Int32) fun z204 =>
 m_L_describes_35 k398 N S196 v0 v2 va3 vi3 v4 v5 z202 z203 z204)
 else
 (if z201 = z202 then
 (pw_l (((v7 >>> (3 &&& 31)) + (7919 * ((v2 - v2 / 1000 * 1000) + v8))) : Int32) fun z205 =>
 pw_l (v8 + 1 : Int32) fun z206 =>
 m_L_describes_35 k398 N S196 v0 v2 va3 vi3 v4 v5 z202 z205 z206)
 else
 (some (S196, 0))))
 else
 (pw_l ((v6 + 1) : Int32) fun z207 =>
 if z201 < 0 then
 (pw_l (((v7 >>> (3 &&& 31)) + (7919 * ((v2 - v2 / 1000 * 1000) + v8))) : Int32) fun z208 =>
 pw_l (v8 + 1 : Int32) fun z209 =>
 m_L_describes_35 k398 N S196 v0 v2 va3 vi3 v4 v5 z207 z208 z209)
 else
 (if z201 = z207 then
 (pw_l (((v7 >>> (3 &&& 31)) + (7919 * ((v2 - v2 / 1000 * 1000) + v8))) : Int32) fun z210 =>
 pw_l (v8 + 1 : Int32) fun z211 =>
 m_L_describes_35 k398 N S196 v0 v2 va3 vi3 v4 v5 z207 z210 z211)
 else
 (some (S196, 0)))))
 else
 (if z179 = 2 then
 (if ((v7 / 11) - (v7 / 11) / 3 * 3) = 0 then
 (pw_b (m_L_items S v0 2 v8 98 0) fun S212 r215 =>
 pw_l (r215 : Int32) fun z217 =>
 if z217 < 0 then
 (pw_l ((v6 + 0) : Int32) fun z218 =>
 if z217 < 0 then
 (pw_l (((v7 >>> (3 &&& 31)) + (7919 * ((v2 - v2 / 1000 * 1000) + v8))) : Int32) fun z219 =>
 pw_l (v8 + 1 : Int32) fun z220 =>
 m_L_describes_35 k398 N S212 v0 v2 va3 vi3 v4 v5 z218 z219 z220)
 else
 (if z217 = z218 then
 (pw_l (((v7 >>> (3 &&& 31)) + (7919 * ((v2 - v2 / 1000 * 1000) + v8))) : Int32) fun z221 =>
 pw_l (v8 + 1 : Int32) fun z222 =>
 m_L_describes_35 k398 N S212 v0 v2 va3 vi3 v4 v5 z218 z221 z222)
 else
 (some (S212, 0))))
 else
 (pw_l ((v6 + 1) : Int32) fun z223 =>
 if z217 < 0 then
 (pw_l (((v7 >>> (3 &&& 31)) + (7919 * ((v2 - v2 / 1000 * 1000) + v8))) : Int32) fun z224 =>
 pw_l (v8 + 1 : Int32) fun z225 =>
 m_L_describes_35 k398 N S212 v0 v2 va3 vi3 v4 v5 z223 z224 z225)
 else
 (if z217 = z223 then
 (pw_l (((v7 >>> (3 &&& 31)) + (7919 * ((v2 - v2 / 1000 * 1000) + v8))) : Int32) fun z226 =>
 pw_l (v8 + 1 : Int32) fun z227 =>
 m_L_describes_35 k398 N S212 v0 v2 va3 vi3 v4 v5 z223 z226 z227)
 else
 (some (S212, 0)))))
 else
 (pw_b (m_L_items S v0 2 v8 (59 + ((v7 / 33) - (v7 / 33) / 4 * 4)) 0) fun S228 r231 =>
 pw_l (r231 : Int32) fun z233 =>
 if z233 < 0 then
 (pw_l ((v6 + 0) : Int32) fun z234 =>
 if z233 < 0 then
 (pw_l (((v7 >>> (3 &&& 31)) + (7919 * ((v2 - v2 / 1000 * 1000) + v8))) : Int32) fun z235 =>
 pw_l (v8 + 1 : Int32) fun z236 =>
 m_L_describes_35 k398 N S228 v0 v2 va3 vi3 v4 v5 z234 z235 z236)
 else
 (if z233 = z234 then
 (pw_l (((v7 >>> (3 &&& 31)) + (7919 * ((v2 - v2 / 1000 * 1000) + v8))) : Int32) fun z237 =>
 pw_l (v8 + 1 : Int32) fun z238 =>
 m_L_describes_35 k398 N S228 v0 v2 va3 vi3 v4 v5 z234 z237 z238)
 else
 (some (S228, 0))))
 else
 (pw_l ((v6 + 1) : Int32) fun z239 =>
 if z233 < 0 then
 (pw_l (((v7 >>> (3 &&& 31)) + (7919 * ((v2 - v2 / 1000 * 1000) + v8))) : Int32) fun z240 =>
 pw_l (v8 + 1 : Int32) fun z241 =>
 m_L_describes_35 k398 N S228 v0 v2 va3 vi3 v4 v5 z239 z240 z241)
 else
 (if z233 = z239 then
 (pw_l (((v7 >>> (3 &&& 31)) + (7919 * ((v2 - v2 / 1000 * 1000) + v8))) : Int32) fun z242 =>
 pw_l (v8 + 1 : Int32) fun z243 =>
 m_L_describes_35 k398 N S228 v0 v2 va3 vi3 v4 v5 z239 z242 z243)
 else
 (some (S228, 0))))))
 else
 (if z179 = 3 then
 (pw_b (m_L_items S v0 3 v8 (1 + ((v7 / 11) - (v7 / 11) / 4 * 4)) 0) fun S244 r247 =>
 pw_l (r247 : Int32) fun z249 =>
 if z249 < 0 then
 (pw_l ((v6 + 0) : Int32) fun z250 =>
 if z249 < 0 then
 (pw_l (((v7 >>> (3 &&& 31)) + (7919 * ((v2 - v2 / 1000 * 1000) + v8))) : Int32) fun z251 =>
 pw_l (v8 + 1 : Int32) fun z252 =>
 m_L_describes_35 k398 N S244 v0 v2 va3 vi3 v4 v5 z250 z251 z252)
 else
 (if z249 = z250 then
 (pw_l (((v7 >>> (3 &&& 31)) + (7919 * ((v2 - v2 / 1000 * 1000) + v8))) : Int32) fun z253 =>
 pw_l (v8 + 1 : Int32) fun z254 =>
 m_L_describes_35 k398 N S244 v0 v2 va3 vi3 v4 v5 z250 z253 z254)
 else
 (some (S244, 0))))
 else
 (pw_l ((v6 + 1) : Int32) fun z255 =>
 if z249 < 0 then
 (pw_l (((v7 >>> (3 &&& 31)) + (7919 * ((v2 - v2 / 1000 * 1000) + v8))) : Int32) fun z256 =>
 pw_l (v8 + 1 : Int32) fun z257 =>
 m_L_describes_35 k398 N S244 v0 v2 va3 vi3 v4 v5 z255 z256 z257)
 else
 (if z249 = z255 then
 (pw_l (((v7 >>> (3 &&& 31)) + (7919 * ((v2 - v2 / 1000 * 1000) + v8))) : Int32) fun z258 =>
 pw_l (v8 + 1 : Int32) fun z259 =>
 m_L_describes_35 k398 N S244 v0 v2 va3 vi3 v4 v5 z255 z258 z259)
 else
 (some (S244, 0)))))
 else
 (if z179 = 4 then
 (pw_b (m_L_items S v0 4 0 0 0) fun S260 r263 =>
 pw_l (r263 : Int32) fun z265 =>
 if z265 < 0 then
 (pw_l ((v6 + 0) : Int32) fun z266 =>
 if z265 < 0 then
 (pw_l (((v7 >>> (3 &&& 31)) + (7919 * ((v2 - v2 / 1000 * 1000) + v8))) : Int32) fun z267 =>
 pw_l (v8 + 1 : Int32) fun z268 =>
 m_L_describes_35 k398 N S260 v0 v2 va3 vi3 v4 v5 z266 z267 z268)
 else
 (if z265 = z266 then
 (pw_l (((v7 >>> (3 &&& 31)) + (7919 * ((v2 - v2 / 1000 * 1000) + v8))) : Int32) fun z269 =>
 pw_l (v8 + 1 : Int32) fun z270 =>
 m_L_describes_35 k398 N S260 v0 v2 va3 vi3 v4 v5 z266 z269 z270)
 else
 (some (S260, 0))))
 else
 (pw_l ((v6 + 1) : Int32) fun z271 =>
 if z265 < 0 then
 (pw_l (((v7 >>> (3 &&& 31)) + (7919 * ((v2 - v2 / 1000 * 1000) + v8))) : Int32) fun z272 =>
 pw_l (v8 + 1 : Int32) fun z273 =>
 m_L_describes_35 k398 N S260 v0 v2 va3 vi3 v4 v5 z271 z272 z273)
 else
 (if z265 = z271 then
 (pw_l (((v7 >>> (3 &&& 31)) + (7919 * ((v2 - v2 / 1000 * 1000) + v8))) : Int32) fun z274 =>
 pw_l (v8 + 1 : Int32) fun z275 =>
 m_L_describes_35 k398 N S260 v0 v2 va3 vi3 v4 v5 z271 z274 z275)
 else
 (some (S260, 0)))))
 else
 (if z179 = 5 then
 (pw_b (m_L_items S v0 5 (32 + ((v7 / 11) - (v7 / 11) / 95 * 95)) 0 0) fun S276 r279 =>
 pw_l (r279 : Int32) fun z281 =>
 if z281 < 0 then
 (pw_l ((v6 + 0) : Int32) fun z282 =>
 if z281 < 0 then
 (pw_l (((v7 >>> (3 &&& 31)) + (7919 * ((v2 - v2 / 1000 * 1000) + v8))) : Int32) fun z283 =>
 pw_l (v8 + 1 : Int32) fun z284 =>
 m_L_describes_35 k398 N S276 v0 v2 va3 vi3 v4 v5 z282 z283 z284)
 else
 (if z281 = z282 then
 (pw_l (((v7 >>> (3 &&& 31)) + (7919 * ((v2 - v2 / 1000 * 1000) + v8))) : Int32) fun z285 =>
 pw_l (v8 + 1 : Int32) fun z286 =>
 m_L_describes_35 k398 N S276 v0 v2 va3 vi3 v4 v5 z282 z285 z286)
 else
 (some (S276, 0))))
 else
 (pw_l ((v6 + 1) : Int32) fun z287 =>
 if z281 < 0 then
 (pw_l (((v7 >>> (3 &&& 31)) + (7919 * ((v2 - v2 / 1000 * 1000) + v8))) : Int32) fun z288 =>
 pw_l (v8 + 1 : Int32) fun z289 =>
 m_L_describes_35 k398 N S276 v0 v2 va3 vi3 v4 v5 z287 z288 z289)
 else
 (if z281 = z287 then
 (pw_l (((v7 >>> (3 &&& 31)) + (7919 * ((v2 - v2 / 1000 * 1000) + v8))) : Int32) fun z290 =>
 pw_l (v8 + 1 : Int32) fun z291 =>
 m_L_describes_35 k398 N S276 v0 v2 va3 vi3 v4 v5 z287 z290 z291)
 else
 (some (S276, 0)))))
 else
 (if z179 = 6 then
 (pw_b (m_L_items S v0 6 v8 0 0) fun S292 r295 =>
 pw_l (r295 : Int32) fun z297 =>
 if z297 < 0 then
 (pw_l ((v6 + 0) : Int32) fun z298 =>
 if z297 < 0 then
 (pw_l (((v7 >>> (3 &&& 31)) + (7919 * ((v2 - v2 / 1000 * 1000) + v8))) : Int32) fun z299 =>
 pw_l (v8 + 1 : Int32) fun z300 =>
 m_L_describes_35 k398 N S292 v0 v2 va3 vi3 v4 v5 z298 z299 z300)
 else
 (if z297 = z298 then
 (pw_l (((v7 >>> (3 &&& 31)) + (7919 * ((v2 - v2 / 1000 * 1000) + v8))) : Int32) fun z301 =>
 pw_l (v8 + 1 : Int32) fun z302 =>
 m_L_describes_35 k398 N S292 v0 v2 va3 vi3 v4 v5 z298 z301 z302)
 else
 (some (S292, 0))))
 else
 (pw_l ((v6 + 1) : Int32) fun z303 =>
 if z297 < 0 then
 (pw_l (((v7 >>> (3 &&& 31)) + (7919 * ((v2 - v2 / 1000 * 1000) + v8))) : Int32) fun z304 =>
 pw_l (v8 + 1 : Int32) fun z305 =>
 m_L_describes_35 k398 N S292 v0 v2 va3 vi3 v4 v5 z303 z304 z305)
 else
 (if z297 = z303 then
 (pw_l (((v7 >>> (3 &&& 31)) + (7919 * ((v2 - v2 / 1000 * 1000) + v8))) : Int32) fun z306 =>
 pw_l (v8 + 1 : Int32) fun z307 =>
 m_L_describes_35 k398 N S292 v0 v2 va3 vi3 v4 v5 z303 z306 z307)
 else
 (some (S292, 0)))))
 else
 (if z179 = 7 then
 (pw_c (!decide (v4 = 0)) <|
 pw_b (m_L_items S v0 7 ((v7 / 11) - (v7 / 11) / v4 * v4) (1 + ((v7 / 88) - (v7 / 88) / 2 * 2)) 0) fun S308 r311 =>
 pw_l (r311 : Int32) fun z313 =>
 if z313 < 0 then
 (pw_l ((v6 + 0) : Int32) fun z314 =>
 if z313 < 0 then
 (pw_l (((v7 >>> (3 &&& 31)) + (7919 * ((v2 - v2 / 1000 * 1000) + v8))) : Int32) fun z315 =>
 pw_l (v8 + 1 : Int32) fun z316 =>
 m_L_describes_35 k398 N S308 v0 v2 va3 vi3 v4 v5 z314 z315 z316)
 else
 (if z313 = z314 then
 (pw_l (((v7 >>> (3 &&& 31)) + (7919 * ((v2 - v2 / 1000 * 1000) + v8))) : Int32) fun z317 =>
 pw_l (v8 + 1 : Int32) fun z318 =>
 m_L_describes_35 k398 N S308 v0 v2 va3 vi3 v4 v5 z314 z317 z318)
 else
 (some (S308, 0))))
 else
 (pw_l ((v6 + 1) : Int32) fun z319 =>
 if z313 < 0 then
 (pw_l (((v7 >>> (3 &&& 31)) + (7919 * ((v2 - v2 / 1000 * 1000) + v8))) : Int32) fun z320 =>
 pw_l (v8 + 1 : Int32) fun z321 =>
 m_L_describes_35 k398 N S308 v0 v2 va3 vi3 v4 v5 z319 z320 z321)
 else
 (if z313 = z319 then
 (pw_l (((v7 >>> (3 &&& 31)) + (7919 * ((v2 - v2 / 1000 * 1000) + v8))) : Int32) fun z322 =>
 pw_l (v8 + 1 : Int32) fun z323 =>
 m_L_describes_35 k398 N S308 v0 v2 va3 vi3 v4 v5 z319 z322 z323)
 else
 (some (S308, 0)))))
 else
 (if z179 = 8 then
 (pw_c (!decide (v4 = 0)) <|
 pw_b (m_L_items S v0 8 ((v7 / 11) - (v7 / 11) / v4 * v4) 1 ((v7 / 88) - (v7 / 88) / 4 * 4)) fun S324 r327 =>
 pw_l (r327 : Int32) fun z329 =>
 if z329 < 0 then
 (pw_l ((v6 + 0) : Int32) fun z330 =>
 if z329 < 0 then
 (pw_l (((v7 >>> (3 &&& 31)) + (7919 * ((v2 - v2 / 1000 * 1000) + v8))) : Int32) fun z331 =>
 pw_l (v8 + 1 : Int32) fun z332 =>
 m_L_describes_35 k398 N S324 v0 v2 va3 vi3 v4 v5 z330 z331 z332)
 else
 (if z329 = z330 then
 (pw_l (((v7 >>> (3 &&& 31)) + (7919 * ((v2 - v2 / 1000 * 1000) + v8))) : Int32) fun z333 =>
 pw_l (v8 + 1 : Int32) fun z334 =>
 m_L_describes_35 k398 N S324 v0 v2 va3 vi3 v4 v5 z330 z333 z334)
 else
 (some (S324, 0))))
 else
 (pw_l ((v6 + 1) : Int32) fun z335 =>
 if z329 < 0 then
 (pw_l (((v7 >>> (3 &&& 31)) + (7919 * ((v2 - v2 / 1000 * 1000) + v8))) : Int32) fun z336 =>
 pw_l (v8 + 1 : Int32) fun z337 =>
 m_L_describes_35 k398 N S324 v0 v2 va3 vi3 v4 v5 z335 z336 z337)
 else
 (if z329 = z335 then
 (pw_l (((v7 >>> (3 &&& 31)) + (7919 * ((v2 - v2 / 1000 * 1000) + v8))) : Int32) fun z338 =>
 pw_l (v8 + 1 : Int32) fun z339 =>
 m_L_describes_35 k398 N S324 v0 v2 va3 vi3 v4 v5 z335 z338 z339)
 else
 (some (S324, 0)))))
 else
 (pw_c (!decide (v4 = 0)) <|
 pw_b (m_L_items S v0 9 ((v7 / 11) - (v7 / 11) / v4 * v4) 0 0) fun S340 r343 =>
 pw_l (r343 : Int32) fun z345 =>
 if z345 < 0 then
 (pw_l ((v6 + 0) : Int32) fun z346 =>
 if z345 < 0 then
 (pw_l (((v7 >>> (3 &&& 31)) + (7919 * ((v2 - v2 / 1000 * 1000) + v8))) : Int32) fun z347 =>
 pw_l (v8 + 1 : Int32) fun z348 =>
 m_L_describes_35 k398 N S340 v0 v2 va3 vi3 v4 v5 z346 z347 z348)
 else
 (if z345 = z346 then
 (pw_l (((v7 >>> (3 &&& 31)) + (7919 * ((v2 - v2 / 1000 * 1000) + v8))) : Int32) fun z349 =>
 pw_l (v8 + 1 : Int32) fun z350 =>
 m_L_describes_35 k398 N S340 v0 v2 va3 vi3 v4 v5 z346 z349 z350)
 else
 (some (S340, 0))))
 else
 (pw_l ((v6 + 1) : Int32) fun z351 =>
 if z345 < 0 then
 (pw_l (((v7 >>> (3 &&& 31)) + (7919 * ((v2 - v2 / 1000 * 1000) + v8))) : Int32) fun z352 =>
 pw_l (v8 + 1 : Int32) fun z353 =>
 m_L_describes_35 k398 N S340 v0 v2 va3 vi3 v4 v5 z351 z352 z353)
 else
 (if z345 = z351 then
 (pw_l (((v7 >>> (3 &&& 31)) + (7919 * ((v2 - v2 / 1000 * 1000) + v8))) : Int32) fun z354 =>
 pw_l (v8 + 1 : Int32) fun z355 =>
 m_L_describes_35 k398 N S340 v0 v2 va3 vi3 v4 v5 z351 z354 z355)
 else
 (some (S340, 0)))))))))))))))
set_option maxRecDepth 100000 in
set_option maxHeartbeats 8000000 in
theorem L_L_describes_35 {X : np_Ctx} (hX : np_ok RL cL_describes 11 8 152 9 54 .ireturn X) {Q : Option Value → np_W → Prop} {q : Nat} {n dc ds : Nat} (hR : ∀ st w ce sl, np_rt (some .boolean) 9 54 Q st w ce sl → X.2.2.1 st w ce sl) {k398 : pw_S → Nat → Nat → Nat → Int32 → Int32 → pw_R Int32} (hk398 : ∀ (S : pw_S) (v0 : Nat) (va3 : Nat) (vi3 : Nat) (v5 : Int32) (v6 : Int32) (f : Nat → Option np_E) (ce sl : Nat) (hv0 : pw_ok q 61 v0 = true) (ha3 : pw_arr va3 = true) (hi3 : pw_ok q va3 vi3 = true), ce + dc ≤ 9 → sl + ds ≤ 54 → pw_W q (n, f) S → pw_p (k398 S v0 va3 vi3 v5 v6) (fun S' r => ∀ f', pw_W q (n, f') S' → Q (some (.int r)) (n, f')) → np_G X 398 [(0, .ref (pw_pl 61 v0)), (3, .ref (pw_pl va3 vi3)), (5, .int v5), (6, .int v6)] [] (n, f) ce sl) : ∀ (N : Nat) (S : pw_S) (v0 : Nat) (v2 : Int32) (va3 : Nat) (vi3 : Nat) (v4 : Int32) (v5 : Int32) (v6 : Int32) (v7 : Int32) (v8 : Int32) (f : Nat → Option np_E) (ce sl : Nat) (hv0 : pw_ok q 61 v0 = true) (ha3 : pw_arr va3 = true) (hi3 : pw_ok q va3 vi3 = true), ce + N * 1 + dc ≤ 9 → sl + N * 6 + ds ≤ 54 → pw_W q (n, f) S → pw_p (m_L_describes_35 k398 N S v0 v2 va3 vi3 v4 v5 v6 v7 v8) (fun S' r => ∀ f', pw_W q (n, f') S' → Q (some (.int r)) (n, f')) → np_G X 35 [(0, .ref (pw_pl 61 v0)), (2, .int v2), (3, .ref (pw_pl va3 vi3)), (4, .int v4), (5, .int v5), (6, .int v6), (7, .int v7), (8, .int v8)] [] (n, f) ce sl := by
  intro N
  induction N with
  | zero =>
    intro S v0 v2 va3 vi3 v4 v5 v6 v7 v8 f ce sl hv0 ha3 hi3 hc hs hW h
    exact (pw_pn h).elim
  | succ N ih =>
    intro S v0 v2 va3 vi3 v4 v5 v6 v7 v8 f ce sl hv0 ha3 hi3 hc hs hW h
    unfold m_L_describes_35 at h
    refine np_soundW (so_L_describes hX hR) [35, 398] 400 35 _ _ _ _ _ ?_
    conv => whnf
    refine pw_br h (fun _ h => ?_) (fun _ h => ?_)
    · conv => whnf
      exact np_gl (hk398 S v0 va3 vi3 v5 v6 f _ _ hv0 ha3 hi3 (by omega) (by omega) hW h) ⟨rfl, rfl, rfl, rfl, trivial⟩
    · conv => whnf
      refine pw_st h (fun z1 h => ?_)
      conv => whnf
      refine pw_br h (fun _ h => ?_) (fun _ h => ?_)
      · conv => whnf
        refine pw_st h (fun z2 h => ?_)
        conv => whnf
        refine pw_br h (fun _ h => ?_) (fun _ h => ?_)
        · conv => whnf
          refine np_chk_i (pw_and rfl (pw_and rfl (pw_and rfl ((pw_and (pw_le (by omega)) (pw_le (by omega))))))) ?_
          conv => whnf
          refine ⟨q, S, v0, 0, v8, (2 + ((v7 / 11) - (v7 / 11) / 5 * 5)), ((v7 / 55) - (v7 / 55) / 9 * 9), rfl, hv0, hW, pw_bd h (fun S3 r6 h f4 hW5 => ?_)⟩
          conv => whnf
          refine pw_st h (fun z8 h => ?_)
          conv => whnf
          refine pw_br h (fun _ h => ?_) (fun _ h => ?_)
          · conv => whnf
            refine pw_st h (fun z9 h => ?_)
            conv => whnf
            refine pw_br h (fun _ h => ?_) (fun _ h => ?_)
            · conv => whnf
              refine pw_st h (fun z10 h => ?_)
              conv => whnf
              refine pw_st h (fun z11 h => ?_)
              conv => whnf
              exact np_gl (ih S3 v0 v2 va3 vi3 v4 v5 z9 z10 z11 f4 _ _ hv0 ha3 hi3 (by omega) (by omega) hW5 h) ⟨rfl, rfl, rfl, rfl, rfl, rfl, rfl, rfl, trivial⟩
            · conv => whnf
              refine pw_br h (fun _ h => ?_) (fun _ h => ?_)
              · conv => whnf
                refine pw_st h (fun z12 h => ?_)
                conv => whnf
                refine pw_st h (fun z13 h => ?_)
                conv => whnf
                exact np_gl (ih S3 v0 v2 va3 vi3 v4 v5 z9 z12 z13 f4 _ _ hv0 ha3 hi3 (by omega) (by omega) hW5 h) ⟨rfl, rfl, rfl, rfl, rfl, rfl, rfl, rfl, trivial⟩
              · conv => whnf
                exact ⟨(by omega), (by omega), ⟨_, rfl, by decide⟩, _, fun _ _ h9 => h9, pw_ps h _ hW5⟩
          · conv => whnf
            refine pw_st h (fun z14 h => ?_)
            conv => whnf
            refine pw_br h (fun _ h => ?_) (fun _ h => ?_)
            · conv => whnf
              refine pw_st h (fun z15 h => ?_)
              conv => whnf
              refine pw_st h (fun z16 h => ?_)
              conv => whnf
              exact np_gl (ih S3 v0 v2 va3 vi3 v4 v5 z14 z15 z16 f4 _ _ hv0 ha3 hi3 (by omega) (by omega) hW5 h) ⟨rfl, rfl, rfl, rfl, rfl, rfl, rfl, rfl, trivial⟩
            · conv => whnf
              refine pw_br h (fun _ h => ?_) (fun _ h => ?_)
              · conv => whnf
                refine pw_st h (fun z17 h => ?_)
                conv => whnf
                refine pw_st h (fun z18 h => ?_)
                conv => whnf
                exact np_gl (ih S3 v0 v2 va3 vi3 v4 v5 z14 z17 z18 f4 _ _ hv0 ha3 hi3 (by omega) (by omega) hW5 h) ⟨rfl, rfl, rfl, rfl, rfl, rfl, rfl, rfl, trivial⟩
              · conv => whnf
                exact ⟨(by omega), (by omega), ⟨_, rfl, by decide⟩, _, fun _ _ h9 => h9, pw_ps h _ hW5⟩
        · conv => whnf
          refine pw_br h (fun _ h => ?_) (fun _ h => ?_)
          · conv => whnf
            refine np_chk_i (pw_and rfl (pw_and rfl (pw_and rfl ((pw_and (pw_le (by omega)) (pw_le (by omega))))))) ?_
            conv => whnf
            refine ⟨q, S, v0, 1, v8, (1 + ((v7 / 11) - (v7 / 11) / 5 * 5)), ((v7 / 55) - (v7 / 55) / 3 * 3), rfl, hv0, hW, pw_bd h (fun S19 r22 h f20 hW21 => ?_)⟩
            conv => whnf
            refine pw_st h (fun z24 h => ?_)
            conv => whnf
            refine pw_br h (fun _ h => ?_) (fun _ h => ?_)
            · conv => whnf
              refine pw_st h (fun z25 h => ?_)
              conv => whnf
              refine pw_br h (fun _ h => ?_) (fun _ h => ?_)
              · conv => whnf
                refine pw_st h (fun z26 h => ?_)
                conv => whnf
                refine pw_st h (fun z27 h => ?_)
                conv => whnf
                exact np_gl (ih S19 v0 v2 va3 vi3 v4 v5 z25 z26 z27 f20 _ _ hv0 ha3 hi3 (by omega) (by omega) hW21 h) ⟨rfl, rfl, rfl, rfl, rfl, rfl, rfl, rfl, trivial⟩
              · conv => whnf
                refine pw_br h (fun _ h => ?_) (fun _ h => ?_)
                · conv => whnf
                  refine pw_st h (fun z28 h => ?_)
                  conv => whnf
                  refine pw_st h (fun z29 h => ?_)
                  conv => whnf
                  exact np_gl (ih S19 v0 v2 va3 vi3 v4 v5 z25 z28 z29 f20 _ _ hv0 ha3 hi3 (by omega) (by omega) hW21 h) ⟨rfl, rfl, rfl, rfl, rfl, rfl, rfl, rfl, trivial⟩
                · conv => whnf
                  exact ⟨(by omega), (by omega), ⟨_, rfl, by decide⟩, _, fun _ _ h9 => h9, pw_ps h _ hW21⟩
            · conv => whnf
              refine pw_st h (fun z30 h => ?_)
              conv => whnf
              refine pw_br h (fun _ h => ?_) (fun _ h => ?_)
              · conv => whnf
                refine pw_st h (fun z31 h => ?_)
                conv => whnf
                refine pw_st h (fun z32 h => ?_)
                conv => whnf
                exact np_gl (ih S19 v0 v2 va3 vi3 v4 v5 z30 z31 z32 f20 _ _ hv0 ha3 hi3 (by omega) (by omega) hW21 h) ⟨rfl, rfl, rfl, rfl, rfl, rfl, rfl, rfl, trivial⟩
              · conv => whnf
                refine pw_br h (fun _ h => ?_) (fun _ h => ?_)
                · conv => whnf
                  refine pw_st h (fun z33 h => ?_)
                  conv => whnf
                  refine pw_st h (fun z34 h => ?_)
                  conv => whnf
                  exact np_gl (ih S19 v0 v2 va3 vi3 v4 v5 z30 z33 z34 f20 _ _ hv0 ha3 hi3 (by omega) (by omega) hW21 h) ⟨rfl, rfl, rfl, rfl, rfl, rfl, rfl, rfl, trivial⟩
                · conv => whnf
                  exact ⟨(by omega), (by omega), ⟨_, rfl, by decide⟩, _, fun _ _ h9 => h9, pw_ps h _ hW21⟩
          · conv => whnf
            refine pw_br h (fun _ h => ?_) (fun _ h => ?_)
            · conv => whnf
              refine pw_br h (fun _ h => ?_) (fun _ h => ?_)
              · conv => whnf
                refine np_chk_i (pw_and rfl (pw_and rfl (pw_and rfl ((pw_and (pw_le (by omega)) (pw_le (by omega))))))) ?_
                conv => whnf
                refine ⟨q, S, v0, 2, v8, 98, 0, rfl, hv0, hW, pw_bd h (fun S35 r38 h f36 hW37 => ?_)⟩
                conv => whnf
                refine pw_st h (fun z40 h => ?_)
                conv => whnf
                refine pw_br h (fun _ h => ?_) (fun _ h => ?_)
                · conv => whnf
                  refine pw_st h (fun z41 h => ?_)
                  conv => whnf
                  refine pw_br h (fun _ h => ?_) (fun _ h => ?_)
                  · conv => whnf
                    refine pw_st h (fun z42 h => ?_)
                    conv => whnf
                    refine pw_st h (fun z43 h => ?_)
                    conv => whnf
                    exact np_gl (ih S35 v0 v2 va3 vi3 v4 v5 z41 z42 z43 f36 _ _ hv0 ha3 hi3 (by omega) (by omega) hW37 h) ⟨rfl, rfl, rfl, rfl, rfl, rfl, rfl, rfl, trivial⟩
                  · conv => whnf
                    refine pw_br h (fun _ h => ?_) (fun _ h => ?_)
                    · conv => whnf
                      refine pw_st h (fun z44 h => ?_)
                      conv => whnf
                      refine pw_st h (fun z45 h => ?_)
                      conv => whnf
                      exact np_gl (ih S35 v0 v2 va3 vi3 v4 v5 z41 z44 z45 f36 _ _ hv0 ha3 hi3 (by omega) (by omega) hW37 h) ⟨rfl, rfl, rfl, rfl, rfl, rfl, rfl, rfl, trivial⟩
                    · conv => whnf
                      exact ⟨(by omega), (by omega), ⟨_, rfl, by decide⟩, _, fun _ _ h9 => h9, pw_ps h _ hW37⟩
                · conv => whnf
                  refine pw_st h (fun z46 h => ?_)
                  conv => whnf
                  refine pw_br h (fun _ h => ?_) (fun _ h => ?_)
                  · conv => whnf
                    refine pw_st h (fun z47 h => ?_)
                    conv => whnf
                    refine pw_st h (fun z48 h => ?_)
                    conv => whnf
                    exact np_gl (ih S35 v0 v2 va3 vi3 v4 v5 z46 z47 z48 f36 _ _ hv0 ha3 hi3 (by omega) (by omega) hW37 h) ⟨rfl, rfl, rfl, rfl, rfl, rfl, rfl, rfl, trivial⟩
                  · conv => whnf
                    refine pw_br h (fun _ h => ?_) (fun _ h => ?_)
                    · conv => whnf
                      refine pw_st h (fun z49 h => ?_)
                      conv => whnf
                      refine pw_st h (fun z50 h => ?_)
                      conv => whnf
                      exact np_gl (ih S35 v0 v2 va3 vi3 v4 v5 z46 z49 z50 f36 _ _ hv0 ha3 hi3 (by omega) (by omega) hW37 h) ⟨rfl, rfl, rfl, rfl, rfl, rfl, rfl, rfl, trivial⟩
                    · conv => whnf
                      exact ⟨(by omega), (by omega), ⟨_, rfl, by decide⟩, _, fun _ _ h9 => h9, pw_ps h _ hW37⟩
              · conv => whnf
                refine np_chk_i (pw_and rfl (pw_and rfl (pw_and rfl ((pw_and (pw_le (by omega)) (pw_le (by omega))))))) ?_
                conv => whnf
                refine ⟨q, S, v0, 2, v8, (59 + ((v7 / 33) - (v7 / 33) / 4 * 4)), 0, rfl, hv0, hW, pw_bd h (fun S51 r54 h f52 hW53 => ?_)⟩
                conv => whnf
                refine pw_st h (fun z56 h => ?_)
                conv => whnf
                refine pw_br h (fun _ h => ?_) (fun _ h => ?_)
                · conv => whnf
                  refine pw_st h (fun z57 h => ?_)
                  conv => whnf
                  refine pw_br h (fun _ h => ?_) (fun _ h => ?_)
                  · conv => whnf
                    refine pw_st h (fun z58 h => ?_)
                    conv => whnf
                    refine pw_st h (fun z59 h => ?_)
                    conv => whnf
                    exact np_gl (ih S51 v0 v2 va3 vi3 v4 v5 z57 z58 z59 f52 _ _ hv0 ha3 hi3 (by omega) (by omega) hW53 h) ⟨rfl, rfl, rfl, rfl, rfl, rfl, rfl, rfl, trivial⟩
                  · conv => whnf
                    refine pw_br h (fun _ h => ?_) (fun _ h => ?_)
                    · conv => whnf
                      refine pw_st h (fun z60 h => ?_)
                      conv => whnf
                      refine pw_st h (fun z61 h => ?_)
                      conv => whnf
                      exact np_gl (ih S51 v0 v2 va3 vi3 v4 v5 z57 z60 z61 f52 _ _ hv0 ha3 hi3 (by omega) (by omega) hW53 h) ⟨rfl, rfl, rfl, rfl, rfl, rfl, rfl, rfl, trivial⟩
                    · conv => whnf
                      exact ⟨(by omega), (by omega), ⟨_, rfl, by decide⟩, _, fun _ _ h9 => h9, pw_ps h _ hW53⟩
                · conv => whnf
                  refine pw_st h (fun z62 h => ?_)
                  conv => whnf
                  refine pw_br h (fun _ h => ?_) (fun _ h => ?_)
                  · conv => whnf
                    refine pw_st h (fun z63 h => ?_)
                    conv => whnf
                    refine pw_st h (fun z64 h => ?_)
                    conv => whnf
                    exact np_gl (ih S51 v0 v2 va3 vi3 v4 v5 z62 z63 z64 f52 _ _ hv0 ha3 hi3 (by omega) (by omega) hW53 h) ⟨rfl, rfl, rfl, rfl, rfl, rfl, rfl, rfl, trivial⟩
                  · conv => whnf
                    refine pw_br h (fun _ h => ?_) (fun _ h => ?_)
                    · conv => whnf
                      refine pw_st h (fun z65 h => ?_)
                      conv => whnf
                      refine pw_st h (fun z66 h => ?_)
                      conv => whnf
                      exact np_gl (ih S51 v0 v2 va3 vi3 v4 v5 z62 z65 z66 f52 _ _ hv0 ha3 hi3 (by omega) (by omega) hW53 h) ⟨rfl, rfl, rfl, rfl, rfl, rfl, rfl, rfl, trivial⟩
                    · conv => whnf
                      exact ⟨(by omega), (by omega), ⟨_, rfl, by decide⟩, _, fun _ _ h9 => h9, pw_ps h _ hW53⟩
            · conv => whnf
              refine pw_br h (fun _ h => ?_) (fun _ h => ?_)
              · conv => whnf
                refine np_chk_i (pw_and rfl (pw_and rfl (pw_and rfl ((pw_and (pw_le (by omega)) (pw_le (by omega))))))) ?_
                conv => whnf
                refine ⟨q, S, v0, 3, v8, (1 + ((v7 / 11) - (v7 / 11) / 4 * 4)), 0, rfl, hv0, hW, pw_bd h (fun S67 r70 h f68 hW69 => ?_)⟩
                conv => whnf
                refine pw_st h (fun z72 h => ?_)
                conv => whnf
                refine pw_br h (fun _ h => ?_) (fun _ h => ?_)
                · conv => whnf
                  refine pw_st h (fun z73 h => ?_)
                  conv => whnf
                  refine pw_br h (fun _ h => ?_) (fun _ h => ?_)
                  · conv => whnf
                    refine pw_st h (fun z74 h => ?_)
                    conv => whnf
                    refine pw_st h (fun z75 h => ?_)
                    conv => whnf
                    exact np_gl (ih S67 v0 v2 va3 vi3 v4 v5 z73 z74 z75 f68 _ _ hv0 ha3 hi3 (by omega) (by omega) hW69 h) ⟨rfl, rfl, rfl, rfl, rfl, rfl, rfl, rfl, trivial⟩
                  · conv => whnf
                    refine pw_br h (fun _ h => ?_) (fun _ h => ?_)
                    · conv => whnf
                      refine pw_st h (fun z76 h => ?_)
                      conv => whnf
                      refine pw_st h (fun z77 h => ?_)
                      conv => whnf
                      exact np_gl (ih S67 v0 v2 va3 vi3 v4 v5 z73 z76 z77 f68 _ _ hv0 ha3 hi3 (by omega) (by omega) hW69 h) ⟨rfl, rfl, rfl, rfl, rfl, rfl, rfl, rfl, trivial⟩
                    · conv => whnf
                      exact ⟨(by omega), (by omega), ⟨_, rfl, by decide⟩, _, fun _ _ h9 => h9, pw_ps h _ hW69⟩
                · conv => whnf
                  refine pw_st h (fun z78 h => ?_)
                  conv => whnf
                  refine pw_br h (fun _ h => ?_) (fun _ h => ?_)
                  · conv => whnf
                    refine pw_st h (fun z79 h => ?_)
                    conv => whnf
                    refine pw_st h (fun z80 h => ?_)
                    conv => whnf
                    exact np_gl (ih S67 v0 v2 va3 vi3 v4 v5 z78 z79 z80 f68 _ _ hv0 ha3 hi3 (by omega) (by omega) hW69 h) ⟨rfl, rfl, rfl, rfl, rfl, rfl, rfl, rfl, trivial⟩
                  · conv => whnf
                    refine pw_br h (fun _ h => ?_) (fun _ h => ?_)
                    · conv => whnf
                      refine pw_st h (fun z81 h => ?_)
                      conv => whnf
                      refine pw_st h (fun z82 h => ?_)
                      conv => whnf
                      exact np_gl (ih S67 v0 v2 va3 vi3 v4 v5 z78 z81 z82 f68 _ _ hv0 ha3 hi3 (by omega) (by omega) hW69 h) ⟨rfl, rfl, rfl, rfl, rfl, rfl, rfl, rfl, trivial⟩
                    · conv => whnf
                      exact ⟨(by omega), (by omega), ⟨_, rfl, by decide⟩, _, fun _ _ h9 => h9, pw_ps h _ hW69⟩
              · conv => whnf
                refine pw_br h (fun _ h => ?_) (fun _ h => ?_)
                · conv => whnf
                  refine np_chk_i (pw_and rfl (pw_and rfl (pw_and rfl ((pw_and (pw_le (by omega)) (pw_le (by omega))))))) ?_
                  conv => whnf
                  refine ⟨q, S, v0, 4, 0, 0, 0, rfl, hv0, hW, pw_bd h (fun S83 r86 h f84 hW85 => ?_)⟩
                  conv => whnf
                  refine pw_st h (fun z88 h => ?_)
                  conv => whnf
                  refine pw_br h (fun _ h => ?_) (fun _ h => ?_)
                  · conv => whnf
                    refine pw_st h (fun z89 h => ?_)
                    conv => whnf
                    refine pw_br h (fun _ h => ?_) (fun _ h => ?_)
                    · conv => whnf
                      refine pw_st h (fun z90 h => ?_)
                      conv => whnf
                      refine pw_st h (fun z91 h => ?_)
                      conv => whnf
                      exact np_gl (ih S83 v0 v2 va3 vi3 v4 v5 z89 z90 z91 f84 _ _ hv0 ha3 hi3 (by omega) (by omega) hW85 h) ⟨rfl, rfl, rfl, rfl, rfl, rfl, rfl, rfl, trivial⟩
                    · conv => whnf
                      refine pw_br h (fun _ h => ?_) (fun _ h => ?_)
                      · conv => whnf
                        refine pw_st h (fun z92 h => ?_)
                        conv => whnf
                        refine pw_st h (fun z93 h => ?_)
                        conv => whnf
                        exact np_gl (ih S83 v0 v2 va3 vi3 v4 v5 z89 z92 z93 f84 _ _ hv0 ha3 hi3 (by omega) (by omega) hW85 h) ⟨rfl, rfl, rfl, rfl, rfl, rfl, rfl, rfl, trivial⟩
                      · conv => whnf
                        exact ⟨(by omega), (by omega), ⟨_, rfl, by decide⟩, _, fun _ _ h9 => h9, pw_ps h _ hW85⟩
                  · conv => whnf
                    refine pw_st h (fun z94 h => ?_)
                    conv => whnf
                    refine pw_br h (fun _ h => ?_) (fun _ h => ?_)
                    · conv => whnf
                      refine pw_st h (fun z95 h => ?_)
                      conv => whnf
                      refine pw_st h (fun z96 h => ?_)
                      conv => whnf
                      exact np_gl (ih S83 v0 v2 va3 vi3 v4 v5 z94 z95 z96 f84 _ _ hv0 ha3 hi3 (by omega) (by omega) hW85 h) ⟨rfl, rfl, rfl, rfl, rfl, rfl, rfl, rfl, trivial⟩
                    · conv => whnf
                      refine pw_br h (fun _ h => ?_) (fun _ h => ?_)
                      · conv => whnf
                        refine pw_st h (fun z97 h => ?_)
                        conv => whnf
                        refine pw_st h (fun z98 h => ?_)
                        conv => whnf
                        exact np_gl (ih S83 v0 v2 va3 vi3 v4 v5 z94 z97 z98 f84 _ _ hv0 ha3 hi3 (by omega) (by omega) hW85 h) ⟨rfl, rfl, rfl, rfl, rfl, rfl, rfl, rfl, trivial⟩
                      · conv => whnf
                        exact ⟨(by omega), (by omega), ⟨_, rfl, by decide⟩, _, fun _ _ h9 => h9, pw_ps h _ hW85⟩
                · conv => whnf
                  refine pw_br h (fun _ h => ?_) (fun _ h => ?_)
                  · conv => whnf
                    refine np_chk_i (pw_and rfl (pw_and rfl (pw_and rfl ((pw_and (pw_le (by omega)) (pw_le (by omega))))))) ?_
                    conv => whnf
                    refine ⟨q, S, v0, 5, (32 + ((v7 / 11) - (v7 / 11) / 95 * 95)), 0, 0, rfl, hv0, hW, pw_bd h (fun S99 r102 h f100 hW101 => ?_)⟩
                    conv => whnf
                    refine pw_st h (fun z104 h => ?_)
                    conv => whnf
                    refine pw_br h (fun _ h => ?_) (fun _ h => ?_)
                    · conv => whnf
                      refine pw_st h (fun z105 h => ?_)
                      conv => whnf
                      refine pw_br h (fun _ h => ?_) (fun _ h => ?_)
                      · conv => whnf
                        refine pw_st h (fun z106 h => ?_)
                        conv => whnf
                        refine pw_st h (fun z107 h => ?_)
                        conv => whnf
                        exact np_gl (ih S99 v0 v2 va3 vi3 v4 v5 z105 z106 z107 f100 _ _ hv0 ha3 hi3 (by omega) (by omega) hW101 h) ⟨rfl, rfl, rfl, rfl, rfl, rfl, rfl, rfl, trivial⟩
                      · conv => whnf
                        refine pw_br h (fun _ h => ?_) (fun _ h => ?_)
                        · conv => whnf
                          refine pw_st h (fun z108 h => ?_)
                          conv => whnf
                          refine pw_st h (fun z109 h => ?_)
                          conv => whnf
                          exact np_gl (ih S99 v0 v2 va3 vi3 v4 v5 z105 z108 z109 f100 _ _ hv0 ha3 hi3 (by omega) (by omega) hW101 h) ⟨rfl, rfl, rfl, rfl, rfl, rfl, rfl, rfl, trivial⟩
                        · conv => whnf
                          exact ⟨(by omega), (by omega), ⟨_, rfl, by decide⟩, _, fun _ _ h9 => h9, pw_ps h _ hW101⟩
                    · conv => whnf
                      refine pw_st h (fun z110 h => ?_)
                      conv => whnf
                      refine pw_br h (fun _ h => ?_) (fun _ h => ?_)
                      · conv => whnf
                        refine pw_st h (fun z111 h => ?_)
                        conv => whnf
                        refine pw_st h (fun z112 h => ?_)
                        conv => whnf
                        exact np_gl (ih S99 v0 v2 va3 vi3 v4 v5 z110 z111 z112 f100 _ _ hv0 ha3 hi3 (by omega) (by omega) hW101 h) ⟨rfl, rfl, rfl, rfl, rfl, rfl, rfl, rfl, trivial⟩
                      · conv => whnf
                        refine pw_br h (fun _ h => ?_) (fun _ h => ?_)
                        · conv => whnf
                          refine pw_st h (fun z113 h => ?_)
                          conv => whnf
                          refine pw_st h (fun z114 h => ?_)
                          conv => whnf
                          exact np_gl (ih S99 v0 v2 va3 vi3 v4 v5 z110 z113 z114 f100 _ _ hv0 ha3 hi3 (by omega) (by omega) hW101 h) ⟨rfl, rfl, rfl, rfl, rfl, rfl, rfl, rfl, trivial⟩
                        · conv => whnf
                          exact ⟨(by omega), (by omega), ⟨_, rfl, by decide⟩, _, fun _ _ h9 => h9, pw_ps h _ hW101⟩
                  · conv => whnf
                    refine pw_br h (fun _ h => ?_) (fun _ h => ?_)
                    · conv => whnf
                      refine np_chk_i (pw_and rfl (pw_and rfl (pw_and rfl ((pw_and (pw_le (by omega)) (pw_le (by omega))))))) ?_
                      conv => whnf
                      refine ⟨q, S, v0, 6, v8, 0, 0, rfl, hv0, hW, pw_bd h (fun S115 r118 h f116 hW117 => ?_)⟩
                      conv => whnf
                      refine pw_st h (fun z120 h => ?_)
                      conv => whnf
                      refine pw_br h (fun _ h => ?_) (fun _ h => ?_)
                      · conv => whnf
                        refine pw_st h (fun z121 h => ?_)
                        conv => whnf
                        refine pw_br h (fun _ h => ?_) (fun _ h => ?_)
                        · conv => whnf
                          refine pw_st h (fun z122 h => ?_)
                          conv => whnf
                          refine pw_st h (fun z123 h => ?_)
                          conv => whnf
                          exact np_gl (ih S115 v0 v2 va3 vi3 v4 v5 z121 z122 z123 f116 _ _ hv0 ha3 hi3 (by omega) (by omega) hW117 h) ⟨rfl, rfl, rfl, rfl, rfl, rfl, rfl, rfl, trivial⟩
                        · conv => whnf
                          refine pw_br h (fun _ h => ?_) (fun _ h => ?_)
                          · conv => whnf
                            refine pw_st h (fun z124 h => ?_)
                            conv => whnf
                            refine pw_st h (fun z125 h => ?_)
                            conv => whnf
                            exact np_gl (ih S115 v0 v2 va3 vi3 v4 v5 z121 z124 z125 f116 _ _ hv0 ha3 hi3 (by omega) (by omega) hW117 h) ⟨rfl, rfl, rfl, rfl, rfl, rfl, rfl, rfl, trivial⟩
                          · conv => whnf
                            exact ⟨(by omega), (by omega), ⟨_, rfl, by decide⟩, _, fun _ _ h9 => h9, pw_ps h _ hW117⟩
                      · conv => whnf
                        refine pw_st h (fun z126 h => ?_)
                        conv => whnf
                        refine pw_br h (fun _ h => ?_) (fun _ h => ?_)
                        · conv => whnf
                          refine pw_st h (fun z127 h => ?_)
                          conv => whnf
                          refine pw_st h (fun z128 h => ?_)
                          conv => whnf
                          exact np_gl (ih S115 v0 v2 va3 vi3 v4 v5 z126 z127 z128 f116 _ _ hv0 ha3 hi3 (by omega) (by omega) hW117 h) ⟨rfl, rfl, rfl, rfl, rfl, rfl, rfl, rfl, trivial⟩
                        · conv => whnf
                          refine pw_br h (fun _ h => ?_) (fun _ h => ?_)
                          · conv => whnf
                            refine pw_st h (fun z129 h => ?_)
                            conv => whnf
                            refine pw_st h (fun z130 h => ?_)
                            conv => whnf
                            exact np_gl (ih S115 v0 v2 va3 vi3 v4 v5 z126 z129 z130 f116 _ _ hv0 ha3 hi3 (by omega) (by omega) hW117 h) ⟨rfl, rfl, rfl, rfl, rfl, rfl, rfl, rfl, trivial⟩
                          · conv => whnf
                            exact ⟨(by omega), (by omega), ⟨_, rfl, by decide⟩, _, fun _ _ h9 => h9, pw_ps h _ hW117⟩
                    · conv => whnf
                      refine pw_br h (fun _ h => ?_) (fun _ h => ?_)
                      · conv => whnf
                        refine pw_ck h (fun _ h => ?_)
                        conv => whnf
                        refine np_chk_i (pw_and rfl (pw_and rfl (pw_and rfl ((pw_and (pw_le (by omega)) (pw_le (by omega))))))) ?_
                        conv => whnf
                        refine ⟨q, S, v0, 7, ((v7 / 11) - (v7 / 11) / v4 * v4), (1 + ((v7 / 88) - (v7 / 88) / 2 * 2)), 0, rfl, hv0, hW, pw_bd h (fun S131 r134 h f132 hW133 => ?_)⟩
                        conv => whnf
                        refine pw_st h (fun z136 h => ?_)
                        conv => whnf
                        refine pw_br h (fun _ h => ?_) (fun _ h => ?_)
                        · conv => whnf
                          refine pw_st h (fun z137 h => ?_)
                          conv => whnf
                          refine pw_br h (fun _ h => ?_) (fun _ h => ?_)
                          · conv => whnf
                            refine pw_st h (fun z138 h => ?_)
                            conv => whnf
                            refine pw_st h (fun z139 h => ?_)
                            conv => whnf
                            exact np_gl (ih S131 v0 v2 va3 vi3 v4 v5 z137 z138 z139 f132 _ _ hv0 ha3 hi3 (by omega) (by omega) hW133 h) ⟨rfl, rfl, rfl, rfl, rfl, rfl, rfl, rfl, trivial⟩
                          · conv => whnf
                            refine pw_br h (fun _ h => ?_) (fun _ h => ?_)
                            · conv => whnf
                              refine pw_st h (fun z140 h => ?_)
                              conv => whnf
                              refine pw_st h (fun z141 h => ?_)
                              conv => whnf
                              exact np_gl (ih S131 v0 v2 va3 vi3 v4 v5 z137 z140 z141 f132 _ _ hv0 ha3 hi3 (by omega) (by omega) hW133 h) ⟨rfl, rfl, rfl, rfl, rfl, rfl, rfl, rfl, trivial⟩
                            · conv => whnf
                              exact ⟨(by omega), (by omega), ⟨_, rfl, by decide⟩, _, fun _ _ h9 => h9, pw_ps h _ hW133⟩
                        · conv => whnf
                          refine pw_st h (fun z142 h => ?_)
                          conv => whnf
                          refine pw_br h (fun _ h => ?_) (fun _ h => ?_)
                          · conv => whnf
                            refine pw_st h (fun z143 h => ?_)
                            conv => whnf
                            refine pw_st h (fun z144 h => ?_)
                            conv => whnf
                            exact np_gl (ih S131 v0 v2 va3 vi3 v4 v5 z142 z143 z144 f132 _ _ hv0 ha3 hi3 (by omega) (by omega) hW133 h) ⟨rfl, rfl, rfl, rfl, rfl, rfl, rfl, rfl, trivial⟩
                          · conv => whnf
                            refine pw_br h (fun _ h => ?_) (fun _ h => ?_)
                            · conv => whnf
                              refine pw_st h (fun z145 h => ?_)
                              conv => whnf
                              refine pw_st h (fun z146 h => ?_)
                              conv => whnf
                              exact np_gl (ih S131 v0 v2 va3 vi3 v4 v5 z142 z145 z146 f132 _ _ hv0 ha3 hi3 (by omega) (by omega) hW133 h) ⟨rfl, rfl, rfl, rfl, rfl, rfl, rfl, rfl, trivial⟩
                            · conv => whnf
                              exact ⟨(by omega), (by omega), ⟨_, rfl, by decide⟩, _, fun _ _ h9 => h9, pw_ps h _ hW133⟩
                      · conv => whnf
                        refine pw_br h (fun _ h => ?_) (fun _ h => ?_)
                        · conv => whnf
                          refine pw_ck h (fun _ h => ?_)
                          conv => whnf
                          refine np_chk_i (pw_and rfl (pw_and rfl (pw_and rfl ((pw_and (pw_le (by omega)) (pw_le (by omega))))))) ?_
                          conv => whnf
                          refine ⟨q, S, v0, 8, ((v7 / 11) - (v7 / 11) / v4 * v4), 1, ((v7 / 88) - (v7 / 88) / 4 * 4), rfl, hv0, hW, pw_bd h (fun S147 r150 h f148 hW149 => ?_)⟩
                          conv => whnf
                          refine pw_st h (fun z152 h => ?_)
                          conv => whnf
                          refine pw_br h (fun _ h => ?_) (fun _ h => ?_)
                          · conv => whnf
                            refine pw_st h (fun z153 h => ?_)
                            conv => whnf
                            refine pw_br h (fun _ h => ?_) (fun _ h => ?_)
                            · conv => whnf
                              refine pw_st h (fun z154 h => ?_)
                              conv => whnf
                              refine pw_st h (fun z155 h => ?_)
                              conv => whnf
                              exact np_gl (ih S147 v0 v2 va3 vi3 v4 v5 z153 z154 z155 f148 _ _ hv0 ha3 hi3 (by omega) (by omega) hW149 h) ⟨rfl, rfl, rfl, rfl, rfl, rfl, rfl, rfl, trivial⟩
                            · conv => whnf
                              refine pw_br h (fun _ h => ?_) (fun _ h => ?_)
                              · conv => whnf
                                refine pw_st h (fun z156 h => ?_)
                                conv => whnf
                                refine pw_st h (fun z157 h => ?_)
                                conv => whnf
                                exact np_gl (ih S147 v0 v2 va3 vi3 v4 v5 z153 z156 z157 f148 _ _ hv0 ha3 hi3 (by omega) (by omega) hW149 h) ⟨rfl, rfl, rfl, rfl, rfl, rfl, rfl, rfl, trivial⟩
                              · conv => whnf
                                exact ⟨(by omega), (by omega), ⟨_, rfl, by decide⟩, _, fun _ _ h9 => h9, pw_ps h _ hW149⟩
                          · conv => whnf
                            refine pw_st h (fun z158 h => ?_)
                            conv => whnf
                            refine pw_br h (fun _ h => ?_) (fun _ h => ?_)
                            · conv => whnf
                              refine pw_st h (fun z159 h => ?_)
                              conv => whnf
                              refine pw_st h (fun z160 h => ?_)
                              conv => whnf
                              exact np_gl (ih S147 v0 v2 va3 vi3 v4 v5 z158 z159 z160 f148 _ _ hv0 ha3 hi3 (by omega) (by omega) hW149 h) ⟨rfl, rfl, rfl, rfl, rfl, rfl, rfl, rfl, trivial⟩
                            · conv => whnf
                              refine pw_br h (fun _ h => ?_) (fun _ h => ?_)
                              · conv => whnf
                                refine pw_st h (fun z161 h => ?_)
                                conv => whnf
                                refine pw_st h (fun z162 h => ?_)
                                conv => whnf
                                exact np_gl (ih S147 v0 v2 va3 vi3 v4 v5 z158 z161 z162 f148 _ _ hv0 ha3 hi3 (by omega) (by omega) hW149 h) ⟨rfl, rfl, rfl, rfl, rfl, rfl, rfl, rfl, trivial⟩
                              · conv => whnf
                                exact ⟨(by omega), (by omega), ⟨_, rfl, by decide⟩, _, fun _ _ h9 => h9, pw_ps h _ hW149⟩
                        · conv => whnf
                          refine pw_ck h (fun _ h => ?_)
                          conv => whnf
                          refine np_chk_i (pw_and rfl (pw_and rfl (pw_and rfl ((pw_and (pw_le (by omega)) (pw_le (by omega))))))) ?_
                          conv => whnf
                          refine ⟨q, S, v0, 9, ((v7 / 11) - (v7 / 11) / v4 * v4), 0, 0, rfl, hv0, hW, pw_bd h (fun S163 r166 h f164 hW165 => ?_)⟩
                          conv => whnf
                          refine pw_st h (fun z168 h => ?_)
                          conv => whnf
                          refine pw_br h (fun _ h => ?_) (fun _ h => ?_)
                          · conv => whnf
                            refine pw_st h (fun z169 h => ?_)
                            conv => whnf
                            refine pw_br h (fun _ h => ?_) (fun _ h => ?_)
                            · conv => whnf
                              refine pw_st h (fun z170 h => ?_)
                              conv => whnf
                              refine pw_st h (fun z171 h => ?_)
                              conv => whnf
                              exact np_gl (ih S163 v0 v2 va3 vi3 v4 v5 z169 z170 z171 f164 _ _ hv0 ha3 hi3 (by omega) (by omega) hW165 h) ⟨rfl, rfl, rfl, rfl, rfl, rfl, rfl, rfl, trivial⟩
                            · conv => whnf
                              refine pw_br h (fun _ h => ?_) (fun _ h => ?_)
                              · conv => whnf
                                refine pw_st h (fun z172 h => ?_)
                                conv => whnf
                                refine pw_st h (fun z173 h => ?_)
                                conv => whnf
                                exact np_gl (ih S163 v0 v2 va3 vi3 v4 v5 z169 z172 z173 f164 _ _ hv0 ha3 hi3 (by omega) (by omega) hW165 h) ⟨rfl, rfl, rfl, rfl, rfl, rfl, rfl, rfl, trivial⟩
                              · conv => whnf
                                exact ⟨(by omega), (by omega), ⟨_, rfl, by decide⟩, _, fun _ _ h9 => h9, pw_ps h _ hW165⟩
                          · conv => whnf
                            refine pw_st h (fun z174 h => ?_)
                            conv => whnf
                            refine pw_br h (fun _ h => ?_) (fun _ h => ?_)
                            · conv => whnf
                              refine pw_st h (fun z175 h => ?_)
                              conv => whnf
                              refine pw_st h (fun z176 h => ?_)
                              conv => whnf
                              exact np_gl (ih S163 v0 v2 va3 vi3 v4 v5 z174 z175 z176 f164 _ _ hv0 ha3 hi3 (by omega) (by omega) hW165 h) ⟨rfl, rfl, rfl, rfl, rfl, rfl, rfl, rfl, trivial⟩
                            · conv => whnf
                              refine pw_br h (fun _ h => ?_) (fun _ h => ?_)
                              · conv => whnf
                                refine pw_st h (fun z177 h => ?_)
                                conv => whnf
                                refine pw_st h (fun z178 h => ?_)
                                conv => whnf
                                exact np_gl (ih S163 v0 v2 va3 vi3 v4 v5 z174 z177 z178 f164 _ _ hv0 ha3 hi3 (by omega) (by omega) hW165 h) ⟨rfl, rfl, rfl, rfl, rfl, rfl, rfl, rfl, trivial⟩
                              · conv => whnf
                                exact ⟨(by omega), (by omega), ⟨_, rfl, by decide⟩, _, fun _ _ h9 => h9, pw_ps h _ hW165⟩
      · conv => whnf
        refine pw_st h (fun z179 h => ?_)
        conv => whnf
        refine pw_br h (fun _ h => ?_) (fun _ h => ?_)
        · conv => whnf
          refine np_chk_i (pw_and rfl (pw_and rfl (pw_and rfl ((pw_and (pw_le (by omega)) (pw_le (by omega))))))) ?_
          conv => whnf
          refine ⟨q, S, v0, 0, v8, (2 + ((v7 / 11) - (v7 / 11) / 5 * 5)), ((v7 / 55) - (v7 / 55) / 9 * 9), rfl, hv0, hW, pw_bd h (fun S180 r183 h f181 hW182 => ?_)⟩
          conv => whnf
          refine pw_st h (fun z185 h => ?_)
          conv => whnf
          refine pw_br h (fun _ h => ?_) (fun _ h => ?_)
          · conv => whnf
            refine pw_st h (fun z186 h => ?_)
            conv => whnf
            refine pw_br h (fun _ h => ?_) (fun _ h => ?_)
            · conv => whnf
              refine pw_st h (fun z187 h => ?_)
              conv => whnf
              refine pw_st h (fun z188 h => ?_)
              conv => whnf
              exact np_gl (ih S180 v0 v2 va3 vi3 v4 v5 z186 z187 z188 f181 _ _ hv0 ha3 hi3 (by omega) (by omega) hW182 h) ⟨rfl, rfl, rfl, rfl, rfl, rfl, rfl, rfl, trivial⟩
            · conv => whnf
              refine pw_br h (fun _ h => ?_) (fun _ h => ?_)
              · conv => whnf
                refine pw_st h (fun z189 h => ?_)
                conv => whnf
                refine pw_st h (fun z190 h => ?_)
                conv => whnf
                exact np_gl (ih S180 v0 v2 va3 vi3 v4 v5 z186 z189 z190 f181 _ _ hv0 ha3 hi3 (by omega) (by omega) hW182 h) ⟨rfl, rfl, rfl, rfl, rfl, rfl, rfl, rfl, trivial⟩
              · conv => whnf
                exact ⟨(by omega), (by omega), ⟨_, rfl, by decide⟩, _, fun _ _ h9 => h9, pw_ps h _ hW182⟩
          · conv => whnf
            refine pw_st h (fun z191 h => ?_)
            conv => whnf
            refine pw_br h (fun _ h => ?_) (fun _ h => ?_)
            · conv => whnf
              refine pw_st h (fun z192 h => ?_)
              conv => whnf
              refine pw_st h (fun z193 h => ?_)
              conv => whnf
              exact np_gl (ih S180 v0 v2 va3 vi3 v4 v5 z191 z192 z193 f181 _ _ hv0 ha3 hi3 (by omega) (by omega) hW182 h) ⟨rfl, rfl, rfl, rfl, rfl, rfl, rfl, rfl, trivial⟩
            · conv => whnf
              refine pw_br h (fun _ h => ?_) (fun _ h => ?_)
              · conv => whnf
                refine pw_st h (fun z194 h => ?_)
                conv => whnf
                refine pw_st h (fun z195 h => ?_)
                conv => whnf
                exact np_gl (ih S180 v0 v2 va3 vi3 v4 v5 z191 z194 z195 f181 _ _ hv0 ha3 hi3 (by omega) (by omega) hW182 h) ⟨rfl, rfl, rfl, rfl, rfl, rfl, rfl, rfl, trivial⟩
              · conv => whnf
                exact ⟨(by omega), (by omega), ⟨_, rfl, by decide⟩, _, fun _ _ h9 => h9, pw_ps h _ hW182⟩
        · conv => whnf
          refine pw_br h (fun _ h => ?_) (fun _ h => ?_)
          · conv => whnf
            refine np_chk_i (pw_and rfl (pw_and rfl (pw_and rfl ((pw_and (pw_le (by omega)) (pw_le (by omega))))))) ?_
            conv => whnf
            refine ⟨q, S, v0, 1, v8, (1 + ((v7 / 11) - (v7 / 11) / 5 * 5)), ((v7 / 55) - (v7 / 55) / 3 * 3), rfl, hv0, hW, pw_bd h (fun S196 r199 h f197 hW198 => ?_)⟩
            conv => whnf
            refine pw_st h (fun z201 h => ?_)
            conv => whnf
            refine pw_br h (fun _ h => ?_) (fun _ h => ?_)
            · conv => whnf
              refine pw_st h (fun z202 h => ?_)
              conv => whnf
              refine pw_br h (fun _ h => ?_) (fun _ h => ?_)
              · conv => whnf
                refine pw_st h (fun z203 h => ?_)
                conv => whnf
                refine pw_st h (fun z204 h => ?_)
                conv => whnf
                exact np_gl (ih S196 v0 v2 va3 vi3 v4 v5 z202 z203 z204 f197 _ _ hv0 ha3 hi3 (by omega) (by omega) hW198 h) ⟨rfl, rfl, rfl, rfl, rfl, rfl, rfl, rfl, trivial⟩
              · conv => whnf
                refine pw_br h (fun _ h => ?_) (fun _ h => ?_)
                · conv => whnf
                  refine pw_st h (fun z205 h => ?_)
                  conv => whnf
                  refine pw_st h (fun z206 h => ?_)
                  conv => whnf
                  exact np_gl (ih S196 v0 v2 va3 vi3 v4 v5 z202 z205 z206 f197 _ _ hv0 ha3 hi3 (by omega) (by omega) hW198 h) ⟨rfl, rfl, rfl, rfl, rfl, rfl, rfl, rfl, trivial⟩
                · conv => whnf
                  exact ⟨(by omega), (by omega), ⟨_, rfl, by decide⟩, _, fun _ _ h9 => h9, pw_ps h _ hW198⟩
            · conv => whnf
              refine pw_st h (fun z207 h => ?_)
              conv => whnf
              refine pw_br h (fun _ h => ?_) (fun _ h => ?_)
              · conv => whnf
                refine pw_st h (fun z208 h => ?_)
                conv => whnf
                refine pw_st h (fun z209 h => ?_)
                conv => whnf
                exact np_gl (ih S196 v0 v2 va3 vi3 v4 v5 z207 z208 z209 f197 _ _ hv0 ha3 hi3 (by omega) (by omega) hW198 h) ⟨rfl, rfl, rfl, rfl, rfl, rfl, rfl, rfl, trivial⟩
              · conv => whnf
                refine pw_br h (fun _ h => ?_) (fun _ h => ?_)
                · conv => whnf
                  refine pw_st h (fun z210 h => ?_)
                  conv => whnf
                  refine pw_st h (fun z211 h => ?_)
                  conv => whnf
                  exact np_gl (ih S196 v0 v2 va3 vi3 v4 v5 z207 z210 z211 f197 _ _ hv0 ha3 hi3 (by omega) (by omega) hW198 h) ⟨rfl, rfl, rfl, rfl, rfl, rfl, rfl, rfl, trivial⟩
                · conv => whnf
                  exact ⟨(by omega), (by omega), ⟨_, rfl, by decide⟩, _, fun _ _ h9 => h9, pw_ps h _ hW198⟩
          · conv => whnf
            refine pw_br h (fun _ h => ?_) (fun _ h => ?_)
            · conv => whnf
              refine pw_br h (fun _ h => ?_) (fun _ h => ?_)
              · conv => whnf
                refine np_chk_i (pw_and rfl (pw_and rfl (pw_and rfl ((pw_and (pw_le (by omega)) (pw_le (by omega))))))) ?_
                conv => whnf
                refine ⟨q, S, v0, 2, v8, 98, 0, rfl, hv0, hW, pw_bd h (fun S212 r215 h f213 hW214 => ?_)⟩
                conv => whnf
                refine pw_st h (fun z217 h => ?_)
                conv => whnf
                refine pw_br h (fun _ h => ?_) (fun _ h => ?_)
                · conv => whnf
                  refine pw_st h (fun z218 h => ?_)
                  conv => whnf
                  refine pw_br h (fun _ h => ?_) (fun _ h => ?_)
                  · conv => whnf
                    refine pw_st h (fun z219 h => ?_)
                    conv => whnf
                    refine pw_st h (fun z220 h => ?_)
                    conv => whnf
                    exact np_gl (ih S212 v0 v2 va3 vi3 v4 v5 z218 z219 z220 f213 _ _ hv0 ha3 hi3 (by omega) (by omega) hW214 h) ⟨rfl, rfl, rfl, rfl, rfl, rfl, rfl, rfl, trivial⟩
                  · conv => whnf
                    refine pw_br h (fun _ h => ?_) (fun _ h => ?_)
                    · conv => whnf
                      refine pw_st h (fun z221 h => ?_)
                      conv => whnf
                      refine pw_st h (fun z222 h => ?_)
                      conv => whnf
                      exact np_gl (ih S212 v0 v2 va3 vi3 v4 v5 z218 z221 z222 f213 _ _ hv0 ha3 hi3 (by omega) (by omega) hW214 h) ⟨rfl, rfl, rfl, rfl, rfl, rfl, rfl, rfl, trivial⟩
                    · conv => whnf
                      exact ⟨(by omega), (by omega), ⟨_, rfl, by decide⟩, _, fun _ _ h9 => h9, pw_ps h _ hW214⟩
                · conv => whnf
                  refine pw_st h (fun z223 h => ?_)
                  conv => whnf
                  refine pw_br h (fun _ h => ?_) (fun _ h => ?_)
                  · conv => whnf
                    refine pw_st h (fun z224 h => ?_)
                    conv => whnf
                    refine pw_st h (fun z225 h => ?_)
                    conv => whnf
                    exact np_gl (ih S212 v0 v2 va3 vi3 v4 v5 z223 z224 z225 f213 _ _ hv0 ha3 hi3 (by omega) (by omega) hW214 h) ⟨rfl, rfl, rfl, rfl, rfl, rfl, rfl, rfl, trivial⟩
                  · conv => whnf
                    refine pw_br h (fun _ h => ?_) (fun _ h => ?_)
                    · conv => whnf
                      refine pw_st h (fun z226 h => ?_)
                      conv => whnf
                      refine pw_st h (fun z227 h => ?_)
                      conv => whnf
                      exact np_gl (ih S212 v0 v2 va3 vi3 v4 v5 z223 z226 z227 f213 _ _ hv0 ha3 hi3 (by omega) (by omega) hW214 h) ⟨rfl, rfl, rfl, rfl, rfl, rfl, rfl, rfl, trivial⟩
                    · conv => whnf
                      exact ⟨(by omega), (by omega), ⟨_, rfl, by decide⟩, _, fun _ _ h9 => h9, pw_ps h _ hW214⟩
              · conv => whnf
                refine np_chk_i (pw_and rfl (pw_and rfl (pw_and rfl ((pw_and (pw_le (by omega)) (pw_le (by omega))))))) ?_
                conv => whnf
                refine ⟨q, S, v0, 2, v8, (59 + ((v7 / 33) - (v7 / 33) / 4 * 4)), 0, rfl, hv0, hW, pw_bd h (fun S228 r231 h f229 hW230 => ?_)⟩
                conv => whnf
                refine pw_st h (fun z233 h => ?_)
                conv => whnf
                refine pw_br h (fun _ h => ?_) (fun _ h => ?_)
                · conv => whnf
                  refine pw_st h (fun z234 h => ?_)
                  conv => whnf
                  refine pw_br h (fun _ h => ?_) (fun _ h => ?_)
                  · conv => whnf
                    refine pw_st h (fun z235 h => ?_)
                    conv => whnf
                    refine pw_st h (fun z236 h => ?_)
                    conv => whnf
                    exact np_gl (ih S228 v0 v2 va3 vi3 v4 v5 z234 z235 z236 f229 _ _ hv0 ha3 hi3 (by omega) (by omega) hW230 h) ⟨rfl, rfl, rfl, rfl, rfl, rfl, rfl, rfl, trivial⟩
                  · conv => whnf
                    refine pw_br h (fun _ h => ?_) (fun _ h => ?_)
                    · conv => whnf
                      refine pw_st h (fun z237 h => ?_)
                      conv => whnf
                      refine pw_st h (fun z238 h => ?_)
                      conv => whnf
                      exact np_gl (ih S228 v0 v2 va3 vi3 v4 v5 z234 z237 z238 f229 _ _ hv0 ha3 hi3 (by omega) (by omega) hW230 h) ⟨rfl, rfl, rfl, rfl, rfl, rfl, rfl, rfl, trivial⟩
                    · conv => whnf
                      exact ⟨(by omega), (by omega), ⟨_, rfl, by decide⟩, _, fun _ _ h9 => h9, pw_ps h _ hW230⟩
                · conv => whnf
                  refine pw_st h (fun z239 h => ?_)
                  conv => whnf
                  refine pw_br h (fun _ h => ?_) (fun _ h => ?_)
                  · conv => whnf
                    refine pw_st h (fun z240 h => ?_)
                    conv => whnf
                    refine pw_st h (fun z241 h => ?_)
                    conv => whnf
                    exact np_gl (ih S228 v0 v2 va3 vi3 v4 v5 z239 z240 z241 f229 _ _ hv0 ha3 hi3 (by omega) (by omega) hW230 h) ⟨rfl, rfl, rfl, rfl, rfl, rfl, rfl, rfl, trivial⟩
                  · conv => whnf
                    refine pw_br h (fun _ h => ?_) (fun _ h => ?_)
                    · conv => whnf
                      refine pw_st h (fun z242 h => ?_)
                      conv => whnf
                      refine pw_st h (fun z243 h => ?_)
                      conv => whnf
                      exact np_gl (ih S228 v0 v2 va3 vi3 v4 v5 z239 z242 z243 f229 _ _ hv0 ha3 hi3 (by omega) (by omega) hW230 h) ⟨rfl, rfl, rfl, rfl, rfl, rfl, rfl, rfl, trivial⟩
                    · conv => whnf
                      exact ⟨(by omega), (by omega), ⟨_, rfl, by decide⟩, _, fun _ _ h9 => h9, pw_ps h _ hW230⟩
            · conv => whnf
              refine pw_br h (fun _ h => ?_) (fun _ h => ?_)
              · conv => whnf
                refine np_chk_i (pw_and rfl (pw_and rfl (pw_and rfl ((pw_and (pw_le (by omega)) (pw_le (by omega))))))) ?_
                conv => whnf
                refine ⟨q, S, v0, 3, v8, (1 + ((v7 / 11) - (v7 / 11) / 4 * 4)), 0, rfl, hv0, hW, pw_bd h (fun S244 r247 h f245 hW246 => ?_)⟩
                conv => whnf
                refine pw_st h (fun z249 h => ?_)
                conv => whnf
                refine pw_br h (fun _ h => ?_) (fun _ h => ?_)
                · conv => whnf
                  refine pw_st h (fun z250 h => ?_)
                  conv => whnf
                  refine pw_br h (fun _ h => ?_) (fun _ h => ?_)
                  · conv => whnf
                    refine pw_st h (fun z251 h => ?_)
                    conv => whnf
                    refine pw_st h (fun z252 h => ?_)
                    conv => whnf
                    exact np_gl (ih S244 v0 v2 va3 vi3 v4 v5 z250 z251 z252 f245 _ _ hv0 ha3 hi3 (by omega) (by omega) hW246 h) ⟨rfl, rfl, rfl, rfl, rfl, rfl, rfl, rfl, trivial⟩
                  · conv => whnf
                    refine pw_br h (fun _ h => ?_) (fun _ h => ?_)
                    · conv => whnf
                      refine pw_st h (fun z253 h => ?_)
                      conv => whnf
                      refine pw_st h (fun z254 h => ?_)
                      conv => whnf
                      exact np_gl (ih S244 v0 v2 va3 vi3 v4 v5 z250 z253 z254 f245 _ _ hv0 ha3 hi3 (by omega) (by omega) hW246 h) ⟨rfl, rfl, rfl, rfl, rfl, rfl, rfl, rfl, trivial⟩
                    · conv => whnf
                      exact ⟨(by omega), (by omega), ⟨_, rfl, by decide⟩, _, fun _ _ h9 => h9, pw_ps h _ hW246⟩
                · conv => whnf
                  refine pw_st h (fun z255 h => ?_)
                  conv => whnf
                  refine pw_br h (fun _ h => ?_) (fun _ h => ?_)
                  · conv => whnf
                    refine pw_st h (fun z256 h => ?_)
                    conv => whnf
                    refine pw_st h (fun z257 h => ?_)
                    conv => whnf
                    exact np_gl (ih S244 v0 v2 va3 vi3 v4 v5 z255 z256 z257 f245 _ _ hv0 ha3 hi3 (by omega) (by omega) hW246 h) ⟨rfl, rfl, rfl, rfl, rfl, rfl, rfl, rfl, trivial⟩
                  · conv => whnf
                    refine pw_br h (fun _ h => ?_) (fun _ h => ?_)
                    · conv => whnf
                      refine pw_st h (fun z258 h => ?_)
                      conv => whnf
                      refine pw_st h (fun z259 h => ?_)
                      conv => whnf
                      exact np_gl (ih S244 v0 v2 va3 vi3 v4 v5 z255 z258 z259 f245 _ _ hv0 ha3 hi3 (by omega) (by omega) hW246 h) ⟨rfl, rfl, rfl, rfl, rfl, rfl, rfl, rfl, trivial⟩
                    · conv => whnf
                      exact ⟨(by omega), (by omega), ⟨_, rfl, by decide⟩, _, fun _ _ h9 => h9, pw_ps h _ hW246⟩
              · conv => whnf
                refine pw_br h (fun _ h => ?_) (fun _ h => ?_)
                · conv => whnf
                  refine np_chk_i (pw_and rfl (pw_and rfl (pw_and rfl ((pw_and (pw_le (by omega)) (pw_le (by omega))))))) ?_
                  conv => whnf
                  refine ⟨q, S, v0, 4, 0, 0, 0, rfl, hv0, hW, pw_bd h (fun S260 r263 h f261 hW262 => ?_)⟩
                  conv => whnf
                  refine pw_st h (fun z265 h => ?_)
                  conv => whnf
                  refine pw_br h (fun _ h => ?_) (fun _ h => ?_)
                  · conv => whnf
                    refine pw_st h (fun z266 h => ?_)
                    conv => whnf
                    refine pw_br h (fun _ h => ?_) (fun _ h => ?_)
                    · conv => whnf
                      refine pw_st h (fun z267 h => ?_)
                      conv => whnf
                      refine pw_st h (fun z268 h => ?_)
                      conv => whnf
                      exact np_gl (ih S260 v0 v2 va3 vi3 v4 v5 z266 z267 z268 f261 _ _ hv0 ha3 hi3 (by omega) (by omega) hW262 h) ⟨rfl, rfl, rfl, rfl, rfl, rfl, rfl, rfl, trivial⟩
                    · conv => whnf
                      refine pw_br h (fun _ h => ?_) (fun _ h => ?_)
                      · conv => whnf
                        refine pw_st h (fun z269 h => ?_)
                        conv => whnf
                        refine pw_st h (fun z270 h => ?_)
                        conv => whnf
                        exact np_gl (ih S260 v0 v2 va3 vi3 v4 v5 z266 z269 z270 f261 _ _ hv0 ha3 hi3 (by omega) (by omega) hW262 h) ⟨rfl, rfl, rfl, rfl, rfl, rfl, rfl, rfl, trivial⟩
                      · conv => whnf
                        exact ⟨(by omega), (by omega), ⟨_, rfl, by decide⟩, _, fun _ _ h9 => h9, pw_ps h _ hW262⟩
                  · conv => whnf
                    refine pw_st h (fun z271 h => ?_)
                    conv => whnf
                    refine pw_br h (fun _ h => ?_) (fun _ h => ?_)
                    · conv => whnf
                      refine pw_st h (fun z272 h => ?_)
                      conv => whnf
                      refine pw_st h (fun z273 h => ?_)
                      conv => whnf
                      exact np_gl (ih S260 v0 v2 va3 vi3 v4 v5 z271 z272 z273 f261 _ _ hv0 ha3 hi3 (by omega) (by omega) hW262 h) ⟨rfl, rfl, rfl, rfl, rfl, rfl, rfl, rfl, trivial⟩
                    · conv => whnf
                      refine pw_br h (fun _ h => ?_) (fun _ h => ?_)
                      · conv => whnf
                        refine pw_st h (fun z274 h => ?_)
                        conv => whnf
                        refine pw_st h (fun z275 h => ?_)
                        conv => whnf
                        exact np_gl (ih S260 v0 v2 va3 vi3 v4 v5 z271 z274 z275 f261 _ _ hv0 ha3 hi3 (by omega) (by omega) hW262 h) ⟨rfl, rfl, rfl, rfl, rfl, rfl, rfl, rfl, trivial⟩
                      · conv => whnf
                        exact ⟨(by omega), (by omega), ⟨_, rfl, by decide⟩, _, fun _ _ h9 => h9, pw_ps h _ hW262⟩
                · conv => whnf
                  refine pw_br h (fun _ h => ?_) (fun _ h => ?_)
                  · conv => whnf
                    refine np_chk_i (pw_and rfl (pw_and rfl (pw_and rfl ((pw_and (pw_le (by omega)) (pw_le (by omega))))))) ?_
                    conv => whnf
                    refine ⟨q, S, v0, 5, (32 + ((v7 / 11) - (v7 / 11) / 95 * 95)), 0, 0, rfl, hv0, hW, pw_bd h (fun S276 r279 h f277 hW278 => ?_)⟩
                    conv => whnf
                    refine pw_st h (fun z281 h => ?_)
                    conv => whnf
                    refine pw_br h (fun _ h => ?_) (fun _ h => ?_)
                    · conv => whnf
                      refine pw_st h (fun z282 h => ?_)
                      conv => whnf
                      refine pw_br h (fun _ h => ?_) (fun _ h => ?_)
                      · conv => whnf
                        refine pw_st h (fun z283 h => ?_)
                        conv => whnf
                        refine pw_st h (fun z284 h => ?_)
                        conv => whnf
                        exact np_gl (ih S276 v0 v2 va3 vi3 v4 v5 z282 z283 z284 f277 _ _ hv0 ha3 hi3 (by omega) (by omega) hW278 h) ⟨rfl, rfl, rfl, rfl, rfl, rfl, rfl, rfl, trivial⟩
                      · conv => whnf
                        refine pw_br h (fun _ h => ?_) (fun _ h => ?_)
                        · conv => whnf
                          refine pw_st h (fun z285 h => ?_)
                          conv => whnf
                          refine pw_st h (fun z286 h => ?_)
                          conv => whnf
                          exact np_gl (ih S276 v0 v2 va3 vi3 v4 v5 z282 z285 z286 f277 _ _ hv0 ha3 hi3 (by omega) (by omega) hW278 h) ⟨rfl, rfl, rfl, rfl, rfl, rfl, rfl, rfl, trivial⟩
                        · conv => whnf
                          exact ⟨(by omega), (by omega), ⟨_, rfl, by decide⟩, _, fun _ _ h9 => h9, pw_ps h _ hW278⟩
                    · conv => whnf
                      refine pw_st h (fun z287 h => ?_)
                      conv => whnf
                      refine pw_br h (fun _ h => ?_) (fun _ h => ?_)
                      · conv => whnf
                        refine pw_st h (fun z288 h => ?_)
                        conv => whnf
                        refine pw_st h (fun z289 h => ?_)
                        conv => whnf
                        exact np_gl (ih S276 v0 v2 va3 vi3 v4 v5 z287 z288 z289 f277 _ _ hv0 ha3 hi3 (by omega) (by omega) hW278 h) ⟨rfl, rfl, rfl, rfl, rfl, rfl, rfl, rfl, trivial⟩
                      · conv => whnf
                        refine pw_br h (fun _ h => ?_) (fun _ h => ?_)
                        · conv => whnf
                          refine pw_st h (fun z290 h => ?_)
                          conv => whnf
                          refine pw_st h (fun z291 h => ?_)
                          conv => whnf
                          exact np_gl (ih S276 v0 v2 va3 vi3 v4 v5 z287 z290 z291 f277 _ _ hv0 ha3 hi3 (by omega) (by omega) hW278 h) ⟨rfl, rfl, rfl, rfl, rfl, rfl, rfl, rfl, trivial⟩
                        · conv => whnf
                          exact ⟨(by omega), (by omega), ⟨_, rfl, by decide⟩, _, fun _ _ h9 => h9, pw_ps h _ hW278⟩
                  · conv => whnf
                    refine pw_br h (fun _ h => ?_) (fun _ h => ?_)
                    · conv => whnf
                      refine np_chk_i (pw_and rfl (pw_and rfl (pw_and rfl ((pw_and (pw_le (by omega)) (pw_le (by omega))))))) ?_
                      conv => whnf
                      refine ⟨q, S, v0, 6, v8, 0, 0, rfl, hv0, hW, pw_bd h (fun S292 r295 h f293 hW294 => ?_)⟩
                      conv => whnf
                      refine pw_st h (fun z297 h => ?_)
                      conv => whnf
                      refine pw_br h (fun _ h => ?_) (fun _ h => ?_)
                      · conv => whnf
                        refine pw_st h (fun z298 h => ?_)
                        conv => whnf
                        refine pw_br h (fun _ h => ?_) (fun _ h => ?_)
                        · conv => whnf
                          refine pw_st h (fun z299 h => ?_)
                          conv => whnf
                          refine pw_st h (fun z300 h => ?_)
                          conv => whnf
                          exact np_gl (ih S292 v0 v2 va3 vi3 v4 v5 z298 z299 z300 f293 _ _ hv0 ha3 hi3 (by omega) (by omega) hW294 h) ⟨rfl, rfl, rfl, rfl, rfl, rfl, rfl, rfl, trivial⟩
                        · conv => whnf
                          refine pw_br h (fun _ h => ?_) (fun _ h => ?_)
                          · conv => whnf
                            refine pw_st h (fun z301 h => ?_)
                            conv => whnf
                            refine pw_st h (fun z302 h => ?_)
                            conv => whnf
                            exact np_gl (ih S292 v0 v2 va3 vi3 v4 v5 z298 z301 z302 f293 _ _ hv0 ha3 hi3 (by omega) (by omega) hW294 h) ⟨rfl, rfl, rfl, rfl, rfl, rfl, rfl, rfl, trivial⟩
                          · conv => whnf
                            exact ⟨(by omega), (by omega), ⟨_, rfl, by decide⟩, _, fun _ _ h9 => h9, pw_ps h _ hW294⟩
                      · conv => whnf
                        refine pw_st h (fun z303 h => ?_)
                        conv => whnf
                        refine pw_br h (fun _ h => ?_) (fun _ h => ?_)
                        · conv => whnf
                          refine pw_st h (fun z304 h => ?_)
                          conv => whnf
                          refine pw_st h (fun z305 h => ?_)
                          conv => whnf
                          exact np_gl (ih S292 v0 v2 va3 vi3 v4 v5 z303 z304 z305 f293 _ _ hv0 ha3 hi3 (by omega) (by omega) hW294 h) ⟨rfl, rfl, rfl, rfl, rfl, rfl, rfl, rfl, trivial⟩
                        · conv => whnf
                          refine pw_br h (fun _ h => ?_) (fun _ h => ?_)
                          · conv => whnf
                            refine pw_st h (fun z306 h => ?_)
                            conv => whnf
                            refine pw_st h (fun z307 h => ?_)
                            conv => whnf
                            exact np_gl (ih S292 v0 v2 va3 vi3 v4 v5 z303 z306 z307 f293 _ _ hv0 ha3 hi3 (by omega) (by omega) hW294 h) ⟨rfl, rfl, rfl, rfl, rfl, rfl, rfl, rfl, trivial⟩
                          · conv => whnf
                            exact ⟨(by omega), (by omega), ⟨_, rfl, by decide⟩, _, fun _ _ h9 => h9, pw_ps h _ hW294⟩
                    · conv => whnf
                      refine pw_br h (fun _ h => ?_) (fun _ h => ?_)
                      · conv => whnf
                        refine pw_ck h (fun _ h => ?_)
                        conv => whnf
                        refine np_chk_i (pw_and rfl (pw_and rfl (pw_and rfl ((pw_and (pw_le (by omega)) (pw_le (by omega))))))) ?_
                        conv => whnf
                        refine ⟨q, S, v0, 7, ((v7 / 11) - (v7 / 11) / v4 * v4), (1 + ((v7 / 88) - (v7 / 88) / 2 * 2)), 0, rfl, hv0, hW, pw_bd h (fun S308 r311 h f309 hW310 => ?_)⟩
                        conv => whnf
                        refine pw_st h (fun z313 h => ?_)
                        conv => whnf
                        refine pw_br h (fun _ h => ?_) (fun _ h => ?_)
                        · conv => whnf
                          refine pw_st h (fun z314 h => ?_)
                          conv => whnf
                          refine pw_br h (fun _ h => ?_) (fun _ h => ?_)
                          · conv => whnf
                            refine pw_st h (fun z315 h => ?_)
                            conv => whnf
                            refine pw_st h (fun z316 h => ?_)
                            conv => whnf
                            exact np_gl (ih S308 v0 v2 va3 vi3 v4 v5 z314 z315 z316 f309 _ _ hv0 ha3 hi3 (by omega) (by omega) hW310 h) ⟨rfl, rfl, rfl, rfl, rfl, rfl, rfl, rfl, trivial⟩
                          · conv => whnf
                            refine pw_br h (fun _ h => ?_) (fun _ h => ?_)
                            · conv => whnf
                              refine pw_st h (fun z317 h => ?_)
                              conv => whnf
                              refine pw_st h (fun z318 h => ?_)
                              conv => whnf
                              exact np_gl (ih S308 v0 v2 va3 vi3 v4 v5 z314 z317 z318 f309 _ _ hv0 ha3 hi3 (by omega) (by omega) hW310 h) ⟨rfl, rfl, rfl, rfl, rfl, rfl, rfl, rfl, trivial⟩
                            · conv => whnf
                              exact ⟨(by omega), (by omega), ⟨_, rfl, by decide⟩, _, fun _ _ h9 => h9, pw_ps h _ hW310⟩
                        · conv => whnf
                          refine pw_st h (fun z319 h => ?_)
                          conv => whnf
                          refine pw_br h (fun _ h => ?_) (fun _ h => ?_)
                          · conv => whnf
                            refine pw_st h (fun z320 h => ?_)
                            conv => whnf
                            refine pw_st h (fun z321 h => ?_)
                            conv => whnf
                            exact np_gl (ih S308 v0 v2 va3 vi3 v4 v5 z319 z320 z321 f309 _ _ hv0 ha3 hi3 (by omega) (by omega) hW310 h) ⟨rfl, rfl, rfl, rfl, rfl, rfl, rfl, rfl, trivial⟩
                          · conv => whnf
                            refine pw_br h (fun _ h => ?_) (fun _ h => ?_)
                            · conv => whnf
                              refine pw_st h (fun z322 h => ?_)
                              conv => whnf
                              refine pw_st h (fun z323 h => ?_)
                              conv => whnf
                              exact np_gl (ih S308 v0 v2 va3 vi3 v4 v5 z319 z322 z323 f309 _ _ hv0 ha3 hi3 (by omega) (by omega) hW310 h) ⟨rfl, rfl, rfl, rfl, rfl, rfl, rfl, rfl, trivial⟩
                            · conv => whnf
                              exact ⟨(by omega), (by omega), ⟨_, rfl, by decide⟩, _, fun _ _ h9 => h9, pw_ps h _ hW310⟩
                      · conv => whnf
                        refine pw_br h (fun _ h => ?_) (fun _ h => ?_)
                        · conv => whnf
                          refine pw_ck h (fun _ h => ?_)
                          conv => whnf
                          refine np_chk_i (pw_and rfl (pw_and rfl (pw_and rfl ((pw_and (pw_le (by omega)) (pw_le (by omega))))))) ?_
                          conv => whnf
                          refine ⟨q, S, v0, 8, ((v7 / 11) - (v7 / 11) / v4 * v4), 1, ((v7 / 88) - (v7 / 88) / 4 * 4), rfl, hv0, hW, pw_bd h (fun S324 r327 h f325 hW326 => ?_)⟩
                          conv => whnf
                          refine pw_st h (fun z329 h => ?_)
                          conv => whnf
                          refine pw_br h (fun _ h => ?_) (fun _ h => ?_)
                          · conv => whnf
                            refine pw_st h (fun z330 h => ?_)
                            conv => whnf
                            refine pw_br h (fun _ h => ?_) (fun _ h => ?_)
                            · conv => whnf
                              refine pw_st h (fun z331 h => ?_)
                              conv => whnf
                              refine pw_st h (fun z332 h => ?_)
                              conv => whnf
                              exact np_gl (ih S324 v0 v2 va3 vi3 v4 v5 z330 z331 z332 f325 _ _ hv0 ha3 hi3 (by omega) (by omega) hW326 h) ⟨rfl, rfl, rfl, rfl, rfl, rfl, rfl, rfl, trivial⟩
                            · conv => whnf
                              refine pw_br h (fun _ h => ?_) (fun _ h => ?_)
                              · conv => whnf
                                refine pw_st h (fun z333 h => ?_)
                                conv => whnf
                                refine pw_st h (fun z334 h => ?_)
                                conv => whnf
                                exact np_gl (ih S324 v0 v2 va3 vi3 v4 v5 z330 z333 z334 f325 _ _ hv0 ha3 hi3 (by omega) (by omega) hW326 h) ⟨rfl, rfl, rfl, rfl, rfl, rfl, rfl, rfl, trivial⟩
                              · conv => whnf
                                exact ⟨(by omega), (by omega), ⟨_, rfl, by decide⟩, _, fun _ _ h9 => h9, pw_ps h _ hW326⟩
                          · conv => whnf
                            refine pw_st h (fun z335 h => ?_)
                            conv => whnf
                            refine pw_br h (fun _ h => ?_) (fun _ h => ?_)
                            · conv => whnf
                              refine pw_st h (fun z336 h => ?_)
                              conv => whnf
                              refine pw_st h (fun z337 h => ?_)
                              conv => whnf
                              exact np_gl (ih S324 v0 v2 va3 vi3 v4 v5 z335 z336 z337 f325 _ _ hv0 ha3 hi3 (by omega) (by omega) hW326 h) ⟨rfl, rfl, rfl, rfl, rfl, rfl, rfl, rfl, trivial⟩
                            · conv => whnf
                              refine pw_br h (fun _ h => ?_) (fun _ h => ?_)
                              · conv => whnf
                                refine pw_st h (fun z338 h => ?_)
                                conv => whnf
                                refine pw_st h (fun z339 h => ?_)
                                conv => whnf
                                exact np_gl (ih S324 v0 v2 va3 vi3 v4 v5 z335 z338 z339 f325 _ _ hv0 ha3 hi3 (by omega) (by omega) hW326 h) ⟨rfl, rfl, rfl, rfl, rfl, rfl, rfl, rfl, trivial⟩
                              · conv => whnf
                                exact ⟨(by omega), (by omega), ⟨_, rfl, by decide⟩, _, fun _ _ h9 => h9, pw_ps h _ hW326⟩
                        · conv => whnf
                          refine pw_ck h (fun _ h => ?_)
                          conv => whnf
                          refine np_chk_i (pw_and rfl (pw_and rfl (pw_and rfl ((pw_and (pw_le (by omega)) (pw_le (by omega))))))) ?_
                          conv => whnf
                          refine ⟨q, S, v0, 9, ((v7 / 11) - (v7 / 11) / v4 * v4), 0, 0, rfl, hv0, hW, pw_bd h (fun S340 r343 h f341 hW342 => ?_)⟩
                          conv => whnf
                          refine pw_st h (fun z345 h => ?_)
                          conv => whnf
                          refine pw_br h (fun _ h => ?_) (fun _ h => ?_)
                          · conv => whnf
                            refine pw_st h (fun z346 h => ?_)
                            conv => whnf
                            refine pw_br h (fun _ h => ?_) (fun _ h => ?_)
                            · conv => whnf
                              refine pw_st h (fun z347 h => ?_)
                              conv => whnf
                              refine pw_st h (fun z348 h => ?_)
                              conv => whnf
                              exact np_gl (ih S340 v0 v2 va3 vi3 v4 v5 z346 z347 z348 f341 _ _ hv0 ha3 hi3 (by omega) (by omega) hW342 h) ⟨rfl, rfl, rfl, rfl, rfl, rfl, rfl, rfl, trivial⟩
                            · conv => whnf
                              refine pw_br h (fun _ h => ?_) (fun _ h => ?_)
                              · conv => whnf
                                refine pw_st h (fun z349 h => ?_)
                                conv => whnf
                                refine pw_st h (fun z350 h => ?_)
                                conv => whnf
                                exact np_gl (ih S340 v0 v2 va3 vi3 v4 v5 z346 z349 z350 f341 _ _ hv0 ha3 hi3 (by omega) (by omega) hW342 h) ⟨rfl, rfl, rfl, rfl, rfl, rfl, rfl, rfl, trivial⟩
                              · conv => whnf
                                exact ⟨(by omega), (by omega), ⟨_, rfl, by decide⟩, _, fun _ _ h9 => h9, pw_ps h _ hW342⟩
                          · conv => whnf
                            refine pw_st h (fun z351 h => ?_)
                            conv => whnf
                            refine pw_br h (fun _ h => ?_) (fun _ h => ?_)
                            · conv => whnf
                              refine pw_st h (fun z352 h => ?_)
                              conv => whnf
                              refine pw_st h (fun z353 h => ?_)
                              conv => whnf
                              exact np_gl (ih S340 v0 v2 va3 vi3 v4 v5 z351 z352 z353 f341 _ _ hv0 ha3 hi3 (by omega) (by omega) hW342 h) ⟨rfl, rfl, rfl, rfl, rfl, rfl, rfl, rfl, trivial⟩
                            · conv => whnf
                              refine pw_br h (fun _ h => ?_) (fun _ h => ?_)
                              · conv => whnf
                                refine pw_st h (fun z354 h => ?_)
                                conv => whnf
                                refine pw_st h (fun z355 h => ?_)
                                conv => whnf
                                exact np_gl (ih S340 v0 v2 va3 vi3 v4 v5 z351 z354 z355 f341 _ _ hv0 ha3 hi3 (by omega) (by omega) hW342 h) ⟨rfl, rfl, rfl, rfl, rfl, rfl, rfl, rfl, trivial⟩
                              · conv => whnf
                                exact ⟨(by omega), (by omega), ⟨_, rfl, by decide⟩, _, fun _ _ h9 => h9, pw_ps h _ hW342⟩
noncomputable def m_L_describes (S : pw_S) (i0 : Nat) (x1 : Int32) (x2 : Int32) (a3 : Nat) (i3 : Nat) : pw_R Int32 :=
 pw_c (np_inb 0 (pw_len a3)) <|
 if (S a3 i3 (0 : Int32).toNatClampNeg) = 4 then
 (some (S, 1))
 else
 (pw_l ((2 + (x1 - x1 / 5 * 5)) : Int32) fun z356 =>
 pw_b (m_X11_dropItems S i0) fun S357 r360 =>
 pw_l (r360 : Int32) fun z362 =>
 pw_l (0 : Int32) fun z363 =>
 pw_l (((x1 / 5) ^^^ x2) : Int32) fun z364 =>
 pw_l (0 : Int32) fun z365 =>
 m_L_describes_35
 (fun S374 u366 u368 u369 u372 u373 =>
 (pw_b (m_X11_description S374 u366) fun S377 r380 =>
 pw_e r380 (fun r382 =>
 (pw_l (r382 : Int32) fun z384 =>
 if 0 ≤ z384 then
 (pw_b (m_X11_sure S377 u366 z384) fun S385 r388 =>
 pw_e r388 (fun r390 =>
 (pw_l (r390 : Int32) fun z392 =>
 if u372 < 0 then
 (pw_l (0 : Int32) fun z393 =>
 pw_c (np_inb 0 (pw_len u368)) <|
 if z384 < 0 then
 (pw_c (np_inb 0 (pw_len u368)) <|
 pw_l (pw_up S385 u368 u369 (upd (S385 u368 u369) (0 : Int32).toNatClampNeg ((S385 u368 u369 (0 : Int32).toNatClampNeg) + 0))) fun S394 =>
 pw_c (decide (z393 = 0) || decide (z393 = 1)) <|
 some (S394, z393))
 else
 (pw_c (np_inb 0 (pw_len u368)) <|
 pw_l (pw_up S385 u368 u369 (upd (S385 u368 u369) (0 : Int32).toNatClampNeg ((S385 u368 u369 (0 : Int32).toNatClampNeg) + 1))) fun S398 =>
 pw_c (decide (z393 = 0) || decide (z393 = 1)) <|
 some (S398, z393)))
 else
 (if z384 = (-1) then
 (if u373 ≤ z392 then
 (pw_l (0 : Int32) fun z402 =>
 pw_c (np_inb 0 (pw_len u368)) <|
 if z384 < 0 then
 (pw_c (np_inb 0 (pw_len u368)) <|
 pw_l (pw_up S385 u368 u369 (upd (S385 u368 u369) (0 : Int32).toNatClampNeg ((S385 u368 u369 (0 : Int32).toNatClampNeg) + 0))) fun S403 =>
 pw_c (decide (z402 = 0) || decide (z402 = 1)) <|
 some (S403, z402))
 else
 (pw_c (np_inb 0 (pw_len u368)) <|
 pw_l (pw_up S385 u368 u369 (upd (S385 u368 u369) (0 : Int32).toNatClampNeg ((S385 u368 u369 (0 : Int32).toNatClampNeg) + 1))) fun S407 =>
 pw_c (decide (z402 = 0) || decide (z402 = 1)) <|
 some (S407, z402)))
 else
 (if z392 < (-1) then
 (pw_l (0 : Int32) fun z411 =>
 pw_c (np_inb 0 (pw_len u368)) <|
 if z384 < 0 then
 (pw_c (np_inb 0 (pw_len u368)) <|
 pw_l (pw_up S385 u368 u369 (upd (S385 u368 u369) (0 : Int32).toNatClampNeg ((S385 u368 u369 (0 : Int32).toNatClampNeg) + 0))) fun S412 =>
 pw_c (decide (z411 = 0) || decide (z411 = 1)) <|
 some (S412, z411))
 else
 (pw_c (np_inb 0 (pw_len u368)) <|
 pw_l (pw_up S385 u368 u369 (upd (S385 u368 u369) (0 : Int32).toNatClampNeg ((S385 u368 u369 (0 : Int32).toNatClampNeg) + 1))) fun S416 =>
 pw_c (decide (z411 = 0) || decide (z411 = 1)) <|
 some (S416, z411)))
 else
 (pw_b (m_X11_dropItems S385 u366) fun S420 r423 =>
 if 0 ≤ z384 then
 (if r423 = 0 then
 (pw_l (1 : Int32) fun z425 =>
 pw_c (np_inb 0 (pw_len u368)) <|
 if z384 < 0 then
 (pw_c (np_inb 0 (pw_len u368)) <|
 pw_l (pw_up S420 u368 u369 (upd (S420 u368 u369) (0 : Int32).toNatClampNeg ((S420 u368 u369 (0 : Int32).toNatClampNeg) + 0))) fun S426 =>
 pw_c (decide (z425 = 0) || decide (z425 = 1)) <|
 some (S426, z425))
 else
 (pw_c (np_inb 0 (pw_len u368)) <|
 pw_l (pw_up S420 u368 u369 (upd (S420 u368 u369) (0 : Int32).toNatClampNeg ((S420 u368 u369 (0 : Int32).toNatClampNeg) + 1))) fun S430 =>
 pw_c (decide (z425 = 0) || decide (z425 = 1)) <|
 some (S430, z425)))
 else
 (pw_l (0 : Int32) fun z434 =>
 pw_c (np_inb 0 (pw_len u368)) <|
 if z384 < 0 then
 (pw_c (np_inb 0 (pw_len u368)) <|
 pw_l (pw_up S420 u368 u369 (upd (S420 u368 u369) (0 : Int32).toNatClampNeg ((S420 u368 u369 (0 : Int32).toNatClampNeg) + 0))) fun S435 =>
 pw_c (decide (z434 = 0) || decide (z434 = 1)) <|
 some (S435, z434))
 else
 (pw_c (np_inb 0 (pw_len u368)) <|
 pw_l (pw_up S420 u368 u369 (upd (S420 u368 u369) (0 : Int32).toNatClampNeg ((S420 u368 u369 (0 : Int32).toNatClampNeg) + 1))) fun S439 =>
 pw_c (decide (z434 = 0) || decide (z434 = 1)) <|
 some (S439, z434))))
 else
 (if r423 = u373 then
 (pw_l (1 : Int32) fun z443 =>
 pw_c (np_inb 0 (pw_len u368)) <|
 if z384 < 0 then
 (pw_c (np_inb 0 (pw_len u368)) <|
 pw_l (pw_up S420 u368 u369 (upd (S420 u368 u369) (0 : Int32).toNatClampNeg ((S420 u368 u369 (0 : Int32).toNatClampNeg) + 0))) fun S444 =>
 pw_c (decide (z443 = 0) || decide (z443 = 1)) <|
 some (S444, z443))
 else
 (pw_c (np_inb 0 (pw_len u368)) <|
 pw_l (pw_up S420 u368 u369 (upd (S420 u368 u369) (0 : Int32).toNatClampNeg ((S420 u368 u369 (0 : Int32).toNatClampNeg) + 1))) fun S448 =>
 pw_c (decide (z443 = 0) || decide (z443 = 1)) <|
 some (S448, z443)))
 else
 (pw_l (0 : Int32) fun z452 =>
 pw_c (np_inb 0 (pw_len u368)) <|
 if z384 < 0 then
 (pw_c (np_inb 0 (pw_len u368)) <|
 pw_l (pw_up S420 u368 u369 (upd (S420 u368 u369) (0 : Int32).toNatClampNeg ((S420 u368 u369 (0 : Int32).toNatClampNeg) + 0))) fun S453 =>
 pw_c (decide (z452 = 0) || decide (z452 = 1)) <|
 some (S453, z452))
 else
 (pw_c (np_inb 0 (pw_len u368)) <|
 pw_l (pw_up S420 u368 u369 (upd (S420 u368 u369) (0 : Int32).toNatClampNeg ((S420 u368 u369 (0 : Int32).toNatClampNeg) + 1))) fun S457 =>
 pw_c (decide (z452 = 0) || decide (z452 = 1)) <|
 some (S457, z452)))))))
 else
 (pw_c (np_inb 0 (pw_len u368)) <|
 if z384 = (S385 u368 u369 (0 : Int32).toNatClampNeg) then
 (if u373 ≤ 0 then
 (pw_l (0 : Int32) fun z461 =>
 pw_c (np_inb 0 (pw_len u368)) <|
 if z384 < 0 then
 (pw_c (np_inb 0 (pw_len u368)) <|
 pw_l (pw_up S385 u368 u369 (upd (S385 u368 u369) (0 : Int32).toNatClampNeg ((S385 u368 u369 (0 : Int32).toNatClampNeg) + 0))) fun S462 =>
 pw_c (decide (z461 = 0) || decide (z461 = 1)) <|
 some (S462, z461))
 else
 (pw_c (np_inb 0 (pw_len u368)) <|
 pw_l (pw_up S385 u368 u369 (upd (S385 u368 u369) (0 : Int32).toNatClampNeg ((S385 u368 u369 (0 : Int32).toNatClampNeg) + 1))) fun S466 =>
 pw_c (decide (z461 = 0) || decide (z461 = 1)) <|
 some (S466, z461)))
 else
 (if u373 ≤ z392 then
 (pw_l (0 : Int32) fun z470 =>
 pw_c (np_inb 0 (pw_len u368)) <|
 if z384 < 0 then
 (pw_c (np_inb 0 (pw_len u368)) <|
 pw_l (pw_up S385 u368 u369 (upd (S385 u368 u369) (0 : Int32).toNatClampNeg ((S385 u368 u369 (0 : Int32).toNatClampNeg) + 0))) fun S471 =>
 pw_c (decide (z470 = 0) || decide (z470 = 1)) <|
 some (S471, z470))
 else
 (pw_c (np_inb 0 (pw_len u368)) <|
 pw_l (pw_up S385 u368 u369 (upd (S385 u368 u369) (0 : Int32).toNatClampNeg ((S385 u368 u369 (0 : Int32).toNatClampNeg) + 1))) fun S475 =>
 pw_c (decide (z470 = 0) || decide (z470 = 1)) <|
 some (S475, z470)))
 else
 (if z392 < (-1) then
 (pw_l (0 : Int32) fun z479 =>
 pw_c (np_inb 0 (pw_len u368)) <|
 if z384 < 0 then
 (pw_c (np_inb 0 (pw_len u368)) <|
 pw_l (pw_up S385 u368 u369 (upd (S385 u368 u369) (0 : Int32).toNatClampNeg ((S385 u368 u369 (0 : Int32).toNatClampNeg) + 0))) fun S480 =>
 pw_c (decide (z479 = 0) || decide (z479 = 1)) <|
 some (S480, z479))
 else
 (pw_c (np_inb 0 (pw_len u368)) <|
 pw_l (pw_up S385 u368 u369 (upd (S385 u368 u369) (0 : Int32).toNatClampNeg ((S385 u368 u369 (0 : Int32).toNatClampNeg) + 1))) fun S484 =>
 pw_c (decide (z479 = 0) || decide (z479 = 1)) <|
 some (S484, z479)))
 else
 (pw_b (m_X11_dropItems S385 u366) fun S488 r491 =>
 if 0 ≤ z384 then
 (if r491 = 0 then
 (pw_l (1 : Int32) fun z493 =>
 pw_c (np_inb 0 (pw_len u368)) <|
 if z384 < 0 then
 (pw_c (np_inb 0 (pw_len u368)) <|
 pw_l (pw_up S488 u368 u369 (upd (S488 u368 u369) (0 : Int32).toNatClampNeg ((S488 u368 u369 (0 : Int32).toNatClampNeg) + 0))) fun S494 =>
 pw_c (decide (z493 = 0) || decide (z493 = 1)) <|
 some (S494, z493))
 else
 (pw_c (np_inb 0 (pw_len u368)) <|
 pw_l (pw_up S488 u368 u369 (upd (S488 u368 u369) (0 : Int32).toNatClampNeg ((S488 u368 u369 (0 : Int32).toNatClampNeg) + 1))) fun S498 =>
 pw_c (decide (z493 = 0) || decide (z493 = 1)) <|
 some (S498, z493)))
 else
 (pw_l (0 : Int32) fun z502 =>
 pw_c (np_inb 0 (pw_len u368)) <|
 if z384 < 0 then
 (pw_c (np_inb 0 (pw_len u368)) <|
 pw_l (pw_up S488 u368 u369 (upd (S488 u368 u369) (0 : Int32).toNatClampNeg ((S488 u368 u369 (0 : Int32).toNatClampNeg) + 0))) fun S503 =>
 pw_c (decide (z502 = 0) || decide (z502 = 1)) <|
 some (S503, z502))
 else
 (pw_c (np_inb 0 (pw_len u368)) <|
 pw_l (pw_up S488 u368 u369 (upd (S488 u368 u369) (0 : Int32).toNatClampNeg ((S488 u368 u369 (0 : Int32).toNatClampNeg) + 1))) fun S507 =>
 pw_c (decide (z502 = 0) || decide (z502 = 1)) <|
 some (S507, z502))))
 else
 (if r491 = u373 then
 (pw_l (1 : Int32) fun z511 =>
 pw_c (np_inb 0 (pw_len u368)) <|
 if z384 < 0 then
 (pw_c (np_inb 0 (pw_len u368)) <|
 pw_l (pw_up S488 u368 u369 (upd (S488 u368 u369) (0 : Int32).toNatClampNeg ((S488 u368 u369 (0 : Int32).toNatClampNeg) + 0))) fun S512 =>
 pw_c (decide (z511 = 0) || decide (z511 = 1)) <|
 some (S512, z511))
 else
 (pw_c (np_inb 0 (pw_len u368)) <|
 pw_l (pw_up S488 u368 u369 (upd (S488 u368 u369) (0 : Int32).toNatClampNeg ((S488 u368 u369 (0 : Int32).toNatClampNeg) + 1))) fun S516 =>
 pw_c (decide (z511 = 0) || decide (z511 = 1)) <|
 some (S516, z511)))
 else
 (pw_l (0 : Int32) fun z520 =>
 pw_c (np_inb 0 (pw_len u368)) <|
 if z384 < 0 then
 (pw_c (np_inb 0 (pw_len u368)) <|
 pw_l (pw_up S488 u368 u369 (upd (S488 u368 u369) (0 : Int32).toNatClampNeg ((S488 u368 u369 (0 : Int32).toNatClampNeg) + 0))) fun S521 =>
 pw_c (decide (z520 = 0) || decide (z520 = 1)) <|
 some (S521, z520))
 else
 (pw_c (np_inb 0 (pw_len u368)) <|
 pw_l (pw_up S488 u368 u369 (upd (S488 u368 u369) (0 : Int32).toNatClampNeg ((S488 u368 u369 (0 : Int32).toNatClampNeg) + 1))) fun S525 =>
 pw_c (decide (z520 = 0) || decide (z520 = 1)) <|
 some (S525, z520))))))))
 else
 (pw_l (0 : Int32) fun z529 =>
 pw_c (np_inb 0 (pw_len u368)) <|
 if z384 < 0 then
 (pw_c (np_inb 0 (pw_len u368)) <|
 pw_l (pw_up S385 u368 u369 (upd (S385 u368 u369) (0 : Int32).toNatClampNeg ((S385 u368 u369 (0 : Int32).toNatClampNeg) + 0))) fun S530 =>
 pw_c (decide (z529 = 0) || decide (z529 = 1)) <|
 some (S530, z529))
 else
 (pw_c (np_inb 0 (pw_len u368)) <|
 pw_l (pw_up S385 u368 u369 (upd (S385 u368 u369) (0 : Int32).toNatClampNeg ((S385 u368 u369 (0 : Int32).toNatClampNeg) + 1))) fun S534 =>
 pw_c (decide (z529 = 0) || decide (z529 = 1)) <|
 some (S534, z529))))))) (fun _ => none))
 else
 (pw_l ((-1) : Int32) fun z538 =>
 if u372 < 0 then
 (pw_l (0 : Int32) fun z539 =>
 pw_c (np_inb 0 (pw_len u368)) <|
 if z384 < 0 then
 (pw_c (np_inb 0 (pw_len u368)) <|
 pw_l (pw_up S377 u368 u369 (upd (S377 u368 u369) (0 : Int32).toNatClampNeg ((S377 u368 u369 (0 : Int32).toNatClampNeg) + 0))) fun S540 =>
 pw_c (decide (z539 = 0) || decide (z539 = 1)) <|
 some (S540, z539))
 else
 (pw_c (np_inb 0 (pw_len u368)) <|
 pw_l (pw_up S377 u368 u369 (upd (S377 u368 u369) (0 : Int32).toNatClampNeg ((S377 u368 u369 (0 : Int32).toNatClampNeg) + 1))) fun S544 =>
 pw_c (decide (z539 = 0) || decide (z539 = 1)) <|
 some (S544, z539)))
 else
 (if z384 = (-1) then
 (if u373 ≤ z538 then
 (pw_l (0 : Int32) fun z548 =>
 pw_c (np_inb 0 (pw_len u368)) <|
 if z384 < 0 then
 (pw_c (np_inb 0 (pw_len u368)) <|
 pw_l (pw_up S377 u368 u369 (upd (S377 u368 u369) (0 : Int32).toNatClampNeg ((S377 u368 u369 (0 : Int32).toNatClampNeg) + 0))) fun S549 =>
 pw_c (decide (z548 = 0) || decide (z548 = 1)) <|
 some (S549, z548))
 else
 (pw_c (np_inb 0 (pw_len u368)) <|
 pw_l (pw_up S377 u368 u369 (upd (S377 u368 u369) (0 : Int32).toNatClampNeg ((S377 u368 u369 (0 : Int32).toNatClampNeg) + 1))) fun S553 =>
 pw_c (decide (z548 = 0) || decide (z548 = 1)) <|
 some (S553, z548)))
 else
 (if z538 < (-1) then
 (pw_l (0 : Int32) fun z557 =>
 pw_c (np_inb 0 (pw_len u368)) <|
 if z384 < 0 then
 (pw_c (np_inb 0 (pw_len u368)) <|
 pw_l (pw_up S377 u368 u369 (upd (S377 u368 u369) (0 : Int32).toNatClampNeg ((S377 u368 u369 (0 : Int32).toNatClampNeg) + 0))) fun S558 =>
 pw_c (decide (z557 = 0) || decide (z557 = 1)) <|
 some (S558, z557))
 else
 (pw_c (np_inb 0 (pw_len u368)) <|
 pw_l (pw_up S377 u368 u369 (upd (S377 u368 u369) (0 : Int32).toNatClampNeg ((S377 u368 u369 (0 : Int32).toNatClampNeg) + 1))) fun S562 =>
 pw_c (decide (z557 = 0) || decide (z557 = 1)) <|
 some (S562, z557)))
 else
 (pw_b (m_X11_dropItems S377 u366) fun S566 r569 =>
 if 0 ≤ z384 then
 (if r569 = 0 then
 (pw_l (1 : Int32) fun z571 =>
 pw_c (np_inb 0 (pw_len u368)) <|
 if z384 < 0 then
 (pw_c (np_inb 0 (pw_len u368)) <|
 pw_l (pw_up S566 u368 u369 (upd (S566 u368 u369) (0 : Int32).toNatClampNeg ((S566 u368 u369 (0 : Int32).toNatClampNeg) + 0))) fun S572 =>
 pw_c (decide (z571 = 0) || decide (z571 = 1)) <|
 some (S572, z571))
 else
 (pw_c (np_inb 0 (pw_len u368)) <|
 pw_l (pw_up S566 u368 u369 (upd (S566 u368 u369) (0 : Int32).toNatClampNeg ((S566 u368 u369 (0 : Int32).toNatClampNeg) + 1))) fun S576 =>
 pw_c (decide (z571 = 0) || decide (z571 = 1)) <|
 some (S576, z571)))
 else
 (pw_l (0 : Int32) fun z580 =>
 pw_c (np_inb 0 (pw_len u368)) <|
 if z384 < 0 then
 (pw_c (np_inb 0 (pw_len u368)) <|
 pw_l (pw_up S566 u368 u369 (upd (S566 u368 u369) (0 : Int32).toNatClampNeg ((S566 u368 u369 (0 : Int32).toNatClampNeg) + 0))) fun S581 =>
 pw_c (decide (z580 = 0) || decide (z580 = 1)) <|
 some (S581, z580))
 else
 (pw_c (np_inb 0 (pw_len u368)) <|
 pw_l (pw_up S566 u368 u369 (upd (S566 u368 u369) (0 : Int32).toNatClampNeg ((S566 u368 u369 (0 : Int32).toNatClampNeg) + 1))) fun S585 =>
 pw_c (decide (z580 = 0) || decide (z580 = 1)) <|
 some (S585, z580))))
 else
 (if r569 = u373 then
 (pw_l (1 : Int32) fun z589 =>
 pw_c (np_inb 0 (pw_len u368)) <|
 if z384 < 0 then
 (pw_c (np_inb 0 (pw_len u368)) <|
 pw_l (pw_up S566 u368 u369 (upd (S566 u368 u369) (0 : Int32).toNatClampNeg ((S566 u368 u369 (0 : Int32).toNatClampNeg) + 0))) fun S590 =>
 pw_c (decide (z589 = 0) || decide (z589 = 1)) <|
 some (S590, z589))
 else
 (pw_c (np_inb 0 (pw_len u368)) <|
 pw_l (pw_up S566 u368 u369 (upd (S566 u368 u369) (0 : Int32).toNatClampNeg ((S566 u368 u369 (0 : Int32).toNatClampNeg) + 1))) fun S594 =>
 pw_c (decide (z589 = 0) || decide (z589 = 1)) <|
 some (S594, z589)))
 else
 (pw_l (0 : Int32) fun z598 =>
 pw_c (np_inb 0 (pw_len u368)) <|
 if z384 < 0 then
 (pw_c (np_inb 0 (pw_len u368)) <|
 pw_l (pw_up S566 u368 u369 (upd (S566 u368 u369) (0 : Int32).toNatClampNeg ((S566 u368 u369 (0 : Int32).toNatClampNeg) + 0))) fun S599 =>
 pw_c (decide (z598 = 0) || decide (z598 = 1)) <|
 some (S599, z598))
 else
 (pw_c (np_inb 0 (pw_len u368)) <|
 pw_l (pw_up S566 u368 u369 (upd (S566 u368 u369) (0 : Int32).toNatClampNeg ((S566 u368 u369 (0 : Int32).toNatClampNeg) + 1))) fun S603 =>
 pw_c (decide (z598 = 0) || decide (z598 = 1)) <|
 some (S603, z598)))))))
 else
 (pw_c (np_inb 0 (pw_len u368)) <|
 if z384 = (S377 u368 u369 (0 : Int32).toNatClampNeg) then
 (if u373 ≤ 0 then
 (pw_l (0 : Int32) fun z607 =>
 pw_c (np_inb 0 (pw_len u368)) <|
 if z384 < 0 then
 (pw_c (np_inb 0 (pw_len u368)) <|
 pw_l (pw_up S377 u368 u369 (upd (S377 u368 u369) (0 : Int32).toNatClampNeg ((S377 u368 u369 (0 : Int32).toNatClampNeg) + 0))) fun S608 =>
 pw_c (decide (z607 = 0) || decide (z607 = 1)) <|
 some (S608, z607))
 else
 (pw_c (np_inb 0 (pw_len u368)) <|
 pw_l (pw_up S377 u368 u369 (upd (S377 u368 u369) (0 : Int32).toNatClampNeg ((S377 u368 u369 (0 : Int32).toNatClampNeg) + 1))) fun S612 =>
 pw_c (decide (z607 = 0) || decide (z607 = 1)) <|
 some (S612, z607)))
 else
 (if u373 ≤ z538 then
 (pw_l (0 : Int32) fun z616 =>
 pw_c (np_inb 0 (pw_len u368)) <|
 if z384 < 0 then
 (pw_c (np_inb 0 (pw_len u368)) <|
 pw_l (pw_up S377 u368 u369 (upd (S377 u368 u369) (0 : Int32).toNatClampNeg ((S377 u368 u369 (0 : Int32).toNatClampNeg) + 0))) fun S617 =>
 pw_c (decide (z616 = 0) || decide (z616 = 1)) <|
 some (S617, z616))
 else
 (pw_c (np_inb 0 (pw_len u368)) <|
 pw_l (pw_up S377 u368 u369 (upd (S377 u368 u369) (0 : Int32).toNatClampNeg ((S377 u368 u369 (0 : Int32).toNatClampNeg) + 1))) fun S621 =>
 pw_c (decide (z616 = 0) || decide (z616 = 1)) <|
 some (S621, z616)))
 else
 (if z538 < (-1) then
 (pw_l (0 : Int32) fun z625 =>
 pw_c (np_inb 0 (pw_len u368)) <|
 if z384 < 0 then
 (pw_c (np_inb 0 (pw_len u368)) <|
 pw_l (pw_up S377 u368 u369 (upd (S377 u368 u369) (0 : Int32).toNatClampNeg ((S377 u368 u369 (0 : Int32).toNatClampNeg) + 0))) fun S626 =>
 pw_c (decide (z625 = 0) || decide (z625 = 1)) <|
 some (S626, z625))
 else
 (pw_c (np_inb 0 (pw_len u368)) <|
 pw_l (pw_up S377 u368 u369 (upd (S377 u368 u369) (0 : Int32).toNatClampNeg ((S377 u368 u369 (0 : Int32).toNatClampNeg) + 1))) fun S630 =>
 pw_c (decide (z625 = 0) || decide (z625 = 1)) <|
 some (S630, z625)))
 else
 (pw_b (m_X11_dropItems S377 u366) fun S634 r637 =>
 if 0 ≤ z384 then
 (if r637 = 0 then
 (pw_l (1 : Int32) fun z639 =>
 pw_c (np_inb 0 (pw_len u368)) <|
 if z384 < 0 then
 (pw_c (np_inb 0 (pw_len u368)) <|
 pw_l (pw_up S634 u368 u369 (upd (S634 u368 u369) (0 : Int32).toNatClampNeg ((S634 u368 u369 (0 : Int32).toNatClampNeg) + 0))) fun S640 =>
 pw_c (decide (z639 = 0) || decide (z639 = 1)) <|
 some (S640, z639))
 else
 (pw_c (np_inb 0 (pw_len u368)) <|
 pw_l (pw_up S634 u368 u369 (upd (S634 u368 u369) (0 : Int32).toNatClampNeg ((S634 u368 u369 (0 : Int32).toNatClampNeg) + 1))) fun S644 =>
 pw_c (decide (z639 = 0) || decide (z639 = 1)) <|
 some (S644, z639)))
 else
 (pw_l (0 : Int32) fun z648 =>
 pw_c (np_inb 0 (pw_len u368)) <|
 if z384 < 0 then
 (pw_c (np_inb 0 (pw_len u368)) <|
 pw_l (pw_up S634 u368 u369 (upd (S634 u368 u369) (0 : Int32).toNatClampNeg ((S634 u368 u369 (0 : Int32).toNatClampNeg) + 0))) fun S649 =>
 pw_c (decide (z648 = 0) || decide (z648 = 1)) <|
 some (S649, z648))
 else
 (pw_c (np_inb 0 (pw_len u368)) <|
 pw_l (pw_up S634 u368 u369 (upd (S634 u368 u369) (0 : Int32).toNatClampNeg ((S634 u368 u369 (0 : Int32).toNatClampNeg) + 1))) fun S653 =>
 pw_c (decide (z648 = 0) || decide (z648 = 1)) <|
 some (S653, z648))))
 else
 (if r637 = u373 then
 (pw_l (1 : Int32) fun z657 =>
 pw_c (np_inb 0 (pw_len u368)) <|
 if z384 < 0 then
 (pw_c (np_inb 0 (pw_len u368)) <|
 pw_l (pw_up S634 u368 u369 (upd (S634 u368 u369) (0 : Int32).toNatClampNeg ((S634 u368 u369 (0 : Int32).toNatClampNeg) + 0))) fun S658 =>
 pw_c (decide (z657 = 0) || decide (z657 = 1)) <|
 some (S658, z657))
 else
 (pw_c (np_inb 0 (pw_len u368)) <|
 pw_l (pw_up S634 u368 u369 (upd (S634 u368 u369) (0 : Int32).toNatClampNeg ((S634 u368 u369 (0 : Int32).toNatClampNeg) + 1))) fun S662 =>
 pw_c (decide (z657 = 0) || decide (z657 = 1)) <|
 some (S662, z657)))
 else
 (pw_l (0 : Int32) fun z666 =>
 pw_c (np_inb 0 (pw_len u368)) <|
 if z384 < 0 then
 (pw_c (np_inb 0 (pw_len u368)) <|
 pw_l (pw_up S634 u368 u369 (upd (S634 u368 u369) (0 : Int32).toNatClampNeg ((S634 u368 u369 (0 : Int32).toNatClampNeg) + 0))) fun S667 =>
 pw_c (decide (z666 = 0) || decide (z666 = 1)) <|
 some (S667, z666))
 else
 (pw_c (np_inb 0 (pw_len u368)) <|
 pw_l (pw_up S634 u368 u369 (upd (S634 u368 u369) (0 : Int32).toNatClampNeg ((S634 u368 u369 (0 : Int32).toNatClampNeg) + 1))) fun S671 =>
 pw_c (decide (z666 = 0) || decide (z666 = 1)) <|
 some (S671, z666))))))))
 else
 (pw_l (0 : Int32) fun z675 =>
 pw_c (np_inb 0 (pw_len u368)) <|
 if z384 < 0 then
 (pw_c (np_inb 0 (pw_len u368)) <|
 pw_l (pw_up S377 u368 u369 (upd (S377 u368 u369) (0 : Int32).toNatClampNeg ((S377 u368 u369 (0 : Int32).toNatClampNeg) + 0))) fun S676 =>
 pw_c (decide (z675 = 0) || decide (z675 = 1)) <|
 some (S676, z675))
 else
 (pw_c (np_inb 0 (pw_len u368)) <|
 pw_l (pw_up S377 u368 u369 (upd (S377 u368 u369) (0 : Int32).toNatClampNeg ((S377 u368 u369 (0 : Int32).toNatClampNeg) + 1))) fun S680 =>
 pw_c (decide (z675 = 0) || decide (z675 = 1)) <|
 some (S680, z675)))))))) (fun _ => none))) (pw_F 7) S357 i0 x2 a3 i3 z356 z362 z363 z364 z365)
def sp_L_describes : np_Sp := fun vs w Q => ∃ (q : Nat) (S : pw_S) (i0 : Nat) (x1 : Int32) (x2 : Int32) (a3 : Nat) (i3 : Nat), vs = [.ref (pw_pl 61 i0), .int x1, .int x2, .ref (pw_pl a3 i3)] ∧ pw_ok q 61 i0 = true ∧ pw_arr a3 = true ∧ pw_ok q a3 i3 = true ∧ pw_W q w S ∧ pw_p (m_L_describes S i0 x1 x2 a3 i3) (fun S' r => ∀ f', pw_W q (w.1, f') S' → Q (some (.int r)) (w.1, f'))
set_option maxRecDepth 100000 in
set_option maxHeartbeats 8000000 in
theorem C_L_describes : np_C yL_describes cL_describes 11 (some .boolean) 8 152 9 54 (sp_L_describes) := by
  refine np_of (by decide) ?_
  intro X vs w Q hsp hX hmn hRt hlt
  obtain ⟨q, S, i0, x1, x2, a3, i3, rfl, hi0, ha3, hi3, hW, h⟩ := hsp
  obtain ⟨n, f⟩ := w
  unfold m_L_describes at h
  have hR : ∀ st w ce sl, np_rt (some .boolean) 9 54 Q st w ce sl → X.2.2.1 st w ce sl := fun _ _ _ _ h => by rw [hRt]; exact h
  refine np_soundW (so_L_describes hX hR) [35] 400 0 _ _ _ _ _ ?_
  conv => whnf
  refine np_rd_i (hW.ga ha3 hi3) ?_
  conv => whnf
  refine pw_ck h (fun _ h => ?_)
  conv => whnf
  refine pw_br h (fun _ h => ?_) (fun _ h => ?_)
  · conv => whnf
    exact ⟨Nat.le_of_ble_eq_true rfl, Nat.le_of_ble_eq_true rfl, ⟨_, rfl, by decide⟩, _, fun _ _ h9 => h9, pw_ps h _ hW⟩
  · conv => whnf
    refine pw_st h (fun z356 h => ?_)
    conv => whnf
    refine np_rd_i (hW.g hi0) ?_
    conv => whnf
    refine ⟨q, S, i0, rfl, hi0, hW, pw_bd h (fun S357 r360 h f358 hW359 => ?_)⟩
    conv => whnf
    refine pw_st h (fun z362 h => ?_)
    conv => whnf
    refine pw_st h (fun z363 h => ?_)
    conv => whnf
    refine pw_st h (fun z364 h => ?_)
    conv => whnf
    refine pw_st h (fun z365 h => ?_)
    conv => whnf
    refine np_gl (L_L_describes_35 (dc := 2) (ds := 12) hX hR (fun S374 u366 u368 u369 u372 u373 f375 ce684 sl685 ho367 ho370 ho371 hc686 hs687 hW376 h => ?_) (pw_F 7) S357 i0 x2 a3 i3 z356 z362 z363 z364 z365 f358 _ _ hi0 ha3 hi3 (by rw [pw_F_eq]; omega) (by rw [pw_F_eq]; omega) hW359 h) ⟨rfl, rfl, rfl, rfl, rfl, rfl, rfl, rfl, trivial⟩
    · refine np_soundW (so_L_describes hX hR) [35] 400 398 _ _ _ _ _ ?_
      conv => whnf
      refine np_rd_i (hW376.g ho367) ?_
      conv => whnf
      refine np_chk_i (pw_and rfl (pw_and rfl (pw_and rfl (pw_and rfl ((pw_and (pw_le (by omega)) (pw_le (by omega)))))))) ?_
      conv => whnf
      refine ⟨q, S374, u366, rfl, ho367, hW376, pw_bd h (fun S377 r380 h f378 hW379 => ?_)⟩
      rcases r380 with r382 | e383
      · replace h := pw_ei h
        conv => whnf
        refine pw_st h (fun z384 h => ?_)
        conv => whnf
        refine pw_br h (fun _ h => ?_) (fun _ h => ?_)
        · conv => whnf
          refine np_rd_i (hW379.g ho367) ?_
          conv => whnf
          refine np_chk_i (pw_and rfl (pw_and rfl (pw_and rfl (pw_and rfl ((pw_and (pw_le (by omega)) (pw_le (by omega)))))))) ?_
          conv => whnf
          refine ⟨q, S377, u366, z384, rfl, ho367, hW379, pw_bd h (fun S385 r388 h f386 hW387 => ?_)⟩
          rcases r388 with r390 | e391
          · replace h := pw_ei h
            conv => whnf
            refine pw_st h (fun z392 h => ?_)
            conv => whnf
            refine pw_br h (fun _ h => ?_) (fun _ h => ?_)
            · conv => whnf
              refine pw_st h (fun z393 h => ?_)
              conv => whnf
              refine np_rd_i (hW387.ga ho370 ho371) ?_
              conv => whnf
              refine pw_ck h (fun _ h => ?_)
              conv => whnf
              refine pw_br h (fun _ h => ?_) (fun _ h => ?_)
              · conv => whnf
                refine np_rd_i (hW387.ga ho370 ho371) ?_
                conv => whnf
                refine pw_ck h (fun _ h => ?_)
                conv => whnf
                refine pw_wr (a := u368) (i := u369) (d := upd (S385 u368 u369) (0 : Int32).toNatClampNeg ((S385 u368 u369 (0 : Int32).toNatClampNeg) + 0)) hW387 ho371 (pw_ent_arr ho370).symm h (fun S394 f395 hW396 h => ?_)
                conv => whnf
                obtain ⟨hb397, h⟩ := pw_ck1 h
                conv => whnf
                exact ⟨(by omega), (by omega), ⟨_, rfl, pw_nz hb397⟩, _, fun _ _ h9 => h9, pw_ps h _ hW396⟩
              · conv => whnf
                refine np_rd_i (hW387.ga ho370 ho371) ?_
                conv => whnf
                refine pw_ck h (fun _ h => ?_)
                conv => whnf
                refine pw_wr (a := u368) (i := u369) (d := upd (S385 u368 u369) (0 : Int32).toNatClampNeg ((S385 u368 u369 (0 : Int32).toNatClampNeg) + 1)) hW387 ho371 (pw_ent_arr ho370).symm h (fun S398 f399 hW400 h => ?_)
                conv => whnf
                obtain ⟨hb401, h⟩ := pw_ck1 h
                conv => whnf
                exact ⟨(by omega), (by omega), ⟨_, rfl, pw_nz hb401⟩, _, fun _ _ h9 => h9, pw_ps h _ hW400⟩
            · conv => whnf
              refine pw_br h (fun _ h => ?_) (fun _ h => ?_)
              · conv => whnf
                refine pw_br h (fun _ h => ?_) (fun _ h => ?_)
                · conv => whnf
                  refine pw_st h (fun z402 h => ?_)
                  conv => whnf
                  refine np_rd_i (hW387.ga ho370 ho371) ?_
                  conv => whnf
                  refine pw_ck h (fun _ h => ?_)
                  conv => whnf
                  refine pw_br h (fun _ h => ?_) (fun _ h => ?_)
                  · conv => whnf
                    refine np_rd_i (hW387.ga ho370 ho371) ?_
                    conv => whnf
                    refine pw_ck h (fun _ h => ?_)
                    conv => whnf
                    refine pw_wr (a := u368) (i := u369) (d := upd (S385 u368 u369) (0 : Int32).toNatClampNeg ((S385 u368 u369 (0 : Int32).toNatClampNeg) + 0)) hW387 ho371 (pw_ent_arr ho370).symm h (fun S403 f404 hW405 h => ?_)
                    conv => whnf
                    obtain ⟨hb406, h⟩ := pw_ck1 h
                    conv => whnf
                    exact ⟨(by omega), (by omega), ⟨_, rfl, pw_nz hb406⟩, _, fun _ _ h9 => h9, pw_ps h _ hW405⟩
                  · conv => whnf
                    refine np_rd_i (hW387.ga ho370 ho371) ?_
                    conv => whnf
                    refine pw_ck h (fun _ h => ?_)
                    conv => whnf
                    refine pw_wr (a := u368) (i := u369) (d := upd (S385 u368 u369) (0 : Int32).toNatClampNeg ((S385 u368 u369 (0 : Int32).toNatClampNeg) + 1)) hW387 ho371 (pw_ent_arr ho370).symm h (fun S407 f408 hW409 h => ?_)
                    conv => whnf
                    obtain ⟨hb410, h⟩ := pw_ck1 h
                    conv => whnf
                    exact ⟨(by omega), (by omega), ⟨_, rfl, pw_nz hb410⟩, _, fun _ _ h9 => h9, pw_ps h _ hW409⟩
                · conv => whnf
                  refine pw_br h (fun _ h => ?_) (fun _ h => ?_)
                  · conv => whnf
                    refine pw_st h (fun z411 h => ?_)
                    conv => whnf
                    refine np_rd_i (hW387.ga ho370 ho371) ?_
                    conv => whnf
                    refine pw_ck h (fun _ h => ?_)
                    conv => whnf
                    refine pw_br h (fun _ h => ?_) (fun _ h => ?_)
                    · conv => whnf
                      refine np_rd_i (hW387.ga ho370 ho371) ?_
                      conv => whnf
                      refine pw_ck h (fun _ h => ?_)
                      conv => whnf
                      refine pw_wr (a := u368) (i := u369) (d := upd (S385 u368 u369) (0 : Int32).toNatClampNeg ((S385 u368 u369 (0 : Int32).toNatClampNeg) + 0)) hW387 ho371 (pw_ent_arr ho370).symm h (fun S412 f413 hW414 h => ?_)
                      conv => whnf
                      obtain ⟨hb415, h⟩ := pw_ck1 h
                      conv => whnf
                      exact ⟨(by omega), (by omega), ⟨_, rfl, pw_nz hb415⟩, _, fun _ _ h9 => h9, pw_ps h _ hW414⟩
                    · conv => whnf
                      refine np_rd_i (hW387.ga ho370 ho371) ?_
                      conv => whnf
                      refine pw_ck h (fun _ h => ?_)
                      conv => whnf
                      refine pw_wr (a := u368) (i := u369) (d := upd (S385 u368 u369) (0 : Int32).toNatClampNeg ((S385 u368 u369 (0 : Int32).toNatClampNeg) + 1)) hW387 ho371 (pw_ent_arr ho370).symm h (fun S416 f417 hW418 h => ?_)
                      conv => whnf
                      obtain ⟨hb419, h⟩ := pw_ck1 h
                      conv => whnf
                      exact ⟨(by omega), (by omega), ⟨_, rfl, pw_nz hb419⟩, _, fun _ _ h9 => h9, pw_ps h _ hW418⟩
                  · conv => whnf
                    refine np_rd_i (hW387.g ho367) ?_
                    conv => whnf
                    refine np_chk_i (pw_and rfl (pw_and rfl (pw_and rfl ((pw_and (pw_le (by omega)) (pw_le (by omega))))))) ?_
                    conv => whnf
                    refine ⟨q, S385, u366, rfl, ho367, hW387, pw_bd h (fun S420 r423 h f421 hW422 => ?_)⟩
                    conv => whnf
                    refine pw_br h (fun _ h => ?_) (fun _ h => ?_)
                    · conv => whnf
                      refine pw_br h (fun _ h => ?_) (fun _ h => ?_)
                      · conv => whnf
                        refine pw_st h (fun z425 h => ?_)
                        conv => whnf
                        refine np_rd_i (hW422.ga ho370 ho371) ?_
                        conv => whnf
                        refine pw_ck h (fun _ h => ?_)
                        conv => whnf
                        refine pw_br h (fun _ h => ?_) (fun _ h => ?_)
                        · conv => whnf
                          refine np_rd_i (hW422.ga ho370 ho371) ?_
                          conv => whnf
                          refine pw_ck h (fun _ h => ?_)
                          conv => whnf
                          refine pw_wr (a := u368) (i := u369) (d := upd (S420 u368 u369) (0 : Int32).toNatClampNeg ((S420 u368 u369 (0 : Int32).toNatClampNeg) + 0)) hW422 ho371 (pw_ent_arr ho370).symm h (fun S426 f427 hW428 h => ?_)
                          conv => whnf
                          obtain ⟨hb429, h⟩ := pw_ck1 h
                          conv => whnf
                          exact ⟨(by omega), (by omega), ⟨_, rfl, pw_nz hb429⟩, _, fun _ _ h9 => h9, pw_ps h _ hW428⟩
                        · conv => whnf
                          refine np_rd_i (hW422.ga ho370 ho371) ?_
                          conv => whnf
                          refine pw_ck h (fun _ h => ?_)
                          conv => whnf
                          refine pw_wr (a := u368) (i := u369) (d := upd (S420 u368 u369) (0 : Int32).toNatClampNeg ((S420 u368 u369 (0 : Int32).toNatClampNeg) + 1)) hW422 ho371 (pw_ent_arr ho370).symm h (fun S430 f431 hW432 h => ?_)
                          conv => whnf
                          obtain ⟨hb433, h⟩ := pw_ck1 h
                          conv => whnf
                          exact ⟨(by omega), (by omega), ⟨_, rfl, pw_nz hb433⟩, _, fun _ _ h9 => h9, pw_ps h _ hW432⟩
                      · conv => whnf
                        refine pw_st h (fun z434 h => ?_)
                        conv => whnf
                        refine np_rd_i (hW422.ga ho370 ho371) ?_
                        conv => whnf
                        refine pw_ck h (fun _ h => ?_)
                        conv => whnf
                        refine pw_br h (fun _ h => ?_) (fun _ h => ?_)
                        · conv => whnf
                          refine np_rd_i (hW422.ga ho370 ho371) ?_
                          conv => whnf
                          refine pw_ck h (fun _ h => ?_)
                          conv => whnf
                          refine pw_wr (a := u368) (i := u369) (d := upd (S420 u368 u369) (0 : Int32).toNatClampNeg ((S420 u368 u369 (0 : Int32).toNatClampNeg) + 0)) hW422 ho371 (pw_ent_arr ho370).symm h (fun S435 f436 hW437 h => ?_)
                          conv => whnf
                          obtain ⟨hb438, h⟩ := pw_ck1 h
                          conv => whnf
                          exact ⟨(by omega), (by omega), ⟨_, rfl, pw_nz hb438⟩, _, fun _ _ h9 => h9, pw_ps h _ hW437⟩
                        · conv => whnf
                          refine np_rd_i (hW422.ga ho370 ho371) ?_
                          conv => whnf
                          refine pw_ck h (fun _ h => ?_)
                          conv => whnf
                          refine pw_wr (a := u368) (i := u369) (d := upd (S420 u368 u369) (0 : Int32).toNatClampNeg ((S420 u368 u369 (0 : Int32).toNatClampNeg) + 1)) hW422 ho371 (pw_ent_arr ho370).symm h (fun S439 f440 hW441 h => ?_)
                          conv => whnf
                          obtain ⟨hb442, h⟩ := pw_ck1 h
                          conv => whnf
                          exact ⟨(by omega), (by omega), ⟨_, rfl, pw_nz hb442⟩, _, fun _ _ h9 => h9, pw_ps h _ hW441⟩
                    · conv => whnf
                      refine pw_br h (fun _ h => ?_) (fun _ h => ?_)
                      · conv => whnf
                        refine pw_st h (fun z443 h => ?_)
                        conv => whnf
                        refine np_rd_i (hW422.ga ho370 ho371) ?_
                        conv => whnf
                        refine pw_ck h (fun _ h => ?_)
                        conv => whnf
                        refine pw_br h (fun _ h => ?_) (fun _ h => ?_)
                        · conv => whnf
                          refine np_rd_i (hW422.ga ho370 ho371) ?_
                          conv => whnf
                          refine pw_ck h (fun _ h => ?_)
                          conv => whnf
                          refine pw_wr (a := u368) (i := u369) (d := upd (S420 u368 u369) (0 : Int32).toNatClampNeg ((S420 u368 u369 (0 : Int32).toNatClampNeg) + 0)) hW422 ho371 (pw_ent_arr ho370).symm h (fun S444 f445 hW446 h => ?_)
                          conv => whnf
                          obtain ⟨hb447, h⟩ := pw_ck1 h
                          conv => whnf
                          exact ⟨(by omega), (by omega), ⟨_, rfl, pw_nz hb447⟩, _, fun _ _ h9 => h9, pw_ps h _ hW446⟩
                        · conv => whnf
                          refine np_rd_i (hW422.ga ho370 ho371) ?_
                          conv => whnf
                          refine pw_ck h (fun _ h => ?_)
                          conv => whnf
                          refine pw_wr (a := u368) (i := u369) (d := upd (S420 u368 u369) (0 : Int32).toNatClampNeg ((S420 u368 u369 (0 : Int32).toNatClampNeg) + 1)) hW422 ho371 (pw_ent_arr ho370).symm h (fun S448 f449 hW450 h => ?_)
                          conv => whnf
                          obtain ⟨hb451, h⟩ := pw_ck1 h
                          conv => whnf
                          exact ⟨(by omega), (by omega), ⟨_, rfl, pw_nz hb451⟩, _, fun _ _ h9 => h9, pw_ps h _ hW450⟩
                      · conv => whnf
                        refine pw_st h (fun z452 h => ?_)
                        conv => whnf
                        refine np_rd_i (hW422.ga ho370 ho371) ?_
                        conv => whnf
                        refine pw_ck h (fun _ h => ?_)
                        conv => whnf
                        refine pw_br h (fun _ h => ?_) (fun _ h => ?_)
                        · conv => whnf
                          refine np_rd_i (hW422.ga ho370 ho371) ?_
                          conv => whnf
                          refine pw_ck h (fun _ h => ?_)
                          conv => whnf
                          refine pw_wr (a := u368) (i := u369) (d := upd (S420 u368 u369) (0 : Int32).toNatClampNeg ((S420 u368 u369 (0 : Int32).toNatClampNeg) + 0)) hW422 ho371 (pw_ent_arr ho370).symm h (fun S453 f454 hW455 h => ?_)
                          conv => whnf
                          obtain ⟨hb456, h⟩ := pw_ck1 h
                          conv => whnf
                          exact ⟨(by omega), (by omega), ⟨_, rfl, pw_nz hb456⟩, _, fun _ _ h9 => h9, pw_ps h _ hW455⟩
                        · conv => whnf
                          refine np_rd_i (hW422.ga ho370 ho371) ?_
                          conv => whnf
                          refine pw_ck h (fun _ h => ?_)
                          conv => whnf
                          refine pw_wr (a := u368) (i := u369) (d := upd (S420 u368 u369) (0 : Int32).toNatClampNeg ((S420 u368 u369 (0 : Int32).toNatClampNeg) + 1)) hW422 ho371 (pw_ent_arr ho370).symm h (fun S457 f458 hW459 h => ?_)
                          conv => whnf
                          obtain ⟨hb460, h⟩ := pw_ck1 h
                          conv => whnf
                          exact ⟨(by omega), (by omega), ⟨_, rfl, pw_nz hb460⟩, _, fun _ _ h9 => h9, pw_ps h _ hW459⟩
              · conv => whnf
                refine np_rd_i (hW387.ga ho370 ho371) ?_
                conv => whnf
                refine pw_ck h (fun _ h => ?_)
                conv => whnf
                refine pw_br h (fun _ h => ?_) (fun _ h => ?_)
                · conv => whnf
                  refine pw_br h (fun _ h => ?_) (fun _ h => ?_)
                  · conv => whnf
                    refine pw_st h (fun z461 h => ?_)
                    conv => whnf
                    refine np_rd_i (hW387.ga ho370 ho371) ?_
                    conv => whnf
                    refine pw_ck h (fun _ h => ?_)
                    conv => whnf
                    refine pw_br h (fun _ h => ?_) (fun _ h => ?_)
                    · conv => whnf
                      refine np_rd_i (hW387.ga ho370 ho371) ?_
                      conv => whnf
                      refine pw_ck h (fun _ h => ?_)
                      conv => whnf
                      refine pw_wr (a := u368) (i := u369) (d := upd (S385 u368 u369) (0 : Int32).toNatClampNeg ((S385 u368 u369 (0 : Int32).toNatClampNeg) + 0)) hW387 ho371 (pw_ent_arr ho370).symm h (fun S462 f463 hW464 h => ?_)
                      conv => whnf
                      obtain ⟨hb465, h⟩ := pw_ck1 h
                      conv => whnf
                      exact ⟨(by omega), (by omega), ⟨_, rfl, pw_nz hb465⟩, _, fun _ _ h9 => h9, pw_ps h _ hW464⟩
                    · conv => whnf
                      refine np_rd_i (hW387.ga ho370 ho371) ?_
                      conv => whnf
                      refine pw_ck h (fun _ h => ?_)
                      conv => whnf
                      refine pw_wr (a := u368) (i := u369) (d := upd (S385 u368 u369) (0 : Int32).toNatClampNeg ((S385 u368 u369 (0 : Int32).toNatClampNeg) + 1)) hW387 ho371 (pw_ent_arr ho370).symm h (fun S466 f467 hW468 h => ?_)
                      conv => whnf
                      obtain ⟨hb469, h⟩ := pw_ck1 h
                      conv => whnf
                      exact ⟨(by omega), (by omega), ⟨_, rfl, pw_nz hb469⟩, _, fun _ _ h9 => h9, pw_ps h _ hW468⟩
                  · conv => whnf
                    refine pw_br h (fun _ h => ?_) (fun _ h => ?_)
                    · conv => whnf
                      refine pw_st h (fun z470 h => ?_)
                      conv => whnf
                      refine np_rd_i (hW387.ga ho370 ho371) ?_
                      conv => whnf
                      refine pw_ck h (fun _ h => ?_)
                      conv => whnf
                      refine pw_br h (fun _ h => ?_) (fun _ h => ?_)
                      · conv => whnf
                        refine np_rd_i (hW387.ga ho370 ho371) ?_
                        conv => whnf
                        refine pw_ck h (fun _ h => ?_)
                        conv => whnf
                        refine pw_wr (a := u368) (i := u369) (d := upd (S385 u368 u369) (0 : Int32).toNatClampNeg ((S385 u368 u369 (0 : Int32).toNatClampNeg) + 0)) hW387 ho371 (pw_ent_arr ho370).symm h (fun S471 f472 hW473 h => ?_)
                        conv => whnf
                        obtain ⟨hb474, h⟩ := pw_ck1 h
                        conv => whnf
                        exact ⟨(by omega), (by omega), ⟨_, rfl, pw_nz hb474⟩, _, fun _ _ h9 => h9, pw_ps h _ hW473⟩
                      · conv => whnf
                        refine np_rd_i (hW387.ga ho370 ho371) ?_
                        conv => whnf
                        refine pw_ck h (fun _ h => ?_)
                        conv => whnf
                        refine pw_wr (a := u368) (i := u369) (d := upd (S385 u368 u369) (0 : Int32).toNatClampNeg ((S385 u368 u369 (0 : Int32).toNatClampNeg) + 1)) hW387 ho371 (pw_ent_arr ho370).symm h (fun S475 f476 hW477 h => ?_)
                        conv => whnf
                        obtain ⟨hb478, h⟩ := pw_ck1 h
                        conv => whnf
                        exact ⟨(by omega), (by omega), ⟨_, rfl, pw_nz hb478⟩, _, fun _ _ h9 => h9, pw_ps h _ hW477⟩
                    · conv => whnf
                      refine pw_br h (fun _ h => ?_) (fun _ h => ?_)
                      · conv => whnf
                        refine pw_st h (fun z479 h => ?_)
                        conv => whnf
                        refine np_rd_i (hW387.ga ho370 ho371) ?_
                        conv => whnf
                        refine pw_ck h (fun _ h => ?_)
                        conv => whnf
                        refine pw_br h (fun _ h => ?_) (fun _ h => ?_)
                        · conv => whnf
                          refine np_rd_i (hW387.ga ho370 ho371) ?_
                          conv => whnf
                          refine pw_ck h (fun _ h => ?_)
                          conv => whnf
                          refine pw_wr (a := u368) (i := u369) (d := upd (S385 u368 u369) (0 : Int32).toNatClampNeg ((S385 u368 u369 (0 : Int32).toNatClampNeg) + 0)) hW387 ho371 (pw_ent_arr ho370).symm h (fun S480 f481 hW482 h => ?_)
                          conv => whnf
                          obtain ⟨hb483, h⟩ := pw_ck1 h
                          conv => whnf
                          exact ⟨(by omega), (by omega), ⟨_, rfl, pw_nz hb483⟩, _, fun _ _ h9 => h9, pw_ps h _ hW482⟩
                        · conv => whnf
                          refine np_rd_i (hW387.ga ho370 ho371) ?_
                          conv => whnf
                          refine pw_ck h (fun _ h => ?_)
                          conv => whnf
                          refine pw_wr (a := u368) (i := u369) (d := upd (S385 u368 u369) (0 : Int32).toNatClampNeg ((S385 u368 u369 (0 : Int32).toNatClampNeg) + 1)) hW387 ho371 (pw_ent_arr ho370).symm h (fun S484 f485 hW486 h => ?_)
                          conv => whnf
                          obtain ⟨hb487, h⟩ := pw_ck1 h
                          conv => whnf
                          exact ⟨(by omega), (by omega), ⟨_, rfl, pw_nz hb487⟩, _, fun _ _ h9 => h9, pw_ps h _ hW486⟩
                      · conv => whnf
                        refine np_rd_i (hW387.g ho367) ?_
                        conv => whnf
                        refine np_chk_i (pw_and rfl (pw_and rfl (pw_and rfl ((pw_and (pw_le (by omega)) (pw_le (by omega))))))) ?_
                        conv => whnf
                        refine ⟨q, S385, u366, rfl, ho367, hW387, pw_bd h (fun S488 r491 h f489 hW490 => ?_)⟩
                        conv => whnf
                        refine pw_br h (fun _ h => ?_) (fun _ h => ?_)
                        · conv => whnf
                          refine pw_br h (fun _ h => ?_) (fun _ h => ?_)
                          · conv => whnf
                            refine pw_st h (fun z493 h => ?_)
                            conv => whnf
                            refine np_rd_i (hW490.ga ho370 ho371) ?_
                            conv => whnf
                            refine pw_ck h (fun _ h => ?_)
                            conv => whnf
                            refine pw_br h (fun _ h => ?_) (fun _ h => ?_)
                            · conv => whnf
                              refine np_rd_i (hW490.ga ho370 ho371) ?_
                              conv => whnf
                              refine pw_ck h (fun _ h => ?_)
                              conv => whnf
                              refine pw_wr (a := u368) (i := u369) (d := upd (S488 u368 u369) (0 : Int32).toNatClampNeg ((S488 u368 u369 (0 : Int32).toNatClampNeg) + 0)) hW490 ho371 (pw_ent_arr ho370).symm h (fun S494 f495 hW496 h => ?_)
                              conv => whnf
                              obtain ⟨hb497, h⟩ := pw_ck1 h
                              conv => whnf
                              exact ⟨(by omega), (by omega), ⟨_, rfl, pw_nz hb497⟩, _, fun _ _ h9 => h9, pw_ps h _ hW496⟩
                            · conv => whnf
                              refine np_rd_i (hW490.ga ho370 ho371) ?_
                              conv => whnf
                              refine pw_ck h (fun _ h => ?_)
                              conv => whnf
                              refine pw_wr (a := u368) (i := u369) (d := upd (S488 u368 u369) (0 : Int32).toNatClampNeg ((S488 u368 u369 (0 : Int32).toNatClampNeg) + 1)) hW490 ho371 (pw_ent_arr ho370).symm h (fun S498 f499 hW500 h => ?_)
                              conv => whnf
                              obtain ⟨hb501, h⟩ := pw_ck1 h
                              conv => whnf
                              exact ⟨(by omega), (by omega), ⟨_, rfl, pw_nz hb501⟩, _, fun _ _ h9 => h9, pw_ps h _ hW500⟩
                          · conv => whnf
                            refine pw_st h (fun z502 h => ?_)
                            conv => whnf
                            refine np_rd_i (hW490.ga ho370 ho371) ?_
                            conv => whnf
                            refine pw_ck h (fun _ h => ?_)
                            conv => whnf
                            refine pw_br h (fun _ h => ?_) (fun _ h => ?_)
                            · conv => whnf
                              refine np_rd_i (hW490.ga ho370 ho371) ?_
                              conv => whnf
                              refine pw_ck h (fun _ h => ?_)
                              conv => whnf
                              refine pw_wr (a := u368) (i := u369) (d := upd (S488 u368 u369) (0 : Int32).toNatClampNeg ((S488 u368 u369 (0 : Int32).toNatClampNeg) + 0)) hW490 ho371 (pw_ent_arr ho370).symm h (fun S503 f504 hW505 h => ?_)
                              conv => whnf
                              obtain ⟨hb506, h⟩ := pw_ck1 h
                              conv => whnf
                              exact ⟨(by omega), (by omega), ⟨_, rfl, pw_nz hb506⟩, _, fun _ _ h9 => h9, pw_ps h _ hW505⟩
                            · conv => whnf
                              refine np_rd_i (hW490.ga ho370 ho371) ?_
                              conv => whnf
                              refine pw_ck h (fun _ h => ?_)
                              conv => whnf
                              refine pw_wr (a := u368) (i := u369) (d := upd (S488 u368 u369) (0 : Int32).toNatClampNeg ((S488 u368 u369 (0 : Int32).toNatClampNeg) + 1)) hW490 ho371 (pw_ent_arr ho370).symm h (fun S507 f508 hW509 h => ?_)
                              conv => whnf
                              obtain ⟨hb510, h⟩ := pw_ck1 h
                              conv => whnf
                              exact ⟨(by omega), (by omega), ⟨_, rfl, pw_nz hb510⟩, _, fun _ _ h9 => h9, pw_ps h _ hW509⟩
                        · conv => whnf
                          refine pw_br h (fun _ h => ?_) (fun _ h => ?_)
                          · conv => whnf
                            refine pw_st h (fun z511 h => ?_)
                            conv => whnf
                            refine np_rd_i (hW490.ga ho370 ho371) ?_
                            conv => whnf
                            refine pw_ck h (fun _ h => ?_)
                            conv => whnf
                            refine pw_br h (fun _ h => ?_) (fun _ h => ?_)
                            · conv => whnf
                              refine np_rd_i (hW490.ga ho370 ho371) ?_
                              conv => whnf
                              refine pw_ck h (fun _ h => ?_)
                              conv => whnf
                              refine pw_wr (a := u368) (i := u369) (d := upd (S488 u368 u369) (0 : Int32).toNatClampNeg ((S488 u368 u369 (0 : Int32).toNatClampNeg) + 0)) hW490 ho371 (pw_ent_arr ho370).symm h (fun S512 f513 hW514 h => ?_)
                              conv => whnf
                              obtain ⟨hb515, h⟩ := pw_ck1 h
                              conv => whnf
                              exact ⟨(by omega), (by omega), ⟨_, rfl, pw_nz hb515⟩, _, fun _ _ h9 => h9, pw_ps h _ hW514⟩
                            · conv => whnf
                              refine np_rd_i (hW490.ga ho370 ho371) ?_
                              conv => whnf
                              refine pw_ck h (fun _ h => ?_)
                              conv => whnf
                              refine pw_wr (a := u368) (i := u369) (d := upd (S488 u368 u369) (0 : Int32).toNatClampNeg ((S488 u368 u369 (0 : Int32).toNatClampNeg) + 1)) hW490 ho371 (pw_ent_arr ho370).symm h (fun S516 f517 hW518 h => ?_)
                              conv => whnf
                              obtain ⟨hb519, h⟩ := pw_ck1 h
                              conv => whnf
                              exact ⟨(by omega), (by omega), ⟨_, rfl, pw_nz hb519⟩, _, fun _ _ h9 => h9, pw_ps h _ hW518⟩
                          · conv => whnf
                            refine pw_st h (fun z520 h => ?_)
                            conv => whnf
                            refine np_rd_i (hW490.ga ho370 ho371) ?_
                            conv => whnf
                            refine pw_ck h (fun _ h => ?_)
                            conv => whnf
                            refine pw_br h (fun _ h => ?_) (fun _ h => ?_)
                            · conv => whnf
                              refine np_rd_i (hW490.ga ho370 ho371) ?_
                              conv => whnf
                              refine pw_ck h (fun _ h => ?_)
                              conv => whnf
                              refine pw_wr (a := u368) (i := u369) (d := upd (S488 u368 u369) (0 : Int32).toNatClampNeg ((S488 u368 u369 (0 : Int32).toNatClampNeg) + 0)) hW490 ho371 (pw_ent_arr ho370).symm h (fun S521 f522 hW523 h => ?_)
                              conv => whnf
                              obtain ⟨hb524, h⟩ := pw_ck1 h
                              conv => whnf
                              exact ⟨(by omega), (by omega), ⟨_, rfl, pw_nz hb524⟩, _, fun _ _ h9 => h9, pw_ps h _ hW523⟩
                            · conv => whnf
                              refine np_rd_i (hW490.ga ho370 ho371) ?_
                              conv => whnf
                              refine pw_ck h (fun _ h => ?_)
                              conv => whnf
                              refine pw_wr (a := u368) (i := u369) (d := upd (S488 u368 u369) (0 : Int32).toNatClampNeg ((S488 u368 u369 (0 : Int32).toNatClampNeg) + 1)) hW490 ho371 (pw_ent_arr ho370).symm h (fun S525 f526 hW527 h => ?_)
                              conv => whnf
                              obtain ⟨hb528, h⟩ := pw_ck1 h
                              conv => whnf
                              exact ⟨(by omega), (by omega), ⟨_, rfl, pw_nz hb528⟩, _, fun _ _ h9 => h9, pw_ps h _ hW527⟩
                · conv => whnf
                  refine pw_st h (fun z529 h => ?_)
                  conv => whnf
                  refine np_rd_i (hW387.ga ho370 ho371) ?_
                  conv => whnf
                  refine pw_ck h (fun _ h => ?_)
                  conv => whnf
                  refine pw_br h (fun _ h => ?_) (fun _ h => ?_)
                  · conv => whnf
                    refine np_rd_i (hW387.ga ho370 ho371) ?_
                    conv => whnf
                    refine pw_ck h (fun _ h => ?_)
                    conv => whnf
                    refine pw_wr (a := u368) (i := u369) (d := upd (S385 u368 u369) (0 : Int32).toNatClampNeg ((S385 u368 u369 (0 : Int32).toNatClampNeg) + 0)) hW387 ho371 (pw_ent_arr ho370).symm h (fun S530 f531 hW532 h => ?_)
                    conv => whnf
                    obtain ⟨hb533, h⟩ := pw_ck1 h
                    conv => whnf
                    exact ⟨(by omega), (by omega), ⟨_, rfl, pw_nz hb533⟩, _, fun _ _ h9 => h9, pw_ps h _ hW532⟩
                  · conv => whnf
                    refine np_rd_i (hW387.ga ho370 ho371) ?_
                    conv => whnf
                    refine pw_ck h (fun _ h => ?_)
                    conv => whnf
                    refine pw_wr (a := u368) (i := u369) (d := upd (S385 u368 u369) (0 : Int32).toNatClampNeg ((S385 u368 u369 (0 : Int32).toNatClampNeg) + 1)) hW387 ho371 (pw_ent_arr ho370).symm h (fun S534 f535 hW536 h => ?_)
                    conv => whnf
                    obtain ⟨hb537, h⟩ := pw_ck1 h
                    conv => whnf
                    exact ⟨(by omega), (by omega), ⟨_, rfl, pw_nz hb537⟩, _, fun _ _ h9 => h9, pw_ps h _ hW536⟩
          · exact (pw_pn h).elim
        · conv => whnf
          refine pw_st h (fun z538 h => ?_)
          conv => whnf
          refine pw_br h (fun _ h => ?_) (fun _ h => ?_)
          · conv => whnf
            refine pw_st h (fun z539 h => ?_)
            conv => whnf
            refine np_rd_i (hW379.ga ho370 ho371) ?_
            conv => whnf
            refine pw_ck h (fun _ h => ?_)
            conv => whnf
            refine pw_br h (fun _ h => ?_) (fun _ h => ?_)
            · conv => whnf
              refine np_rd_i (hW379.ga ho370 ho371) ?_
              conv => whnf
              refine pw_ck h (fun _ h => ?_)
              conv => whnf
              refine pw_wr (a := u368) (i := u369) (d := upd (S377 u368 u369) (0 : Int32).toNatClampNeg ((S377 u368 u369 (0 : Int32).toNatClampNeg) + 0)) hW379 ho371 (pw_ent_arr ho370).symm h (fun S540 f541 hW542 h => ?_)
              conv => whnf
              obtain ⟨hb543, h⟩ := pw_ck1 h
              conv => whnf
              exact ⟨(by omega), (by omega), ⟨_, rfl, pw_nz hb543⟩, _, fun _ _ h9 => h9, pw_ps h _ hW542⟩
            · conv => whnf
              refine np_rd_i (hW379.ga ho370 ho371) ?_
              conv => whnf
              refine pw_ck h (fun _ h => ?_)
              conv => whnf
              refine pw_wr (a := u368) (i := u369) (d := upd (S377 u368 u369) (0 : Int32).toNatClampNeg ((S377 u368 u369 (0 : Int32).toNatClampNeg) + 1)) hW379 ho371 (pw_ent_arr ho370).symm h (fun S544 f545 hW546 h => ?_)
              conv => whnf
              obtain ⟨hb547, h⟩ := pw_ck1 h
              conv => whnf
              exact ⟨(by omega), (by omega), ⟨_, rfl, pw_nz hb547⟩, _, fun _ _ h9 => h9, pw_ps h _ hW546⟩
          · conv => whnf
            refine pw_br h (fun _ h => ?_) (fun _ h => ?_)
            · conv => whnf
              refine pw_br h (fun _ h => ?_) (fun _ h => ?_)
              · conv => whnf
                refine pw_st h (fun z548 h => ?_)
                conv => whnf
                refine np_rd_i (hW379.ga ho370 ho371) ?_
                conv => whnf
                refine pw_ck h (fun _ h => ?_)
                conv => whnf
                refine pw_br h (fun _ h => ?_) (fun _ h => ?_)
                · conv => whnf
                  refine np_rd_i (hW379.ga ho370 ho371) ?_
                  conv => whnf
                  refine pw_ck h (fun _ h => ?_)
                  conv => whnf
                  refine pw_wr (a := u368) (i := u369) (d := upd (S377 u368 u369) (0 : Int32).toNatClampNeg ((S377 u368 u369 (0 : Int32).toNatClampNeg) + 0)) hW379 ho371 (pw_ent_arr ho370).symm h (fun S549 f550 hW551 h => ?_)
                  conv => whnf
                  obtain ⟨hb552, h⟩ := pw_ck1 h
                  conv => whnf
                  exact ⟨(by omega), (by omega), ⟨_, rfl, pw_nz hb552⟩, _, fun _ _ h9 => h9, pw_ps h _ hW551⟩
                · conv => whnf
                  refine np_rd_i (hW379.ga ho370 ho371) ?_
                  conv => whnf
                  refine pw_ck h (fun _ h => ?_)
                  conv => whnf
                  refine pw_wr (a := u368) (i := u369) (d := upd (S377 u368 u369) (0 : Int32).toNatClampNeg ((S377 u368 u369 (0 : Int32).toNatClampNeg) + 1)) hW379 ho371 (pw_ent_arr ho370).symm h (fun S553 f554 hW555 h => ?_)
                  conv => whnf
                  obtain ⟨hb556, h⟩ := pw_ck1 h
                  conv => whnf
                  exact ⟨(by omega), (by omega), ⟨_, rfl, pw_nz hb556⟩, _, fun _ _ h9 => h9, pw_ps h _ hW555⟩
              · conv => whnf
                refine pw_br h (fun _ h => ?_) (fun _ h => ?_)
                · conv => whnf
                  refine pw_st h (fun z557 h => ?_)
                  conv => whnf
                  refine np_rd_i (hW379.ga ho370 ho371) ?_
                  conv => whnf
                  refine pw_ck h (fun _ h => ?_)
                  conv => whnf
                  refine pw_br h (fun _ h => ?_) (fun _ h => ?_)
                  · conv => whnf
                    refine np_rd_i (hW379.ga ho370 ho371) ?_
                    conv => whnf
                    refine pw_ck h (fun _ h => ?_)
                    conv => whnf
                    refine pw_wr (a := u368) (i := u369) (d := upd (S377 u368 u369) (0 : Int32).toNatClampNeg ((S377 u368 u369 (0 : Int32).toNatClampNeg) + 0)) hW379 ho371 (pw_ent_arr ho370).symm h (fun S558 f559 hW560 h => ?_)
                    conv => whnf
                    obtain ⟨hb561, h⟩ := pw_ck1 h
                    conv => whnf
                    exact ⟨(by omega), (by omega), ⟨_, rfl, pw_nz hb561⟩, _, fun _ _ h9 => h9, pw_ps h _ hW560⟩
                  · conv => whnf
                    refine np_rd_i (hW379.ga ho370 ho371) ?_
                    conv => whnf
                    refine pw_ck h (fun _ h => ?_)
                    conv => whnf
                    refine pw_wr (a := u368) (i := u369) (d := upd (S377 u368 u369) (0 : Int32).toNatClampNeg ((S377 u368 u369 (0 : Int32).toNatClampNeg) + 1)) hW379 ho371 (pw_ent_arr ho370).symm h (fun S562 f563 hW564 h => ?_)
                    conv => whnf
                    obtain ⟨hb565, h⟩ := pw_ck1 h
                    conv => whnf
                    exact ⟨(by omega), (by omega), ⟨_, rfl, pw_nz hb565⟩, _, fun _ _ h9 => h9, pw_ps h _ hW564⟩
                · conv => whnf
                  refine np_rd_i (hW379.g ho367) ?_
                  conv => whnf
                  refine np_chk_i (pw_and rfl (pw_and rfl (pw_and rfl ((pw_and (pw_le (by omega)) (pw_le (by omega))))))) ?_
                  conv => whnf
                  refine ⟨q, S377, u366, rfl, ho367, hW379, pw_bd h (fun S566 r569 h f567 hW568 => ?_)⟩
                  conv => whnf
                  refine pw_br h (fun _ h => ?_) (fun _ h => ?_)
                  · conv => whnf
                    refine pw_br h (fun _ h => ?_) (fun _ h => ?_)
                    · conv => whnf
                      refine pw_st h (fun z571 h => ?_)
                      conv => whnf
                      refine np_rd_i (hW568.ga ho370 ho371) ?_
                      conv => whnf
                      refine pw_ck h (fun _ h => ?_)
                      conv => whnf
                      refine pw_br h (fun _ h => ?_) (fun _ h => ?_)
                      · conv => whnf
                        refine np_rd_i (hW568.ga ho370 ho371) ?_
                        conv => whnf
                        refine pw_ck h (fun _ h => ?_)
                        conv => whnf
                        refine pw_wr (a := u368) (i := u369) (d := upd (S566 u368 u369) (0 : Int32).toNatClampNeg ((S566 u368 u369 (0 : Int32).toNatClampNeg) + 0)) hW568 ho371 (pw_ent_arr ho370).symm h (fun S572 f573 hW574 h => ?_)
                        conv => whnf
                        obtain ⟨hb575, h⟩ := pw_ck1 h
                        conv => whnf
                        exact ⟨(by omega), (by omega), ⟨_, rfl, pw_nz hb575⟩, _, fun _ _ h9 => h9, pw_ps h _ hW574⟩
                      · conv => whnf
                        refine np_rd_i (hW568.ga ho370 ho371) ?_
                        conv => whnf
                        refine pw_ck h (fun _ h => ?_)
                        conv => whnf
                        refine pw_wr (a := u368) (i := u369) (d := upd (S566 u368 u369) (0 : Int32).toNatClampNeg ((S566 u368 u369 (0 : Int32).toNatClampNeg) + 1)) hW568 ho371 (pw_ent_arr ho370).symm h (fun S576 f577 hW578 h => ?_)
                        conv => whnf
                        obtain ⟨hb579, h⟩ := pw_ck1 h
                        conv => whnf
                        exact ⟨(by omega), (by omega), ⟨_, rfl, pw_nz hb579⟩, _, fun _ _ h9 => h9, pw_ps h _ hW578⟩
                    · conv => whnf
                      refine pw_st h (fun z580 h => ?_)
                      conv => whnf
                      refine np_rd_i (hW568.ga ho370 ho371) ?_
                      conv => whnf
                      refine pw_ck h (fun _ h => ?_)
                      conv => whnf
                      refine pw_br h (fun _ h => ?_) (fun _ h => ?_)
                      · conv => whnf
                        refine np_rd_i (hW568.ga ho370 ho371) ?_
                        conv => whnf
                        refine pw_ck h (fun _ h => ?_)
                        conv => whnf
                        refine pw_wr (a := u368) (i := u369) (d := upd (S566 u368 u369) (0 : Int32).toNatClampNeg ((S566 u368 u369 (0 : Int32).toNatClampNeg) + 0)) hW568 ho371 (pw_ent_arr ho370).symm h (fun S581 f582 hW583 h => ?_)
                        conv => whnf
                        obtain ⟨hb584, h⟩ := pw_ck1 h
                        conv => whnf
                        exact ⟨(by omega), (by omega), ⟨_, rfl, pw_nz hb584⟩, _, fun _ _ h9 => h9, pw_ps h _ hW583⟩
                      · conv => whnf
                        refine np_rd_i (hW568.ga ho370 ho371) ?_
                        conv => whnf
                        refine pw_ck h (fun _ h => ?_)
                        conv => whnf
                        refine pw_wr (a := u368) (i := u369) (d := upd (S566 u368 u369) (0 : Int32).toNatClampNeg ((S566 u368 u369 (0 : Int32).toNatClampNeg) + 1)) hW568 ho371 (pw_ent_arr ho370).symm h (fun S585 f586 hW587 h => ?_)
                        conv => whnf
                        obtain ⟨hb588, h⟩ := pw_ck1 h
                        conv => whnf
                        exact ⟨(by omega), (by omega), ⟨_, rfl, pw_nz hb588⟩, _, fun _ _ h9 => h9, pw_ps h _ hW587⟩
                  · conv => whnf
                    refine pw_br h (fun _ h => ?_) (fun _ h => ?_)
                    · conv => whnf
                      refine pw_st h (fun z589 h => ?_)
                      conv => whnf
                      refine np_rd_i (hW568.ga ho370 ho371) ?_
                      conv => whnf
                      refine pw_ck h (fun _ h => ?_)
                      conv => whnf
                      refine pw_br h (fun _ h => ?_) (fun _ h => ?_)
                      · conv => whnf
                        refine np_rd_i (hW568.ga ho370 ho371) ?_
                        conv => whnf
                        refine pw_ck h (fun _ h => ?_)
                        conv => whnf
                        refine pw_wr (a := u368) (i := u369) (d := upd (S566 u368 u369) (0 : Int32).toNatClampNeg ((S566 u368 u369 (0 : Int32).toNatClampNeg) + 0)) hW568 ho371 (pw_ent_arr ho370).symm h (fun S590 f591 hW592 h => ?_)
                        conv => whnf
                        obtain ⟨hb593, h⟩ := pw_ck1 h
                        conv => whnf
                        exact ⟨(by omega), (by omega), ⟨_, rfl, pw_nz hb593⟩, _, fun _ _ h9 => h9, pw_ps h _ hW592⟩
                      · conv => whnf
                        refine np_rd_i (hW568.ga ho370 ho371) ?_
                        conv => whnf
                        refine pw_ck h (fun _ h => ?_)
                        conv => whnf
                        refine pw_wr (a := u368) (i := u369) (d := upd (S566 u368 u369) (0 : Int32).toNatClampNeg ((S566 u368 u369 (0 : Int32).toNatClampNeg) + 1)) hW568 ho371 (pw_ent_arr ho370).symm h (fun S594 f595 hW596 h => ?_)
                        conv => whnf
                        obtain ⟨hb597, h⟩ := pw_ck1 h
                        conv => whnf
                        exact ⟨(by omega), (by omega), ⟨_, rfl, pw_nz hb597⟩, _, fun _ _ h9 => h9, pw_ps h _ hW596⟩
                    · conv => whnf
                      refine pw_st h (fun z598 h => ?_)
                      conv => whnf
                      refine np_rd_i (hW568.ga ho370 ho371) ?_
                      conv => whnf
                      refine pw_ck h (fun _ h => ?_)
                      conv => whnf
                      refine pw_br h (fun _ h => ?_) (fun _ h => ?_)
                      · conv => whnf
                        refine np_rd_i (hW568.ga ho370 ho371) ?_
                        conv => whnf
                        refine pw_ck h (fun _ h => ?_)
                        conv => whnf
                        refine pw_wr (a := u368) (i := u369) (d := upd (S566 u368 u369) (0 : Int32).toNatClampNeg ((S566 u368 u369 (0 : Int32).toNatClampNeg) + 0)) hW568 ho371 (pw_ent_arr ho370).symm h (fun S599 f600 hW601 h => ?_)
                        conv => whnf
                        obtain ⟨hb602, h⟩ := pw_ck1 h
                        conv => whnf
                        exact ⟨(by omega), (by omega), ⟨_, rfl, pw_nz hb602⟩, _, fun _ _ h9 => h9, pw_ps h _ hW601⟩
                      · conv => whnf
                        refine np_rd_i (hW568.ga ho370 ho371) ?_
                        conv => whnf
                        refine pw_ck h (fun _ h => ?_)
                        conv => whnf
                        refine pw_wr (a := u368) (i := u369) (d := upd (S566 u368 u369) (0 : Int32).toNatClampNeg ((S566 u368 u369 (0 : Int32).toNatClampNeg) + 1)) hW568 ho371 (pw_ent_arr ho370).symm h (fun S603 f604 hW605 h => ?_)
                        conv => whnf
                        obtain ⟨hb606, h⟩ := pw_ck1 h
                        conv => whnf
                        exact ⟨(by omega), (by omega), ⟨_, rfl, pw_nz hb606⟩, _, fun _ _ h9 => h9, pw_ps h _ hW605⟩
            · conv => whnf
              refine np_rd_i (hW379.ga ho370 ho371) ?_
              conv => whnf
              refine pw_ck h (fun _ h => ?_)
              conv => whnf
              refine pw_br h (fun _ h => ?_) (fun _ h => ?_)
              · conv => whnf
                refine pw_br h (fun _ h => ?_) (fun _ h => ?_)
                · conv => whnf
                  refine pw_st h (fun z607 h => ?_)
                  conv => whnf
                  refine np_rd_i (hW379.ga ho370 ho371) ?_
                  conv => whnf
                  refine pw_ck h (fun _ h => ?_)
                  conv => whnf
                  refine pw_br h (fun _ h => ?_) (fun _ h => ?_)
                  · conv => whnf
                    refine np_rd_i (hW379.ga ho370 ho371) ?_
                    conv => whnf
                    refine pw_ck h (fun _ h => ?_)
                    conv => whnf
                    refine pw_wr (a := u368) (i := u369) (d := upd (S377 u368 u369) (0 : Int32).toNatClampNeg ((S377 u368 u369 (0 : Int32).toNatClampNeg) + 0)) hW379 ho371 (pw_ent_arr ho370).symm h (fun S608 f609 hW610 h => ?_)
                    conv => whnf
                    obtain ⟨hb611, h⟩ := pw_ck1 h
                    conv => whnf
                    exact ⟨(by omega), (by omega), ⟨_, rfl, pw_nz hb611⟩, _, fun _ _ h9 => h9, pw_ps h _ hW610⟩
                  · conv => whnf
                    refine np_rd_i (hW379.ga ho370 ho371) ?_
                    conv => whnf
                    refine pw_ck h (fun _ h => ?_)
                    conv => whnf
                    refine pw_wr (a := u368) (i := u369) (d := upd (S377 u368 u369) (0 : Int32).toNatClampNeg ((S377 u368 u369 (0 : Int32).toNatClampNeg) + 1)) hW379 ho371 (pw_ent_arr ho370).symm h (fun S612 f613 hW614 h => ?_)
                    conv => whnf
                    obtain ⟨hb615, h⟩ := pw_ck1 h
                    conv => whnf
                    exact ⟨(by omega), (by omega), ⟨_, rfl, pw_nz hb615⟩, _, fun _ _ h9 => h9, pw_ps h _ hW614⟩
                · conv => whnf
                  refine pw_br h (fun _ h => ?_) (fun _ h => ?_)
                  · conv => whnf
                    refine pw_st h (fun z616 h => ?_)
                    conv => whnf
                    refine np_rd_i (hW379.ga ho370 ho371) ?_
                    conv => whnf
                    refine pw_ck h (fun _ h => ?_)
                    conv => whnf
                    refine pw_br h (fun _ h => ?_) (fun _ h => ?_)
                    · conv => whnf
                      refine np_rd_i (hW379.ga ho370 ho371) ?_
                      conv => whnf
                      refine pw_ck h (fun _ h => ?_)
                      conv => whnf
                      refine pw_wr (a := u368) (i := u369) (d := upd (S377 u368 u369) (0 : Int32).toNatClampNeg ((S377 u368 u369 (0 : Int32).toNatClampNeg) + 0)) hW379 ho371 (pw_ent_arr ho370).symm h (fun S617 f618 hW619 h => ?_)
                      conv => whnf
                      obtain ⟨hb620, h⟩ := pw_ck1 h
                      conv => whnf
                      exact ⟨(by omega), (by omega), ⟨_, rfl, pw_nz hb620⟩, _, fun _ _ h9 => h9, pw_ps h _ hW619⟩
                    · conv => whnf
                      refine np_rd_i (hW379.ga ho370 ho371) ?_
                      conv => whnf
                      refine pw_ck h (fun _ h => ?_)
                      conv => whnf
                      refine pw_wr (a := u368) (i := u369) (d := upd (S377 u368 u369) (0 : Int32).toNatClampNeg ((S377 u368 u369 (0 : Int32).toNatClampNeg) + 1)) hW379 ho371 (pw_ent_arr ho370).symm h (fun S621 f622 hW623 h => ?_)
                      conv => whnf
                      obtain ⟨hb624, h⟩ := pw_ck1 h
                      conv => whnf
                      exact ⟨(by omega), (by omega), ⟨_, rfl, pw_nz hb624⟩, _, fun _ _ h9 => h9, pw_ps h _ hW623⟩
                  · conv => whnf
                    refine pw_br h (fun _ h => ?_) (fun _ h => ?_)
                    · conv => whnf
                      refine pw_st h (fun z625 h => ?_)
                      conv => whnf
                      refine np_rd_i (hW379.ga ho370 ho371) ?_
                      conv => whnf
                      refine pw_ck h (fun _ h => ?_)
                      conv => whnf
                      refine pw_br h (fun _ h => ?_) (fun _ h => ?_)
                      · conv => whnf
                        refine np_rd_i (hW379.ga ho370 ho371) ?_
                        conv => whnf
                        refine pw_ck h (fun _ h => ?_)
                        conv => whnf
                        refine pw_wr (a := u368) (i := u369) (d := upd (S377 u368 u369) (0 : Int32).toNatClampNeg ((S377 u368 u369 (0 : Int32).toNatClampNeg) + 0)) hW379 ho371 (pw_ent_arr ho370).symm h (fun S626 f627 hW628 h => ?_)
                        conv => whnf
                        obtain ⟨hb629, h⟩ := pw_ck1 h
                        conv => whnf
                        exact ⟨(by omega), (by omega), ⟨_, rfl, pw_nz hb629⟩, _, fun _ _ h9 => h9, pw_ps h _ hW628⟩
                      · conv => whnf
                        refine np_rd_i (hW379.ga ho370 ho371) ?_
                        conv => whnf
                        refine pw_ck h (fun _ h => ?_)
                        conv => whnf
                        refine pw_wr (a := u368) (i := u369) (d := upd (S377 u368 u369) (0 : Int32).toNatClampNeg ((S377 u368 u369 (0 : Int32).toNatClampNeg) + 1)) hW379 ho371 (pw_ent_arr ho370).symm h (fun S630 f631 hW632 h => ?_)
                        conv => whnf
                        obtain ⟨hb633, h⟩ := pw_ck1 h
                        conv => whnf
                        exact ⟨(by omega), (by omega), ⟨_, rfl, pw_nz hb633⟩, _, fun _ _ h9 => h9, pw_ps h _ hW632⟩
                    · conv => whnf
                      refine np_rd_i (hW379.g ho367) ?_
                      conv => whnf
                      refine np_chk_i (pw_and rfl (pw_and rfl (pw_and rfl ((pw_and (pw_le (by omega)) (pw_le (by omega))))))) ?_
                      conv => whnf
                      refine ⟨q, S377, u366, rfl, ho367, hW379, pw_bd h (fun S634 r637 h f635 hW636 => ?_)⟩
                      conv => whnf
                      refine pw_br h (fun _ h => ?_) (fun _ h => ?_)
                      · conv => whnf
                        refine pw_br h (fun _ h => ?_) (fun _ h => ?_)
                        · conv => whnf
                          refine pw_st h (fun z639 h => ?_)
                          conv => whnf
                          refine np_rd_i (hW636.ga ho370 ho371) ?_
                          conv => whnf
                          refine pw_ck h (fun _ h => ?_)
                          conv => whnf
                          refine pw_br h (fun _ h => ?_) (fun _ h => ?_)
                          · conv => whnf
                            refine np_rd_i (hW636.ga ho370 ho371) ?_
                            conv => whnf
                            refine pw_ck h (fun _ h => ?_)
                            conv => whnf
                            refine pw_wr (a := u368) (i := u369) (d := upd (S634 u368 u369) (0 : Int32).toNatClampNeg ((S634 u368 u369 (0 : Int32).toNatClampNeg) + 0)) hW636 ho371 (pw_ent_arr ho370).symm h (fun S640 f641 hW642 h => ?_)
                            conv => whnf
                            obtain ⟨hb643, h⟩ := pw_ck1 h
                            conv => whnf
                            exact ⟨(by omega), (by omega), ⟨_, rfl, pw_nz hb643⟩, _, fun _ _ h9 => h9, pw_ps h _ hW642⟩
                          · conv => whnf
                            refine np_rd_i (hW636.ga ho370 ho371) ?_
                            conv => whnf
                            refine pw_ck h (fun _ h => ?_)
                            conv => whnf
                            refine pw_wr (a := u368) (i := u369) (d := upd (S634 u368 u369) (0 : Int32).toNatClampNeg ((S634 u368 u369 (0 : Int32).toNatClampNeg) + 1)) hW636 ho371 (pw_ent_arr ho370).symm h (fun S644 f645 hW646 h => ?_)
                            conv => whnf
                            obtain ⟨hb647, h⟩ := pw_ck1 h
                            conv => whnf
                            exact ⟨(by omega), (by omega), ⟨_, rfl, pw_nz hb647⟩, _, fun _ _ h9 => h9, pw_ps h _ hW646⟩
                        · conv => whnf
                          refine pw_st h (fun z648 h => ?_)
                          conv => whnf
                          refine np_rd_i (hW636.ga ho370 ho371) ?_
                          conv => whnf
                          refine pw_ck h (fun _ h => ?_)
                          conv => whnf
                          refine pw_br h (fun _ h => ?_) (fun _ h => ?_)
                          · conv => whnf
                            refine np_rd_i (hW636.ga ho370 ho371) ?_
                            conv => whnf
                            refine pw_ck h (fun _ h => ?_)
                            conv => whnf
                            refine pw_wr (a := u368) (i := u369) (d := upd (S634 u368 u369) (0 : Int32).toNatClampNeg ((S634 u368 u369 (0 : Int32).toNatClampNeg) + 0)) hW636 ho371 (pw_ent_arr ho370).symm h (fun S649 f650 hW651 h => ?_)
                            conv => whnf
                            obtain ⟨hb652, h⟩ := pw_ck1 h
                            conv => whnf
                            exact ⟨(by omega), (by omega), ⟨_, rfl, pw_nz hb652⟩, _, fun _ _ h9 => h9, pw_ps h _ hW651⟩
                          · conv => whnf
                            refine np_rd_i (hW636.ga ho370 ho371) ?_
                            conv => whnf
                            refine pw_ck h (fun _ h => ?_)
                            conv => whnf
                            refine pw_wr (a := u368) (i := u369) (d := upd (S634 u368 u369) (0 : Int32).toNatClampNeg ((S634 u368 u369 (0 : Int32).toNatClampNeg) + 1)) hW636 ho371 (pw_ent_arr ho370).symm h (fun S653 f654 hW655 h => ?_)
                            conv => whnf
                            obtain ⟨hb656, h⟩ := pw_ck1 h
                            conv => whnf
                            exact ⟨(by omega), (by omega), ⟨_, rfl, pw_nz hb656⟩, _, fun _ _ h9 => h9, pw_ps h _ hW655⟩
                      · conv => whnf
                        refine pw_br h (fun _ h => ?_) (fun _ h => ?_)
                        · conv => whnf
                          refine pw_st h (fun z657 h => ?_)
                          conv => whnf
                          refine np_rd_i (hW636.ga ho370 ho371) ?_
                          conv => whnf
                          refine pw_ck h (fun _ h => ?_)
                          conv => whnf
                          refine pw_br h (fun _ h => ?_) (fun _ h => ?_)
                          · conv => whnf
                            refine np_rd_i (hW636.ga ho370 ho371) ?_
                            conv => whnf
                            refine pw_ck h (fun _ h => ?_)
                            conv => whnf
                            refine pw_wr (a := u368) (i := u369) (d := upd (S634 u368 u369) (0 : Int32).toNatClampNeg ((S634 u368 u369 (0 : Int32).toNatClampNeg) + 0)) hW636 ho371 (pw_ent_arr ho370).symm h (fun S658 f659 hW660 h => ?_)
                            conv => whnf
                            obtain ⟨hb661, h⟩ := pw_ck1 h
                            conv => whnf
                            exact ⟨(by omega), (by omega), ⟨_, rfl, pw_nz hb661⟩, _, fun _ _ h9 => h9, pw_ps h _ hW660⟩
                          · conv => whnf
                            refine np_rd_i (hW636.ga ho370 ho371) ?_
                            conv => whnf
                            refine pw_ck h (fun _ h => ?_)
                            conv => whnf
                            refine pw_wr (a := u368) (i := u369) (d := upd (S634 u368 u369) (0 : Int32).toNatClampNeg ((S634 u368 u369 (0 : Int32).toNatClampNeg) + 1)) hW636 ho371 (pw_ent_arr ho370).symm h (fun S662 f663 hW664 h => ?_)
                            conv => whnf
                            obtain ⟨hb665, h⟩ := pw_ck1 h
                            conv => whnf
                            exact ⟨(by omega), (by omega), ⟨_, rfl, pw_nz hb665⟩, _, fun _ _ h9 => h9, pw_ps h _ hW664⟩
                        · conv => whnf
                          refine pw_st h (fun z666 h => ?_)
                          conv => whnf
                          refine np_rd_i (hW636.ga ho370 ho371) ?_
                          conv => whnf
                          refine pw_ck h (fun _ h => ?_)
                          conv => whnf
                          refine pw_br h (fun _ h => ?_) (fun _ h => ?_)
                          · conv => whnf
                            refine np_rd_i (hW636.ga ho370 ho371) ?_
                            conv => whnf
                            refine pw_ck h (fun _ h => ?_)
                            conv => whnf
                            refine pw_wr (a := u368) (i := u369) (d := upd (S634 u368 u369) (0 : Int32).toNatClampNeg ((S634 u368 u369 (0 : Int32).toNatClampNeg) + 0)) hW636 ho371 (pw_ent_arr ho370).symm h (fun S667 f668 hW669 h => ?_)
                            conv => whnf
                            obtain ⟨hb670, h⟩ := pw_ck1 h
                            conv => whnf
                            exact ⟨(by omega), (by omega), ⟨_, rfl, pw_nz hb670⟩, _, fun _ _ h9 => h9, pw_ps h _ hW669⟩
                          · conv => whnf
                            refine np_rd_i (hW636.ga ho370 ho371) ?_
                            conv => whnf
                            refine pw_ck h (fun _ h => ?_)
                            conv => whnf
                            refine pw_wr (a := u368) (i := u369) (d := upd (S634 u368 u369) (0 : Int32).toNatClampNeg ((S634 u368 u369 (0 : Int32).toNatClampNeg) + 1)) hW636 ho371 (pw_ent_arr ho370).symm h (fun S671 f672 hW673 h => ?_)
                            conv => whnf
                            obtain ⟨hb674, h⟩ := pw_ck1 h
                            conv => whnf
                            exact ⟨(by omega), (by omega), ⟨_, rfl, pw_nz hb674⟩, _, fun _ _ h9 => h9, pw_ps h _ hW673⟩
              · conv => whnf
                refine pw_st h (fun z675 h => ?_)
                conv => whnf
                refine np_rd_i (hW379.ga ho370 ho371) ?_
                conv => whnf
                refine pw_ck h (fun _ h => ?_)
                conv => whnf
                refine pw_br h (fun _ h => ?_) (fun _ h => ?_)
                · conv => whnf
                  refine np_rd_i (hW379.ga ho370 ho371) ?_
                  conv => whnf
                  refine pw_ck h (fun _ h => ?_)
                  conv => whnf
                  refine pw_wr (a := u368) (i := u369) (d := upd (S377 u368 u369) (0 : Int32).toNatClampNeg ((S377 u368 u369 (0 : Int32).toNatClampNeg) + 0)) hW379 ho371 (pw_ent_arr ho370).symm h (fun S676 f677 hW678 h => ?_)
                  conv => whnf
                  obtain ⟨hb679, h⟩ := pw_ck1 h
                  conv => whnf
                  exact ⟨(by omega), (by omega), ⟨_, rfl, pw_nz hb679⟩, _, fun _ _ h9 => h9, pw_ps h _ hW678⟩
                · conv => whnf
                  refine np_rd_i (hW379.ga ho370 ho371) ?_
                  conv => whnf
                  refine pw_ck h (fun _ h => ?_)
                  conv => whnf
                  refine pw_wr (a := u368) (i := u369) (d := upd (S377 u368 u369) (0 : Int32).toNatClampNeg ((S377 u368 u369 (0 : Int32).toNatClampNeg) + 1)) hW379 ho371 (pw_ent_arr ho370).symm h (fun S680 f681 hW682 h => ?_)
                  conv => whnf
                  obtain ⟨hb683, h⟩ := pw_ck1 h
                  conv => whnf
                  exact ⟨(by omega), (by omega), ⟨_, rfl, pw_nz hb683⟩, _, fun _ _ h9 => h9, pw_ps h _ hW682⟩
      · exact (pw_pn h).elim
theorem dL_constrains_0 : decode cL_constrains 0 = .ok (.aload_n 3, 1) := by decide +kernel
theorem dL_constrains_1 : decode cL_constrains 1 = .ok (.iconst 0, 1) := by decide +kernel
theorem dL_constrains_2 : decode cL_constrains 2 = .ok (.iaload, 1) := by decide +kernel
theorem dL_constrains_3 : decode cL_constrains 3 = .ok (.ifCond .ne 5, 3) := by decide +kernel
theorem dL_constrains_6 : decode cL_constrains 6 = .ok (.iconst 1, 1) := by decide +kernel
theorem dL_constrains_7 : decode cL_constrains 7 = .ok (.ireturn, 1) := by decide +kernel
theorem dL_constrains_8 : decode cL_constrains 8 = .ok (.iload_n 2, 1) := by decide +kernel
theorem dL_constrains_9 : decode cL_constrains 9 = .ok (.iconst 4, 1) := by decide +kernel
theorem dL_constrains_10 : decode cL_constrains 10 = .ok (.irem, 1) := by decide +kernel
theorem dL_constrains_11 : decode cL_constrains 11 = .ok (.istore 4, 2) := by decide +kernel
theorem dL_constrains_13 : decode cL_constrains 13 = .ok (.iload_n 1, 1) := by decide +kernel
theorem dL_constrains_14 : decode cL_constrains 14 = .ok (.iconst 4, 1) := by decide +kernel
theorem dL_constrains_15 : decode cL_constrains 15 = .ok (.idiv, 1) := by decide +kernel
theorem dL_constrains_16 : decode cL_constrains 16 = .ok (.bipush 6, 2) := by decide +kernel
theorem dL_constrains_18 : decode cL_constrains 18 = .ok (.irem, 1) := by decide +kernel
theorem dL_constrains_19 : decode cL_constrains 19 = .ok (.istore 5, 2) := by decide +kernel
theorem dL_constrains_21 : decode cL_constrains 21 = .ok (.iload 4, 2) := by decide +kernel
theorem dL_constrains_23 : decode cL_constrains 23 = .ok (.iconst 1, 1) := by decide +kernel
theorem dL_constrains_24 : decode cL_constrains 24 = .ok (.if_icmp .ne 12, 3) := by decide +kernel
theorem dL_constrains_27 : decode cL_constrains 27 = .ok (.iload_n 2, 1) := by decide +kernel
theorem dL_constrains_28 : decode cL_constrains 28 = .ok (.iconst 4, 1) := by decide +kernel
theorem dL_constrains_29 : decode cL_constrains 29 = .ok (.idiv, 1) := by decide +kernel
theorem dL_constrains_30 : decode cL_constrains 30 = .ok (.bipush 10, 2) := by decide +kernel
theorem dL_constrains_32 : decode cL_constrains 32 = .ok (.irem, 1) := by decide +kernel
theorem dL_constrains_33 : decode cL_constrains 33 = .ok (.goto 25, 3) := by decide +kernel
theorem dL_constrains_36 : decode cL_constrains 36 = .ok (.iload 4, 2) := by decide +kernel
theorem dL_constrains_38 : decode cL_constrains 38 = .ok (.iconst 3, 1) := by decide +kernel
theorem dL_constrains_39 : decode cL_constrains 39 = .ok (.if_icmp .ne 13, 3) := by decide +kernel
theorem dL_constrains_42 : decode cL_constrains 42 = .ok (.iconst 1, 1) := by decide +kernel
theorem dL_constrains_43 : decode cL_constrains 43 = .ok (.iload_n 2, 1) := by decide +kernel
theorem dL_constrains_44 : decode cL_constrains 44 = .ok (.iconst 4, 1) := by decide +kernel
theorem dL_constrains_45 : decode cL_constrains 45 = .ok (.idiv, 1) := by decide +kernel
theorem dL_constrains_46 : decode cL_constrains 46 = .ok (.iconst 4, 1) := by decide +kernel
theorem dL_constrains_47 : decode cL_constrains 47 = .ok (.irem, 1) := by decide +kernel
theorem dL_constrains_48 : decode cL_constrains 48 = .ok (.iadd, 1) := by decide +kernel
theorem dL_constrains_49 : decode cL_constrains 49 = .ok (.goto 9, 3) := by decide +kernel
theorem dL_constrains_52 : decode cL_constrains 52 = .ok (.iload_n 2, 1) := by decide +kernel
theorem dL_constrains_53 : decode cL_constrains 53 = .ok (.iconst 4, 1) := by decide +kernel
theorem dL_constrains_54 : decode cL_constrains 54 = .ok (.idiv, 1) := by decide +kernel
theorem dL_constrains_55 : decode cL_constrains 55 = .ok (.bipush 6, 2) := by decide +kernel
theorem dL_constrains_57 : decode cL_constrains 57 = .ok (.irem, 1) := by decide +kernel
theorem dL_constrains_58 : decode cL_constrains 58 = .ok (.istore 6, 2) := by decide +kernel
theorem dL_constrains_60 : decode cL_constrains 60 = .ok (.aload_n 0, 1) := by decide +kernel
theorem dL_constrains_61 : decode cL_constrains 61 = .ok (.iload_n 1, 1) := by decide +kernel
theorem dL_constrains_62 : decode cL_constrains 62 = .ok (.aload_n 3, 1) := by decide +kernel
theorem dL_constrains_63 : decode cL_constrains 63 = .ok (.iconst 0, 1) := by decide +kernel
theorem dL_constrains_64 : decode cL_constrains 64 = .ok (.iaload, 1) := by decide +kernel
theorem dL_constrains_65 : decode cL_constrains 65 = .ok (.irem, 1) := by decide +kernel
theorem dL_constrains_66 : decode cL_constrains 66 = .ok (.iload 4, 2) := by decide +kernel
theorem dL_constrains_68 : decode cL_constrains 68 = .ok (.iload 5, 2) := by decide +kernel
theorem dL_constrains_70 : decode cL_constrains 70 = .ok (.iload 6, 2) := by decide +kernel
theorem dL_constrains_72 : decode cL_constrains 72 = .ok (.iload 4, 2) := by decide +kernel
theorem dL_constrains_74 : decode cL_constrains 74 = .ok (.iconst 2, 1) := by decide +kernel
theorem dL_constrains_75 : decode cL_constrains 75 = .ok (.if_icmp .ne 13, 3) := by decide +kernel
theorem dL_constrains_78 : decode cL_constrains 78 = .ok (.iload_n 2, 1) := by decide +kernel
theorem dL_constrains_79 : decode cL_constrains 79 = .ok (.bipush 40, 2) := by decide +kernel
theorem dL_constrains_81 : decode cL_constrains 81 = .ok (.idiv, 1) := by decide +kernel
theorem dL_constrains_82 : decode cL_constrains 82 = .ok (.bipush 6, 2) := by decide +kernel
theorem dL_constrains_84 : decode cL_constrains 84 = .ok (.irem, 1) := by decide +kernel
theorem dL_constrains_85 : decode cL_constrains 85 = .ok (.goto 4, 3) := by decide +kernel
theorem dL_constrains_88 : decode cL_constrains 88 = .ok (.iconst 0, 1) := by decide +kernel
theorem dL_constrains_89 : decode cL_constrains 89 = .ok (.iconst 1, 1) := by decide +kernel
theorem dL_constrains_90 : decode cL_constrains 90 = .ok (.iload_n 1, 1) := by decide +kernel
theorem dL_constrains_91 : decode cL_constrains 91 = .ok (.bipush 24, 2) := by decide +kernel
theorem dL_constrains_93 : decode cL_constrains 93 = .ok (.idiv, 1) := by decide +kernel
theorem dL_constrains_94 : decode cL_constrains 94 = .ok (.bipush 99, 2) := by decide +kernel
theorem dL_constrains_96 : decode cL_constrains 96 = .ok (.irem, 1) := by decide +kernel
theorem dL_constrains_97 : decode cL_constrains 97 = .ok (.iadd, 1) := by decide +kernel
theorem dL_constrains_98 : decode cL_constrains 98 = .ok (.invokestatic 71, 3) := by decide +kernel
theorem dL_constrains_101 : decode cL_constrains 101 = .ok (.istore 7, 2) := by decide +kernel
theorem dL_constrains_103 : decode cL_constrains 103 = .ok (.iload 7, 2) := by decide +kernel
theorem dL_constrains_105 : decode cL_constrains 105 = .ok (.ifCond .le 10, 3) := by decide +kernel
theorem dL_constrains_108 : decode cL_constrains 108 = .ok (.iload 7, 2) := by decide +kernel
theorem dL_constrains_110 : decode cL_constrains 110 = .ok (.bipush 9, 2) := by decide +kernel
theorem dL_constrains_112 : decode cL_constrains 112 = .ok (.if_icmp .lt 17, 3) := by decide +kernel
theorem dL_constrains_115 : decode cL_constrains 115 = .ok (.iload 7, 2) := by decide +kernel
theorem dL_constrains_117 : decode cL_constrains 117 = .ok (.ldc 42, 2) := by decide +kernel
theorem dL_constrains_119 : decode cL_constrains 119 = .ok (.if_icmp .eq 10, 3) := by decide +kernel
theorem dL_constrains_122 : decode cL_constrains 122 = .ok (.iload 7, 2) := by decide +kernel
theorem dL_constrains_124 : decode cL_constrains 124 = .ok (.ldc 48, 2) := by decide +kernel
theorem dL_constrains_126 : decode cL_constrains 126 = .ok (.if_icmp .ne 7, 3) := by decide +kernel
theorem dL_constrains_129 : decode cL_constrains 129 = .ok (.iconst 1, 1) := by decide +kernel
theorem dL_constrains_130 : decode cL_constrains 130 = .ok (.goto 4, 3) := by decide +kernel
theorem dL_constrains_133 : decode cL_constrains 133 = .ok (.iconst 0, 1) := by decide +kernel
theorem dL_constrains_134 : decode cL_constrains 134 = .ok (.ireturn, 1) := by decide +kernel
def is_L_constrains (Rt : np_Rt) : List (Nat × np_Op) := [(0, np_ald 1 3), (1, np_push 1 (.int 0)), (2, nw_ialdT .int), (3, nq_ifne 8), (6, np_push 1 (.int 1)), (7, np_ret Rt), (8, np_ild 1 2), (9, np_push 1 (.int 4)), (10, nq_ibn (fun x y => x - x / y * y)), (11, nw_ist 2 4), (13, np_ild 1 1), (14, np_push 1 (.int 4)), (15, nq_ibn (fun x y => x / y)), (16, np_push 2 (.int 6)), (18, nq_ibn (fun x y => x - x / y * y)), (19, nw_ist 2 5), (21, np_ild 2 4), (23, np_push 1 (.int 1)), (24, nq_icne 36), (27, np_ild 1 2), (28, np_push 1 (.int 4)), (29, nq_ibn (fun x y => x / y)), (30, np_push 2 (.int 10)), (32, nq_ibn (fun x y => x - x / y * y)), (33, np_goto 58), (36, np_ild 2 4), (38, np_push 1 (.int 3)), (39, nq_icne 52), (42, np_push 1 (.int 1)), (43, np_ild 1 2), (44, np_push 1 (.int 4)), (45, nq_ibn (fun x y => x / y)), (46, np_push 1 (.int 4)), (47, nq_ibn (fun x y => x - x / y * y)), (48, np_ib (fun x y => x + y)), (49, np_goto 58), (52, np_ild 1 2), (53, np_push 1 (.int 4)), (54, nq_ibn (fun x y => x / y)), (55, np_push 2 (.int 6)), (57, nq_ibn (fun x y => x - x / y * y)), (58, nw_ist 2 6), (60, np_ald 1 0), (61, np_ild 1 1), (62, np_ald 1 3), (63, np_push 1 (.int 0)), (64, nw_ialdT .int), (65, nq_ibn (fun x y => x - x / y * y)), (66, np_ild 2 4), (68, np_ild 2 5), (70, np_ild 2 6), (72, np_ild 2 4), (74, np_push 1 (.int 2)), (75, nq_icne 88), (78, np_ild 1 2), (79, np_push 2 (.int 40)), (81, nq_ibn (fun x y => x / y)), (82, np_push 2 (.int 6)), (84, nq_ibn (fun x y => x - x / y * y)), (85, np_goto 89), (88, np_push 1 (.int 0)), (89, np_push 1 (.int 1)), (90, np_ild 1 1), (91, np_push 2 (.int 24)), (93, nq_ibn (fun x y => x / y)), (94, np_push 2 (.int 99)), (96, nq_ibn (fun x y => x - x / y * y)), (97, np_ib (fun x y => x + y)), (98, nq_call 7 sp_L_rules 8 1 6 1 6), (101, nw_ist 2 7), (103, np_ild 2 7), (105, nq_if (fun x => x ≤ 0) 115), (108, np_ild 2 7), (110, np_push 2 (.int 9)), (112, nq_ic (fun x y => x < y) 129), (115, np_ild 2 7), (117, np_push 2 (.int (-70008))), (119, nq_ic (fun x y => x = y) 129), (122, np_ild 2 7), (124, np_push 2 (.int (-70009))), (126, nq_icne 133), (129, np_push 1 (.int 1)), (130, np_goto 134), (133, np_push 1 (.int 0)), (134, np_ret Rt)]
set_option maxRecDepth 20000 in
theorem so_L_constrains {X : np_Ctx} {Rt : np_Rt} (hX : np_ok RL cL_constrains 8 8 188 1 6 .ireturn X) (hR : ∀ st w ce sl, Rt st w ce sl → X.2.2.1 st w ce sl) : ∀ q ∈ is_L_constrains Rt, np_S X q.1 q.2 :=
  List.forall_mem_cons.mpr ⟨np_s_aload_n hX dL_constrains_0 rfl, List.forall_mem_cons.mpr ⟨np_s_iconst hX dL_constrains_1 (by decide), List.forall_mem_cons.mpr ⟨np_S.mono (op := np_ialdT .int) (np_s_iald hX dL_constrains_2) nw_ialdT_le, List.forall_mem_cons.mpr ⟨np_S.mono (op := np_ifne 8) (np_s_if_ne hX dL_constrains_3 (by decide)) nq_ifne_le, List.forall_mem_cons.mpr ⟨np_s_iconst hX dL_constrains_6 (by decide), List.forall_mem_cons.mpr ⟨np_S.mono (op := np_ret X.2.2.1) (np_s_ret hX dL_constrains_7) (nq_ret_le hR), List.forall_mem_cons.mpr ⟨np_s_iload_n hX dL_constrains_8 rfl, List.forall_mem_cons.mpr ⟨np_s_iconst hX dL_constrains_9 (by decide), List.forall_mem_cons.mpr ⟨np_S.mono (op := np_ibn (fun x y => x - x / y * y)) (np_s_irem hX dL_constrains_10) nq_ibn_le, List.forall_mem_cons.mpr ⟨np_S.mono (op := np_ist 2 4) (np_s_istore hX dL_constrains_11 (by decide)) nw_ist_le, List.forall_mem_cons.mpr ⟨np_s_iload_n hX dL_constrains_13 rfl, List.forall_mem_cons.mpr ⟨np_s_iconst hX dL_constrains_14 (by decide), List.forall_mem_cons.mpr ⟨np_S.mono (op := np_ibn (fun x y => x / y)) (np_s_idiv hX dL_constrains_15) nq_ibn_le, List.forall_mem_cons.mpr ⟨np_s_bipush hX dL_constrains_16 (by decide), List.forall_mem_cons.mpr ⟨np_S.mono (op := np_ibn (fun x y => x - x / y * y)) (np_s_irem hX dL_constrains_18) nq_ibn_le, List.forall_mem_cons.mpr ⟨np_S.mono (op := np_ist 2 5) (np_s_istore hX dL_constrains_19 (by decide)) nw_ist_le, List.forall_mem_cons.mpr ⟨np_s_iload hX dL_constrains_21, List.forall_mem_cons.mpr ⟨np_s_iconst hX dL_constrains_23 (by decide), List.forall_mem_cons.mpr ⟨np_S.mono (op := np_icne 36) (np_s_icmp_ne hX dL_constrains_24 (by decide)) nq_icne_le, List.forall_mem_cons.mpr ⟨np_s_iload_n hX dL_constrains_27 rfl, List.forall_mem_cons.mpr ⟨np_s_iconst hX dL_constrains_28 (by decide), List.forall_mem_cons.mpr ⟨np_S.mono (op := np_ibn (fun x y => x / y)) (np_s_idiv hX dL_constrains_29) nq_ibn_le, List.forall_mem_cons.mpr ⟨np_s_bipush hX dL_constrains_30 (by decide), List.forall_mem_cons.mpr ⟨np_S.mono (op := np_ibn (fun x y => x - x / y * y)) (np_s_irem hX dL_constrains_32) nq_ibn_le, List.forall_mem_cons.mpr ⟨np_s_goto hX dL_constrains_33 (by decide), List.forall_mem_cons.mpr ⟨np_s_iload hX dL_constrains_36, List.forall_mem_cons.mpr ⟨np_s_iconst hX dL_constrains_38 (by decide), List.forall_mem_cons.mpr ⟨np_S.mono (op := np_icne 52) (np_s_icmp_ne hX dL_constrains_39 (by decide)) nq_icne_le, List.forall_mem_cons.mpr ⟨np_s_iconst hX dL_constrains_42 (by decide), List.forall_mem_cons.mpr ⟨np_s_iload_n hX dL_constrains_43 rfl, List.forall_mem_cons.mpr ⟨np_s_iconst hX dL_constrains_44 (by decide), List.forall_mem_cons.mpr ⟨np_S.mono (op := np_ibn (fun x y => x / y)) (np_s_idiv hX dL_constrains_45) nq_ibn_le, List.forall_mem_cons.mpr ⟨np_s_iconst hX dL_constrains_46 (by decide), List.forall_mem_cons.mpr ⟨np_S.mono (op := np_ibn (fun x y => x - x / y * y)) (np_s_irem hX dL_constrains_47) nq_ibn_le, List.forall_mem_cons.mpr ⟨np_s_iadd hX dL_constrains_48, List.forall_mem_cons.mpr ⟨np_s_goto hX dL_constrains_49 (by decide), List.forall_mem_cons.mpr ⟨np_s_iload_n hX dL_constrains_52 rfl, List.forall_mem_cons.mpr ⟨np_s_iconst hX dL_constrains_53 (by decide), List.forall_mem_cons.mpr ⟨np_S.mono (op := np_ibn (fun x y => x / y)) (np_s_idiv hX dL_constrains_54) nq_ibn_le, List.forall_mem_cons.mpr ⟨np_s_bipush hX dL_constrains_55 (by decide), List.forall_mem_cons.mpr ⟨np_S.mono (op := np_ibn (fun x y => x - x / y * y)) (np_s_irem hX dL_constrains_57) nq_ibn_le, List.forall_mem_cons.mpr ⟨np_S.mono (op := np_ist 2 6) (np_s_istore hX dL_constrains_58 (by decide)) nw_ist_le, List.forall_mem_cons.mpr ⟨np_s_aload_n hX dL_constrains_60 rfl, List.forall_mem_cons.mpr ⟨np_s_iload_n hX dL_constrains_61 rfl, List.forall_mem_cons.mpr ⟨np_s_aload_n hX dL_constrains_62 rfl, List.forall_mem_cons.mpr ⟨np_s_iconst hX dL_constrains_63 (by decide), List.forall_mem_cons.mpr ⟨np_S.mono (op := np_ialdT .int) (np_s_iald hX dL_constrains_64) nw_ialdT_le, List.forall_mem_cons.mpr ⟨np_S.mono (op := np_ibn (fun x y => x - x / y * y)) (np_s_irem hX dL_constrains_65) nq_ibn_le, List.forall_mem_cons.mpr ⟨np_s_iload hX dL_constrains_66, List.forall_mem_cons.mpr ⟨np_s_iload hX dL_constrains_68, List.forall_mem_cons.mpr ⟨np_s_iload hX dL_constrains_70, List.forall_mem_cons.mpr ⟨np_s_iload hX dL_constrains_72, List.forall_mem_cons.mpr ⟨np_s_iconst hX dL_constrains_74 (by decide), List.forall_mem_cons.mpr ⟨np_S.mono (op := np_icne 88) (np_s_icmp_ne hX dL_constrains_75 (by decide)) nq_icne_le, List.forall_mem_cons.mpr ⟨np_s_iload_n hX dL_constrains_78 rfl, List.forall_mem_cons.mpr ⟨np_s_bipush hX dL_constrains_79 (by decide), List.forall_mem_cons.mpr ⟨np_S.mono (op := np_ibn (fun x y => x / y)) (np_s_idiv hX dL_constrains_81) nq_ibn_le, List.forall_mem_cons.mpr ⟨np_s_bipush hX dL_constrains_82 (by decide), List.forall_mem_cons.mpr ⟨np_S.mono (op := np_ibn (fun x y => x - x / y * y)) (np_s_irem hX dL_constrains_84) nq_ibn_le, List.forall_mem_cons.mpr ⟨np_s_goto hX dL_constrains_85 (by decide), List.forall_mem_cons.mpr ⟨np_s_iconst hX dL_constrains_88 (by decide), List.forall_mem_cons.mpr ⟨np_s_iconst hX dL_constrains_89 (by decide), List.forall_mem_cons.mpr ⟨np_s_iload_n hX dL_constrains_90 rfl, List.forall_mem_cons.mpr ⟨np_s_bipush hX dL_constrains_91 (by decide), List.forall_mem_cons.mpr ⟨np_S.mono (op := np_ibn (fun x y => x / y)) (np_s_idiv hX dL_constrains_93) nq_ibn_le, List.forall_mem_cons.mpr ⟨np_s_bipush hX dL_constrains_94 (by decide), List.forall_mem_cons.mpr ⟨np_S.mono (op := np_ibn (fun x y => x - x / y * y)) (np_s_irem hX dL_constrains_96) nq_ibn_le, List.forall_mem_cons.mpr ⟨np_s_iadd hX dL_constrains_97, List.forall_mem_cons.mpr ⟨np_S.mono (op := np_call 7 sp_L_rules 8 1 6 1 6) (np_s_callSW hX C_L_rules dL_constrains_98 gw1209 gw62 gw1207 gw1208 ⟨by decide, by decide, by decide⟩ (by decide) (by decide)) nq_call_le, List.forall_mem_cons.mpr ⟨np_S.mono (op := np_ist 2 7) (np_s_istore hX dL_constrains_101 (by decide)) nw_ist_le, List.forall_mem_cons.mpr ⟨np_s_iload hX dL_constrains_103, List.forall_mem_cons.mpr ⟨np_S.mono (op := np_if (fun x => x ≤ 0) 115) (np_s_if_le hX dL_constrains_105 (by decide)) nq_if_le, List.forall_mem_cons.mpr ⟨np_s_iload hX dL_constrains_108, List.forall_mem_cons.mpr ⟨np_s_bipush hX dL_constrains_110 (by decide), List.forall_mem_cons.mpr ⟨np_S.mono (op := np_ic (fun x y => x < y) 129) (np_s_icmp_lt hX dL_constrains_112 (by decide)) nq_ic_le, List.forall_mem_cons.mpr ⟨np_s_iload hX dL_constrains_115, List.forall_mem_cons.mpr ⟨np_s_ldc hX dL_constrains_117 gw1185, List.forall_mem_cons.mpr ⟨np_S.mono (op := np_ic (fun x y => x = y) 129) (np_s_icmp_eq hX dL_constrains_119 (by decide)) nq_ic_le, List.forall_mem_cons.mpr ⟨np_s_iload hX dL_constrains_122, List.forall_mem_cons.mpr ⟨np_s_ldc hX dL_constrains_124 gw633, List.forall_mem_cons.mpr ⟨np_S.mono (op := np_icne 133) (np_s_icmp_ne hX dL_constrains_126 (by decide)) nq_icne_le, List.forall_mem_cons.mpr ⟨np_s_iconst hX dL_constrains_129 (by decide), List.forall_mem_cons.mpr ⟨np_s_goto hX dL_constrains_130 (by decide), List.forall_mem_cons.mpr ⟨np_s_iconst hX dL_constrains_133 (by decide), List.forall_mem_cons.mpr ⟨np_S.mono (op := np_ret X.2.2.1) (np_s_ret hX dL_constrains_134) (nq_ret_le hR), fun _ h => nomatch h⟩⟩⟩⟩⟩⟩⟩⟩⟩⟩⟩⟩⟩⟩⟩⟩⟩⟩⟩⟩⟩⟩⟩⟩⟩⟩⟩⟩⟩⟩⟩⟩⟩⟩⟩⟩⟩⟩⟩⟩⟩⟩⟩⟩⟩⟩⟩⟩⟩⟩⟩⟩⟩⟩⟩⟩⟩⟩⟩⟩⟩⟩⟩⟩⟩⟩⟩⟩⟩⟩⟩⟩⟩⟩⟩⟩⟩⟩⟩⟩⟩⟩⟩⟩⟩
noncomputable def m_L_constrains (S : pw_S) (i0 : Nat) (x1 : Int32) (x2 : Int32) (a3 : Nat) (i3 : Nat) : pw_R Int32 :=
 pw_c (np_inb 0 (pw_len a3)) <|
 if (S a3 i3 (0 : Int32).toNatClampNeg) = 0 then
 (some (S, 1))
 else
 (pw_l ((x2 - x2 / 4 * 4) : Int32) fun z1 =>
 pw_l (((x1 / 4) - (x1 / 4) / 6 * 6) : Int32) fun z2 =>
 if z1 = 1 then
 (pw_l (((x2 / 4) - (x2 / 4) / 10 * 10) : Int32) fun z3 =>
 pw_c (np_inb 0 (pw_len a3)) <|
 pw_c (!decide ((S a3 i3 (0 : Int32).toNatClampNeg) = 0)) <|
 if z1 = 2 then
 (pw_b (m_L_rules S i0 (x1 - x1 / (S a3 i3 (0 : Int32).toNatClampNeg) * (S a3 i3 (0 : Int32).toNatClampNeg)) z1 z2 z3 ((x2 / 40) - (x2 / 40) / 6 * 6) (1 + ((x1 / 24) - (x1 / 24) / 99 * 99))) fun S4 r7 =>
 pw_l (r7 : Int32) fun z9 =>
 if z9 ≤ 0 then
 (if z9 = (-70008) then
 (some (S4, 1))
 else
 (if z9 = (-70009) then
 (some (S4, 1))
 else
 (some (S4, 0))))
 else
 (if z9 < 9 then
 (some (S4, 1))
 else
 (if z9 = (-70008) then
 (some (S4, 1))
 else
 (if z9 = (-70009) then
 (some (S4, 1))
 else
 (some (S4, 0))))))
 else
 (pw_b (m_L_rules S i0 (x1 - x1 / (S a3 i3 (0 : Int32).toNatClampNeg) * (S a3 i3 (0 : Int32).toNatClampNeg)) z1 z2 z3 0 (1 + ((x1 / 24) - (x1 / 24) / 99 * 99))) fun S10 r13 =>
 pw_l (r13 : Int32) fun z15 =>
 if z15 ≤ 0 then
 (if z15 = (-70008) then
 (some (S10, 1))
 else
 (if z15 = (-70009) then
 (some (S10, 1))
 else
 (some (S10, 0))))
 else
 (if z15 < 9 then
 (some (S10, 1))
 else
 (if z15 = (-70008) then
 (some (S10, 1))
 else
 (if z15 = (-70009) then
 (some (S10, 1))
 else
 (some (S10, 0)))))))
 else
 (if z1 = 3 then
 (pw_l ((1 + ((x2 / 4) - (x2 / 4) / 4 * 4)) : Int32) fun z16 =>
 pw_c (np_inb 0 (pw_len a3)) <|
 pw_c (!decide ((S a3 i3 (0 : Int32).toNatClampNeg) = 0)) <|
 if z1 = 2 then
 (pw_b (m_L_rules S i0 (x1 - x1 / (S a3 i3 (0 : Int32).toNatClampNeg) * (S a3 i3 (0 : Int32).toNatClampNeg)) z1 z2 z16 ((x2 / 40) - (x2 / 40) / 6 * 6) (1 + ((x1 / 24) - (x1 / 24) / 99 * 99))) fun S17 r20 =>
 pw_l (r20 : Int32) fun z22 =>
 if z22 ≤ 0 then
 (if z22 = (-70008) then
 (some (S17, 1))
 else
 (if z22 = (-70009) then
 (some (S17, 1))
 else
 (some (S17, 0))))
 else
 (if z22 < 9 then
 (some (S17, 1))
 else
 (if z22 = (-70008) then
 (some (S17, 1))
 else
 (if z22 = (-70009) then
 (some (S17, 1))
 else
 (some (S17, 0))))))
 else
 (pw_b (m_L_rules S i0 (x1 - x1 / (S a3 i3 (0 : Int32).toNatClampNeg) * (S a3 i3 (0 : Int32).toNatClampNeg)) z1 z2 z16 0 (1 + ((x1 / 24) - (x1 / 24) / 99 * 99))) fun S23 r26 =>
 pw_l (r26 : Int32) fun z28 =>
 if z28 ≤ 0 then
 (if z28 = (-70008) then
 (some (S23, 1))
 else
 (if z28 = (-70009) then
 (some (S23, 1))
 else
 (some (S23, 0))))
 else
 (if z28 < 9 then
 (some (S23, 1))
 else
 (if z28 = (-70008) then
 (some (S23, 1))
 else
 (if z28 = (-70009) then
 (some (S23, 1))
 else
 (some (S23, 0)))))))
 else
 (pw_l (((x2 / 4) - (x2 / 4) / 6 * 6) : Int32) fun z29 =>
 pw_c (np_inb 0 (pw_len a3)) <|
 pw_c (!decide ((S a3 i3 (0 : Int32).toNatClampNeg) = 0)) <|
 if z1 = 2 then
 (pw_b (m_L_rules S i0 (x1 - x1 / (S a3 i3 (0 : Int32).toNatClampNeg) * (S a3 i3 (0 : Int32).toNatClampNeg)) z1 z2 z29 ((x2 / 40) - (x2 / 40) / 6 * 6) (1 + ((x1 / 24) - (x1 / 24) / 99 * 99))) fun S30 r33 =>
 pw_l (r33 : Int32) fun z35 =>
 if z35 ≤ 0 then
 (if z35 = (-70008) then
 (some (S30, 1))
 else
 (if z35 = (-70009) then
 (some (S30, 1))
 else
 (some (S30, 0))))
 else
 (if z35 < 9 then
 (some (S30, 1))
 else
 (if z35 = (-70008) then
 (some (S30, 1))
 else
 (if z35 = (-70009) then
 (some (S30, 1))
 else
 (some (S30, 0))))))
 else
 (pw_b (m_L_rules S i0 (x1 - x1 / (S a3 i3 (0 : Int32).toNatClampNeg) * (S a3 i3 (0 : Int32).toNatClampNeg)) z1 z2 z29 0 (1 + ((x1 / 24) - (x1 / 24) / 99 * 99))) fun S36 r39 =>
 pw_l (r39 : Int32) fun z41 =>
 if z41 ≤ 0 then
 (if z41 = (-70008) then
 (some (S36, 1))
 else
 (if z41 = (-70009) then
 (some (S36, 1))
 else
 (some (S36, 0))))
 else
 (if z41 < 9 then
 (some (S36, 1))
 else
 (if z41 = (-70008) then
 (some (S36, 1))
 else
 (if z41 = (-70009) then
 (some (S36, 1))
 else
 (some (S36, 0)))))))))
def sp_L_constrains : np_Sp := fun vs w Q => ∃ (q : Nat) (S : pw_S) (i0 : Nat) (x1 : Int32) (x2 : Int32) (a3 : Nat) (i3 : Nat), vs = [.ref (pw_pl 61 i0), .int x1, .int x2, .ref (pw_pl a3 i3)] ∧ pw_ok q 61 i0 = true ∧ pw_arr a3 = true ∧ pw_ok q a3 i3 = true ∧ pw_W q w S ∧ pw_p (m_L_constrains S i0 x1 x2 a3 i3) (fun S' r => ∀ f', pw_W q (w.1, f') S' → Q (some (.int r)) (w.1, f'))
set_option maxRecDepth 100000 in
set_option maxHeartbeats 8000000 in
theorem C_L_constrains : np_C yL_constrains cL_constrains 8 (some .boolean) 8 188 1 6 (sp_L_constrains) := by
  refine np_of (by decide) ?_
  intro X vs w Q hsp hX hmn hRt hlt
  obtain ⟨q, S, i0, x1, x2, a3, i3, rfl, hi0, ha3, hi3, hW, h⟩ := hsp
  obtain ⟨n, f⟩ := w
  unfold m_L_constrains at h
  have hR : ∀ st w ce sl, np_rt (some .boolean) 1 6 Q st w ce sl → X.2.2.1 st w ce sl := fun _ _ _ _ h => by rw [hRt]; exact h
  refine np_soundW (so_L_constrains hX hR) [] 400 0 _ _ _ _ _ ?_
  conv => whnf
  refine np_rd_i (hW.ga ha3 hi3) ?_
  conv => whnf
  refine pw_ck h (fun _ h => ?_)
  conv => whnf
  refine pw_br h (fun _ h => ?_) (fun _ h => ?_)
  · conv => whnf
    exact ⟨Nat.le_of_ble_eq_true rfl, Nat.le_of_ble_eq_true rfl, ⟨_, rfl, by decide⟩, _, fun _ _ h9 => h9, pw_ps h _ hW⟩
  · conv => whnf
    refine pw_st h (fun z1 h => ?_)
    conv => whnf
    refine pw_st h (fun z2 h => ?_)
    conv => whnf
    refine pw_br h (fun _ h => ?_) (fun _ h => ?_)
    · conv => whnf
      refine pw_st h (fun z3 h => ?_)
      conv => whnf
      refine np_rd_i (hW.ga ha3 hi3) ?_
      conv => whnf
      refine pw_ck h (fun _ h => ?_)
      conv => whnf
      refine pw_ck h (fun _ h => ?_)
      conv => whnf
      refine pw_br h (fun _ h => ?_) (fun _ h => ?_)
      · conv => whnf
        refine ⟨q, S, i0, (x1 - x1 / (S a3 i3 (0 : Int32).toNatClampNeg) * (S a3 i3 (0 : Int32).toNatClampNeg)), z1, z2, z3, ((x2 / 40) - (x2 / 40) / 6 * 6), (1 + ((x1 / 24) - (x1 / 24) / 99 * 99)), rfl, hi0, hW, pw_bd h (fun S4 r7 h f5 hW6 => ?_)⟩
        conv => whnf
        refine pw_st h (fun z9 h => ?_)
        conv => whnf
        refine pw_br h (fun _ h => ?_) (fun _ h => ?_)
        · conv => whnf
          refine pw_br h (fun _ h => ?_) (fun _ h => ?_)
          · conv => whnf
            exact ⟨Nat.le_of_ble_eq_true rfl, Nat.le_of_ble_eq_true rfl, ⟨_, rfl, by decide⟩, _, fun _ _ h9 => h9, pw_ps h _ hW6⟩
          · conv => whnf
            refine pw_br h (fun _ h => ?_) (fun _ h => ?_)
            · conv => whnf
              exact ⟨Nat.le_of_ble_eq_true rfl, Nat.le_of_ble_eq_true rfl, ⟨_, rfl, by decide⟩, _, fun _ _ h9 => h9, pw_ps h _ hW6⟩
            · conv => whnf
              exact ⟨Nat.le_of_ble_eq_true rfl, Nat.le_of_ble_eq_true rfl, ⟨_, rfl, by decide⟩, _, fun _ _ h9 => h9, pw_ps h _ hW6⟩
        · conv => whnf
          refine pw_br h (fun _ h => ?_) (fun _ h => ?_)
          · conv => whnf
            exact ⟨Nat.le_of_ble_eq_true rfl, Nat.le_of_ble_eq_true rfl, ⟨_, rfl, by decide⟩, _, fun _ _ h9 => h9, pw_ps h _ hW6⟩
          · conv => whnf
            refine pw_br h (fun _ h => ?_) (fun _ h => ?_)
            · conv => whnf
              exact ⟨Nat.le_of_ble_eq_true rfl, Nat.le_of_ble_eq_true rfl, ⟨_, rfl, by decide⟩, _, fun _ _ h9 => h9, pw_ps h _ hW6⟩
            · conv => whnf
              refine pw_br h (fun _ h => ?_) (fun _ h => ?_)
              · conv => whnf
                exact ⟨Nat.le_of_ble_eq_true rfl, Nat.le_of_ble_eq_true rfl, ⟨_, rfl, by decide⟩, _, fun _ _ h9 => h9, pw_ps h _ hW6⟩
              · conv => whnf
                exact ⟨Nat.le_of_ble_eq_true rfl, Nat.le_of_ble_eq_true rfl, ⟨_, rfl, by decide⟩, _, fun _ _ h9 => h9, pw_ps h _ hW6⟩
      · conv => whnf
        refine ⟨q, S, i0, (x1 - x1 / (S a3 i3 (0 : Int32).toNatClampNeg) * (S a3 i3 (0 : Int32).toNatClampNeg)), z1, z2, z3, 0, (1 + ((x1 / 24) - (x1 / 24) / 99 * 99)), rfl, hi0, hW, pw_bd h (fun S10 r13 h f11 hW12 => ?_)⟩
        conv => whnf
        refine pw_st h (fun z15 h => ?_)
        conv => whnf
        refine pw_br h (fun _ h => ?_) (fun _ h => ?_)
        · conv => whnf
          refine pw_br h (fun _ h => ?_) (fun _ h => ?_)
          · conv => whnf
            exact ⟨Nat.le_of_ble_eq_true rfl, Nat.le_of_ble_eq_true rfl, ⟨_, rfl, by decide⟩, _, fun _ _ h9 => h9, pw_ps h _ hW12⟩
          · conv => whnf
            refine pw_br h (fun _ h => ?_) (fun _ h => ?_)
            · conv => whnf
              exact ⟨Nat.le_of_ble_eq_true rfl, Nat.le_of_ble_eq_true rfl, ⟨_, rfl, by decide⟩, _, fun _ _ h9 => h9, pw_ps h _ hW12⟩
            · conv => whnf
              exact ⟨Nat.le_of_ble_eq_true rfl, Nat.le_of_ble_eq_true rfl, ⟨_, rfl, by decide⟩, _, fun _ _ h9 => h9, pw_ps h _ hW12⟩
        · conv => whnf
          refine pw_br h (fun _ h => ?_) (fun _ h => ?_)
          · conv => whnf
            exact ⟨Nat.le_of_ble_eq_true rfl, Nat.le_of_ble_eq_true rfl, ⟨_, rfl, by decide⟩, _, fun _ _ h9 => h9, pw_ps h _ hW12⟩
          · conv => whnf
            refine pw_br h (fun _ h => ?_) (fun _ h => ?_)
            · conv => whnf
              exact ⟨Nat.le_of_ble_eq_true rfl, Nat.le_of_ble_eq_true rfl, ⟨_, rfl, by decide⟩, _, fun _ _ h9 => h9, pw_ps h _ hW12⟩
            · conv => whnf
              refine pw_br h (fun _ h => ?_) (fun _ h => ?_)
              · conv => whnf
                exact ⟨Nat.le_of_ble_eq_true rfl, Nat.le_of_ble_eq_true rfl, ⟨_, rfl, by decide⟩, _, fun _ _ h9 => h9, pw_ps h _ hW12⟩
              · conv => whnf
                exact ⟨Nat.le_of_ble_eq_true rfl, Nat.le_of_ble_eq_true rfl, ⟨_, rfl, by decide⟩, _, fun _ _ h9 => h9, pw_ps h _ hW12⟩
    · conv => whnf
      refine pw_br h (fun _ h => ?_) (fun _ h => ?_)
      · conv => whnf
        refine pw_st h (fun z16 h => ?_)
        conv => whnf
        refine np_rd_i (hW.ga ha3 hi3) ?_
        conv => whnf
        refine pw_ck h (fun _ h => ?_)
        conv => whnf
        refine pw_ck h (fun _ h => ?_)
        conv => whnf
        refine pw_br h (fun _ h => ?_) (fun _ h => ?_)
        · conv => whnf
          refine ⟨q, S, i0, (x1 - x1 / (S a3 i3 (0 : Int32).toNatClampNeg) * (S a3 i3 (0 : Int32).toNatClampNeg)), z1, z2, z16, ((x2 / 40) - (x2 / 40) / 6 * 6), (1 + ((x1 / 24) - (x1 / 24) / 99 * 99)), rfl, hi0, hW, pw_bd h (fun S17 r20 h f18 hW19 => ?_)⟩
          conv => whnf
          refine pw_st h (fun z22 h => ?_)
          conv => whnf
          refine pw_br h (fun _ h => ?_) (fun _ h => ?_)
          · conv => whnf
            refine pw_br h (fun _ h => ?_) (fun _ h => ?_)
            · conv => whnf
              exact ⟨Nat.le_of_ble_eq_true rfl, Nat.le_of_ble_eq_true rfl, ⟨_, rfl, by decide⟩, _, fun _ _ h9 => h9, pw_ps h _ hW19⟩
            · conv => whnf
              refine pw_br h (fun _ h => ?_) (fun _ h => ?_)
              · conv => whnf
                exact ⟨Nat.le_of_ble_eq_true rfl, Nat.le_of_ble_eq_true rfl, ⟨_, rfl, by decide⟩, _, fun _ _ h9 => h9, pw_ps h _ hW19⟩
              · conv => whnf
                exact ⟨Nat.le_of_ble_eq_true rfl, Nat.le_of_ble_eq_true rfl, ⟨_, rfl, by decide⟩, _, fun _ _ h9 => h9, pw_ps h _ hW19⟩
          · conv => whnf
            refine pw_br h (fun _ h => ?_) (fun _ h => ?_)
            · conv => whnf
              exact ⟨Nat.le_of_ble_eq_true rfl, Nat.le_of_ble_eq_true rfl, ⟨_, rfl, by decide⟩, _, fun _ _ h9 => h9, pw_ps h _ hW19⟩
            · conv => whnf
              refine pw_br h (fun _ h => ?_) (fun _ h => ?_)
              · conv => whnf
                exact ⟨Nat.le_of_ble_eq_true rfl, Nat.le_of_ble_eq_true rfl, ⟨_, rfl, by decide⟩, _, fun _ _ h9 => h9, pw_ps h _ hW19⟩
              · conv => whnf
                refine pw_br h (fun _ h => ?_) (fun _ h => ?_)
                · conv => whnf
                  exact ⟨Nat.le_of_ble_eq_true rfl, Nat.le_of_ble_eq_true rfl, ⟨_, rfl, by decide⟩, _, fun _ _ h9 => h9, pw_ps h _ hW19⟩
                · conv => whnf
                  exact ⟨Nat.le_of_ble_eq_true rfl, Nat.le_of_ble_eq_true rfl, ⟨_, rfl, by decide⟩, _, fun _ _ h9 => h9, pw_ps h _ hW19⟩
        · conv => whnf
          refine ⟨q, S, i0, (x1 - x1 / (S a3 i3 (0 : Int32).toNatClampNeg) * (S a3 i3 (0 : Int32).toNatClampNeg)), z1, z2, z16, 0, (1 + ((x1 / 24) - (x1 / 24) / 99 * 99)), rfl, hi0, hW, pw_bd h (fun S23 r26 h f24 hW25 => ?_)⟩
          conv => whnf
          refine pw_st h (fun z28 h => ?_)
          conv => whnf
          refine pw_br h (fun _ h => ?_) (fun _ h => ?_)
          · conv => whnf
            refine pw_br h (fun _ h => ?_) (fun _ h => ?_)
            · conv => whnf
              exact ⟨Nat.le_of_ble_eq_true rfl, Nat.le_of_ble_eq_true rfl, ⟨_, rfl, by decide⟩, _, fun _ _ h9 => h9, pw_ps h _ hW25⟩
            · conv => whnf
              refine pw_br h (fun _ h => ?_) (fun _ h => ?_)
              · conv => whnf
                exact ⟨Nat.le_of_ble_eq_true rfl, Nat.le_of_ble_eq_true rfl, ⟨_, rfl, by decide⟩, _, fun _ _ h9 => h9, pw_ps h _ hW25⟩
              · conv => whnf
                exact ⟨Nat.le_of_ble_eq_true rfl, Nat.le_of_ble_eq_true rfl, ⟨_, rfl, by decide⟩, _, fun _ _ h9 => h9, pw_ps h _ hW25⟩
          · conv => whnf
            refine pw_br h (fun _ h => ?_) (fun _ h => ?_)
            · conv => whnf
              exact ⟨Nat.le_of_ble_eq_true rfl, Nat.le_of_ble_eq_true rfl, ⟨_, rfl, by decide⟩, _, fun _ _ h9 => h9, pw_ps h _ hW25⟩
            · conv => whnf
              refine pw_br h (fun _ h => ?_) (fun _ h => ?_)
              · conv => whnf
                exact ⟨Nat.le_of_ble_eq_true rfl, Nat.le_of_ble_eq_true rfl, ⟨_, rfl, by decide⟩, _, fun _ _ h9 => h9, pw_ps h _ hW25⟩
              · conv => whnf
                refine pw_br h (fun _ h => ?_) (fun _ h => ?_)
                · conv => whnf
                  exact ⟨Nat.le_of_ble_eq_true rfl, Nat.le_of_ble_eq_true rfl, ⟨_, rfl, by decide⟩, _, fun _ _ h9 => h9, pw_ps h _ hW25⟩
                · conv => whnf
                  exact ⟨Nat.le_of_ble_eq_true rfl, Nat.le_of_ble_eq_true rfl, ⟨_, rfl, by decide⟩, _, fun _ _ h9 => h9, pw_ps h _ hW25⟩
      · conv => whnf
        refine pw_st h (fun z29 h => ?_)
        conv => whnf
        refine np_rd_i (hW.ga ha3 hi3) ?_
        conv => whnf
        refine pw_ck h (fun _ h => ?_)
        conv => whnf
        refine pw_ck h (fun _ h => ?_)
        conv => whnf
        refine pw_br h (fun _ h => ?_) (fun _ h => ?_)
        · conv => whnf
          refine ⟨q, S, i0, (x1 - x1 / (S a3 i3 (0 : Int32).toNatClampNeg) * (S a3 i3 (0 : Int32).toNatClampNeg)), z1, z2, z29, ((x2 / 40) - (x2 / 40) / 6 * 6), (1 + ((x1 / 24) - (x1 / 24) / 99 * 99)), rfl, hi0, hW, pw_bd h (fun S30 r33 h f31 hW32 => ?_)⟩
          conv => whnf
          refine pw_st h (fun z35 h => ?_)
          conv => whnf
          refine pw_br h (fun _ h => ?_) (fun _ h => ?_)
          · conv => whnf
            refine pw_br h (fun _ h => ?_) (fun _ h => ?_)
            · conv => whnf
              exact ⟨Nat.le_of_ble_eq_true rfl, Nat.le_of_ble_eq_true rfl, ⟨_, rfl, by decide⟩, _, fun _ _ h9 => h9, pw_ps h _ hW32⟩
            · conv => whnf
              refine pw_br h (fun _ h => ?_) (fun _ h => ?_)
              · conv => whnf
                exact ⟨Nat.le_of_ble_eq_true rfl, Nat.le_of_ble_eq_true rfl, ⟨_, rfl, by decide⟩, _, fun _ _ h9 => h9, pw_ps h _ hW32⟩
              · conv => whnf
                exact ⟨Nat.le_of_ble_eq_true rfl, Nat.le_of_ble_eq_true rfl, ⟨_, rfl, by decide⟩, _, fun _ _ h9 => h9, pw_ps h _ hW32⟩
          · conv => whnf
            refine pw_br h (fun _ h => ?_) (fun _ h => ?_)
            · conv => whnf
              exact ⟨Nat.le_of_ble_eq_true rfl, Nat.le_of_ble_eq_true rfl, ⟨_, rfl, by decide⟩, _, fun _ _ h9 => h9, pw_ps h _ hW32⟩
            · conv => whnf
              refine pw_br h (fun _ h => ?_) (fun _ h => ?_)
              · conv => whnf
                exact ⟨Nat.le_of_ble_eq_true rfl, Nat.le_of_ble_eq_true rfl, ⟨_, rfl, by decide⟩, _, fun _ _ h9 => h9, pw_ps h _ hW32⟩
              · conv => whnf
                refine pw_br h (fun _ h => ?_) (fun _ h => ?_)
                · conv => whnf
                  exact ⟨Nat.le_of_ble_eq_true rfl, Nat.le_of_ble_eq_true rfl, ⟨_, rfl, by decide⟩, _, fun _ _ h9 => h9, pw_ps h _ hW32⟩
                · conv => whnf
                  exact ⟨Nat.le_of_ble_eq_true rfl, Nat.le_of_ble_eq_true rfl, ⟨_, rfl, by decide⟩, _, fun _ _ h9 => h9, pw_ps h _ hW32⟩
        · conv => whnf
          refine ⟨q, S, i0, (x1 - x1 / (S a3 i3 (0 : Int32).toNatClampNeg) * (S a3 i3 (0 : Int32).toNatClampNeg)), z1, z2, z29, 0, (1 + ((x1 / 24) - (x1 / 24) / 99 * 99)), rfl, hi0, hW, pw_bd h (fun S36 r39 h f37 hW38 => ?_)⟩
          conv => whnf
          refine pw_st h (fun z41 h => ?_)
          conv => whnf
          refine pw_br h (fun _ h => ?_) (fun _ h => ?_)
          · conv => whnf
            refine pw_br h (fun _ h => ?_) (fun _ h => ?_)
            · conv => whnf
              exact ⟨Nat.le_of_ble_eq_true rfl, Nat.le_of_ble_eq_true rfl, ⟨_, rfl, by decide⟩, _, fun _ _ h9 => h9, pw_ps h _ hW38⟩
            · conv => whnf
              refine pw_br h (fun _ h => ?_) (fun _ h => ?_)
              · conv => whnf
                exact ⟨Nat.le_of_ble_eq_true rfl, Nat.le_of_ble_eq_true rfl, ⟨_, rfl, by decide⟩, _, fun _ _ h9 => h9, pw_ps h _ hW38⟩
              · conv => whnf
                exact ⟨Nat.le_of_ble_eq_true rfl, Nat.le_of_ble_eq_true rfl, ⟨_, rfl, by decide⟩, _, fun _ _ h9 => h9, pw_ps h _ hW38⟩
          · conv => whnf
            refine pw_br h (fun _ h => ?_) (fun _ h => ?_)
            · conv => whnf
              exact ⟨Nat.le_of_ble_eq_true rfl, Nat.le_of_ble_eq_true rfl, ⟨_, rfl, by decide⟩, _, fun _ _ h9 => h9, pw_ps h _ hW38⟩
            · conv => whnf
              refine pw_br h (fun _ h => ?_) (fun _ h => ?_)
              · conv => whnf
                exact ⟨Nat.le_of_ble_eq_true rfl, Nat.le_of_ble_eq_true rfl, ⟨_, rfl, by decide⟩, _, fun _ _ h9 => h9, pw_ps h _ hW38⟩
              · conv => whnf
                refine pw_br h (fun _ h => ?_) (fun _ h => ?_)
                · conv => whnf
                  exact ⟨Nat.le_of_ble_eq_true rfl, Nat.le_of_ble_eq_true rfl, ⟨_, rfl, by decide⟩, _, fun _ _ h9 => h9, pw_ps h _ hW38⟩
                · conv => whnf
                  exact ⟨Nat.le_of_ble_eq_true rfl, Nat.le_of_ble_eq_true rfl, ⟨_, rfl, by decide⟩, _, fun _ _ h9 => h9, pw_ps h _ hW38⟩
theorem dL_isReadBack_0 : decode cL_isReadBack 0 = .ok (.aload_n 0, 1) := by decide +kernel
theorem dL_isReadBack_1 : decode cL_isReadBack 1 = .ok (.iload_n 1, 1) := by decide +kernel
theorem dL_isReadBack_2 : decode cL_isReadBack 2 = .ok (.iload_n 2, 1) := by decide +kernel
theorem dL_isReadBack_3 : decode cL_isReadBack 3 = .ok (.iload_n 3, 1) := by decide +kernel
theorem dL_isReadBack_4 : decode cL_isReadBack 4 = .ok (.invokevirtual 79, 3) := by decide +kernel
theorem dL_isReadBack_7 : decode cL_isReadBack 7 = .ok (.istore 6, 2) := by decide +kernel
theorem dL_isReadBack_9 : decode cL_isReadBack 9 = .ok (.iload 6, 2) := by decide +kernel
theorem dL_isReadBack_11 : decode cL_isReadBack 11 = .ok (.aload_n 0, 1) := by decide +kernel
theorem dL_isReadBack_12 : decode cL_isReadBack 12 = .ok (.iload_n 1, 1) := by decide +kernel
theorem dL_isReadBack_13 : decode cL_isReadBack 13 = .ok (.iload_n 2, 1) := by decide +kernel
theorem dL_isReadBack_14 : decode cL_isReadBack 14 = .ok (.iload_n 3, 1) := by decide +kernel
theorem dL_isReadBack_15 : decode cL_isReadBack 15 = .ok (.invokevirtual 83, 3) := by decide +kernel
theorem dL_isReadBack_18 : decode cL_isReadBack 18 = .ok (.if_icmp .ne 7, 3) := by decide +kernel
theorem dL_isReadBack_21 : decode cL_isReadBack 21 = .ok (.iconst 1, 1) := by decide +kernel
theorem dL_isReadBack_22 : decode cL_isReadBack 22 = .ok (.goto 4, 3) := by decide +kernel
theorem dL_isReadBack_25 : decode cL_isReadBack 25 = .ok (.iconst 0, 1) := by decide +kernel
theorem dL_isReadBack_26 : decode cL_isReadBack 26 = .ok (.istore 7, 2) := by decide +kernel
theorem dL_isReadBack_28 : decode cL_isReadBack 28 = .ok (.iload 6, 2) := by decide +kernel
theorem dL_isReadBack_30 : decode cL_isReadBack 30 = .ok (.ifCond .ge 22, 3) := by decide +kernel
theorem dL_isReadBack_33 : decode cL_isReadBack 33 = .ok (.iload 7, 2) := by decide +kernel
theorem dL_isReadBack_35 : decode cL_isReadBack 35 = .ok (.ifCond .eq 15, 3) := by decide +kernel
theorem dL_isReadBack_38 : decode cL_isReadBack 38 = .ok (.aload_n 0, 1) := by decide +kernel
theorem dL_isReadBack_39 : decode cL_isReadBack 39 = .ok (.iload_n 1, 1) := by decide +kernel
theorem dL_isReadBack_40 : decode cL_isReadBack 40 = .ok (.invokevirtual 68, 3) := by decide +kernel
theorem dL_isReadBack_43 : decode cL_isReadBack 43 = .ok (.ifCond .lt 7, 3) := by decide +kernel
theorem dL_isReadBack_46 : decode cL_isReadBack 46 = .ok (.iconst 1, 1) := by decide +kernel
theorem dL_isReadBack_47 : decode cL_isReadBack 47 = .ok (.goto 4, 3) := by decide +kernel
theorem dL_isReadBack_50 : decode cL_isReadBack 50 = .ok (.iconst 0, 1) := by decide +kernel
theorem dL_isReadBack_51 : decode cL_isReadBack 51 = .ok (.ireturn, 1) := by decide +kernel
theorem dL_isReadBack_52 : decode cL_isReadBack 52 = .ok (.iconst 0, 1) := by decide +kernel
theorem dL_isReadBack_53 : decode cL_isReadBack 53 = .ok (.istore 8, 2) := by decide +kernel
theorem dL_isReadBack_55 : decode cL_isReadBack 55 = .ok (.iconst 0, 1) := by decide +kernel
theorem dL_isReadBack_56 : decode cL_isReadBack 56 = .ok (.istore 9, 2) := by decide +kernel
theorem dL_isReadBack_58 : decode cL_isReadBack 58 = .ok (.iload 9, 2) := by decide +kernel
theorem dL_isReadBack_60 : decode cL_isReadBack 60 = .ok (.iload 6, 2) := by decide +kernel
theorem dL_isReadBack_62 : decode cL_isReadBack 62 = .ok (.if_icmp .ge 72, 3) := by decide +kernel
theorem dL_isReadBack_65 : decode cL_isReadBack 65 = .ok (.iload 9, 2) := by decide +kernel
theorem dL_isReadBack_67 : decode cL_isReadBack 67 = .ok (.iconst 3, 1) := by decide +kernel
theorem dL_isReadBack_68 : decode cL_isReadBack 68 = .ok (.if_icmp .ge 66, 3) := by decide +kernel
theorem dL_isReadBack_71 : decode cL_isReadBack 71 = .ok (.iload 7, 2) := by decide +kernel
theorem dL_isReadBack_73 : decode cL_isReadBack 73 = .ok (.ifCond .eq 61, 3) := by decide +kernel
theorem dL_isReadBack_76 : decode cL_isReadBack 76 = .ok (.iload 8, 2) := by decide +kernel
theorem dL_isReadBack_78 : decode cL_isReadBack 78 = .ok (.ifCond .ne 56, 3) := by decide +kernel
theorem dL_isReadBack_81 : decode cL_isReadBack 81 = .ok (.aload_n 0, 1) := by decide +kernel
theorem dL_isReadBack_82 : decode cL_isReadBack 82 = .ok (.iload_n 1, 1) := by decide +kernel
theorem dL_isReadBack_83 : decode cL_isReadBack 83 = .ok (.iload_n 2, 1) := by decide +kernel
theorem dL_isReadBack_84 : decode cL_isReadBack 84 = .ok (.iload_n 3, 1) := by decide +kernel
theorem dL_isReadBack_85 : decode cL_isReadBack 85 = .ok (.iload 9, 2) := by decide +kernel
theorem dL_isReadBack_87 : decode cL_isReadBack 87 = .ok (.invokestatic 86, 3) := by decide +kernel
theorem dL_isReadBack_90 : decode cL_isReadBack 90 = .ok (.istore 10, 2) := by decide +kernel
theorem dL_isReadBack_92 : decode cL_isReadBack 92 = .ok (.iload 10, 2) := by decide +kernel
theorem dL_isReadBack_94 : decode cL_isReadBack 94 = .ok (.iload_n 3, 1) := by decide +kernel
theorem dL_isReadBack_95 : decode cL_isReadBack 95 = .ok (.if_icmp .le 7, 3) := by decide +kernel
theorem dL_isReadBack_98 : decode cL_isReadBack 98 = .ok (.iconst 1, 1) := by decide +kernel
theorem dL_isReadBack_99 : decode cL_isReadBack 99 = .ok (.goto 4, 3) := by decide +kernel
theorem dL_isReadBack_102 : decode cL_isReadBack 102 = .ok (.iconst 0, 1) := by decide +kernel
theorem dL_isReadBack_103 : decode cL_isReadBack 103 = .ok (.istore 7, 2) := by decide +kernel
theorem dL_isReadBack_105 : decode cL_isReadBack 105 = .ok (.iload 10, 2) := by decide +kernel
theorem dL_isReadBack_107 : decode cL_isReadBack 107 = .ok (.iload 4, 2) := by decide +kernel
theorem dL_isReadBack_109 : decode cL_isReadBack 109 = .ok (.if_icmp .ne 16, 3) := by decide +kernel
theorem dL_isReadBack_112 : decode cL_isReadBack 112 = .ok (.aload_n 0, 1) := by decide +kernel
theorem dL_isReadBack_113 : decode cL_isReadBack 113 = .ok (.aload 5, 2) := by decide +kernel
theorem dL_isReadBack_115 : decode cL_isReadBack 115 = .ok (.invokestatic 89, 3) := by decide +kernel
theorem dL_isReadBack_118 : decode cL_isReadBack 118 = .ok (.ifCond .eq 7, 3) := by decide +kernel
theorem dL_isReadBack_121 : decode cL_isReadBack 121 = .ok (.iconst 1, 1) := by decide +kernel
theorem dL_isReadBack_122 : decode cL_isReadBack 122 = .ok (.goto 4, 3) := by decide +kernel
theorem dL_isReadBack_125 : decode cL_isReadBack 125 = .ok (.iconst 0, 1) := by decide +kernel
theorem dL_isReadBack_126 : decode cL_isReadBack 126 = .ok (.istore 8, 2) := by decide +kernel
theorem dL_isReadBack_128 : decode cL_isReadBack 128 = .ok (.iinc 9 1, 3) := by decide +kernel
theorem dL_isReadBack_131 : decode cL_isReadBack 131 = .ok (.goto (-73), 3) := by decide +kernel
theorem dL_isReadBack_134 : decode cL_isReadBack 134 = .ok (.iload 7, 2) := by decide +kernel
theorem dL_isReadBack_136 : decode cL_isReadBack 136 = .ok (.ifCond .eq 53, 3) := by decide +kernel
theorem dL_isReadBack_139 : decode cL_isReadBack 139 = .ok (.iload 8, 2) := by decide +kernel
theorem dL_isReadBack_141 : decode cL_isReadBack 141 = .ok (.ifCond .ne 9, 3) := by decide +kernel
theorem dL_isReadBack_144 : decode cL_isReadBack 144 = .ok (.iload 6, 2) := by decide +kernel
theorem dL_isReadBack_146 : decode cL_isReadBack 146 = .ok (.iconst 3, 1) := by decide +kernel
theorem dL_isReadBack_147 : decode cL_isReadBack 147 = .ok (.if_icmp .le 42, 3) := by decide +kernel
theorem dL_isReadBack_150 : decode cL_isReadBack 150 = .ok (.aload_n 0, 1) := by decide +kernel
theorem dL_isReadBack_151 : decode cL_isReadBack 151 = .ok (.iload_n 1, 1) := by decide +kernel
theorem dL_isReadBack_152 : decode cL_isReadBack 152 = .ok (.invokevirtual 68, 3) := by decide +kernel
theorem dL_isReadBack_155 : decode cL_isReadBack 155 = .ok (.ifCond .ge 9, 3) := by decide +kernel
theorem dL_isReadBack_158 : decode cL_isReadBack 158 = .ok (.iload 6, 2) := by decide +kernel
theorem dL_isReadBack_160 : decode cL_isReadBack 160 = .ok (.iconst 1, 1) := by decide +kernel
theorem dL_isReadBack_161 : decode cL_isReadBack 161 = .ok (.if_icmp .ne 28, 3) := by decide +kernel
theorem dL_isReadBack_164 : decode cL_isReadBack 164 = .ok (.iload 6, 2) := by decide +kernel
theorem dL_isReadBack_166 : decode cL_isReadBack 166 = .ok (.bipush 99, 2) := by decide +kernel
theorem dL_isReadBack_168 : decode cL_isReadBack 168 = .ok (.if_icmp .eq 17, 3) := by decide +kernel
theorem dL_isReadBack_171 : decode cL_isReadBack 171 = .ok (.aload_n 0, 1) := by decide +kernel
theorem dL_isReadBack_172 : decode cL_isReadBack 172 = .ok (.iload_n 1, 1) := by decide +kernel
theorem dL_isReadBack_173 : decode cL_isReadBack 173 = .ok (.iload_n 2, 1) := by decide +kernel
theorem dL_isReadBack_174 : decode cL_isReadBack 174 = .ok (.iload_n 3, 1) := by decide +kernel
theorem dL_isReadBack_175 : decode cL_isReadBack 175 = .ok (.iload 6, 2) := by decide +kernel
theorem dL_isReadBack_177 : decode cL_isReadBack 177 = .ok (.invokestatic 86, 3) := by decide +kernel
theorem dL_isReadBack_180 : decode cL_isReadBack 180 = .ok (.ldc 39, 2) := by decide +kernel
theorem dL_isReadBack_182 : decode cL_isReadBack 182 = .ok (.if_icmp .ne 7, 3) := by decide +kernel
theorem dL_isReadBack_185 : decode cL_isReadBack 185 = .ok (.iconst 1, 1) := by decide +kernel
theorem dL_isReadBack_186 : decode cL_isReadBack 186 = .ok (.goto 4, 3) := by decide +kernel
theorem dL_isReadBack_189 : decode cL_isReadBack 189 = .ok (.iconst 0, 1) := by decide +kernel
theorem dL_isReadBack_190 : decode cL_isReadBack 190 = .ok (.ireturn, 1) := by decide +kernel
def is_L_isReadBack (Rt : np_Rt) : List (Nat × np_Op) := [(0, np_ald 1 0), (1, np_ild 1 1), (2, np_ild 1 2), (3, np_ild 1 3), (4, nw_callVX 11 4 sp_X11_readings 8 1 6 108 648 []), (7, nw_ist 2 6), (9, np_ild 2 6), (11, np_ald 1 0), (12, np_ild 1 1), (13, np_ild 1 2), (14, np_ild 1 3), (15, nw_callVX 11 4 sp_X11_readingsAnew 6 1 6 108 648 []), (18, nq_icne 25), (21, np_push 1 (.int 1)), (22, np_goto 26), (25, np_push 1 (.int 0)), (26, nw_ist 2 7), (28, np_ild 2 6), (30, nq_if (fun x => 0 ≤ x) 52), (33, np_ild 2 7), (35, nq_if (fun x => x = 0) 50), (38, np_ald 1 0), (39, np_ild 1 1), (40, nw_callVX 11 2 sp_X11_sure 3 1 6 108 648 []), (43, nq_if (fun x => x < 0) 50), (46, np_push 1 (.int 1)), (47, np_goto 51), (50, np_push 1 (.int 0)), (51, np_ret Rt), (52, np_push 1 (.int 0)), (53, nw_ist 2 8), (55, np_push 1 (.int 0)), (56, nw_ist 2 9), (58, np_ild 2 9), (60, np_ild 2 6), (62, nq_ic (fun x y => y ≤ x) 134), (65, np_ild 2 9), (67, np_push 1 (.int 3)), (68, nq_ic (fun x y => y ≤ x) 134), (71, np_ild 2 7), (73, nq_if (fun x => x = 0) 134), (76, np_ild 2 8), (78, nq_ifne 134), (81, np_ald 1 0), (82, np_ild 1 1), (83, np_ild 1 2), (84, np_ild 1 3), (85, np_ild 2 9), (87, nq_call 5 sp_L_readsAt 6 1 6 108 648), (90, nw_ist 2 10), (92, np_ild 2 10), (94, np_ild 1 3), (95, nq_ic (fun x y => x ≤ y) 102), (98, np_push 1 (.int 1)), (99, np_goto 103), (102, np_push 1 (.int 0)), (103, nw_ist 2 7), (105, np_ild 2 10), (107, np_ild 2 4), (109, nq_icne 125), (112, np_ald 1 0), (113, np_ald 2 5), (115, nq_call 2 sp_L_isNoted 4 25 150 108 648), (118, nq_if (fun x => x = 0) 125), (121, np_push 1 (.int 1)), (122, np_goto 126), (125, np_push 1 (.int 0)), (126, nw_ist 2 8), (128, nw_iinc 9 1), (131, np_goto 58), (134, np_ild 2 7), (136, nq_if (fun x => x = 0) 189), (139, np_ild 2 8), (141, nq_ifne 150), (144, np_ild 2 6), (146, np_push 1 (.int 3)), (147, nq_ic (fun x y => x ≤ y) 189), (150, np_ald 1 0), (151, np_ild 1 1), (152, nw_callVX 11 2 sp_X11_sure 3 1 6 108 648 []), (155, nq_if (fun x => 0 ≤ x) 164), (158, np_ild 2 6), (160, np_push 1 (.int 1)), (161, nq_icne 189), (164, np_ild 2 6), (166, np_push 2 (.int 99)), (168, nq_ic (fun x y => x = y) 185), (171, np_ald 1 0), (172, np_ild 1 1), (173, np_ild 1 2), (174, np_ild 1 3), (175, np_ild 2 6), (177, nq_call 5 sp_L_readsAt 6 1 6 108 648), (180, np_push 2 (.int (-70007))), (182, nq_icne 189), (185, np_push 1 (.int 1)), (186, np_goto 190), (189, np_push 1 (.int 0)), (190, np_ret Rt)]
set_option maxRecDepth 20000 in
theorem so_L_isReadBack {X : np_Ctx} {Rt : np_Rt} (hX : np_ok RL cL_isReadBack 11 9 250 108 648 .ireturn X) (hR : ∀ st w ce sl, Rt st w ce sl → X.2.2.1 st w ce sl) : ∀ q ∈ is_L_isReadBack Rt, np_S X q.1 q.2 :=
  List.forall_mem_cons.mpr ⟨np_s_aload_n hX dL_isReadBack_0 rfl, List.forall_mem_cons.mpr ⟨np_s_iload_n hX dL_isReadBack_1 rfl, List.forall_mem_cons.mpr ⟨np_s_iload_n hX dL_isReadBack_2 rfl, List.forall_mem_cons.mpr ⟨np_s_iload_n hX dL_isReadBack_3 rfl, List.forall_mem_cons.mpr ⟨np_S.mono (op := np_callVX 11 4 sp_X11_readings 8 1 6 108 648 []) (np_s_callVX hX C_X11_readings dL_isReadBack_4 (q := (RX11, TX11, 14)) rfl rfl gw1192 gw63 gw1189 gw1190 gw1191 ⟨by decide, by decide, by decide⟩ (by decide) (by decide) (fun _ h => nomatch h)) (nw_callVX_le2 (ci := 11) (n := 4) (sp := sp_X11_readings) (maxL := 8) (mc := 1) (ms := 6) (RC := 108) (RS := 648) (hs := [])), List.forall_mem_cons.mpr ⟨np_S.mono (op := np_ist 2 6) (np_s_istore hX dL_isReadBack_7 (by decide)) nw_ist_le, List.forall_mem_cons.mpr ⟨np_s_iload hX dL_isReadBack_9, List.forall_mem_cons.mpr ⟨np_s_aload_n hX dL_isReadBack_11 rfl, List.forall_mem_cons.mpr ⟨np_s_iload_n hX dL_isReadBack_12 rfl, List.forall_mem_cons.mpr ⟨np_s_iload_n hX dL_isReadBack_13 rfl, List.forall_mem_cons.mpr ⟨np_s_iload_n hX dL_isReadBack_14 rfl, List.forall_mem_cons.mpr ⟨np_S.mono (op := np_callVX 11 4 sp_X11_readingsAnew 6 1 6 108 648 []) (np_s_callVX hX C_X11_readingsAnew dL_isReadBack_15 (q := (RX11, TX11, 14)) rfl rfl gw1196 gw63 gw1193 gw1194 gw1195 ⟨by decide, by decide, by decide⟩ (by decide) (by decide) (fun _ h => nomatch h)) (nw_callVX_le2 (ci := 11) (n := 4) (sp := sp_X11_readingsAnew) (maxL := 6) (mc := 1) (ms := 6) (RC := 108) (RS := 648) (hs := [])), List.forall_mem_cons.mpr ⟨np_S.mono (op := np_icne 25) (np_s_icmp_ne hX dL_isReadBack_18 (by decide)) nq_icne_le, List.forall_mem_cons.mpr ⟨np_s_iconst hX dL_isReadBack_21 (by decide), List.forall_mem_cons.mpr ⟨np_s_goto hX dL_isReadBack_22 (by decide), List.forall_mem_cons.mpr ⟨np_s_iconst hX dL_isReadBack_25 (by decide), List.forall_mem_cons.mpr ⟨np_S.mono (op := np_ist 2 7) (np_s_istore hX dL_isReadBack_26 (by decide)) nw_ist_le, List.forall_mem_cons.mpr ⟨np_s_iload hX dL_isReadBack_28, List.forall_mem_cons.mpr ⟨np_S.mono (op := np_if (fun x => 0 ≤ x) 52) (np_s_if_ge hX dL_isReadBack_30 (by decide)) nq_if_le, List.forall_mem_cons.mpr ⟨np_s_iload hX dL_isReadBack_33, List.forall_mem_cons.mpr ⟨np_S.mono (op := np_if (fun x => x = 0) 50) (np_s_if_eq hX dL_isReadBack_35 (by decide)) nq_if_le, List.forall_mem_cons.mpr ⟨np_s_aload_n hX dL_isReadBack_38 rfl, List.forall_mem_cons.mpr ⟨np_s_iload_n hX dL_isReadBack_39 rfl, List.forall_mem_cons.mpr ⟨np_S.mono (op := np_callVX 11 2 sp_X11_sure 3 1 6 108 648 []) (np_s_callVX hX C_X11_sure dL_isReadBack_40 (q := (RX11, TX11, 14)) rfl rfl gw695 gw63 gw692 gw693 gw694 ⟨by decide, by decide, by decide⟩ (by decide) (by decide) (fun _ h => nomatch h)) (nw_callVX_le2 (ci := 11) (n := 2) (sp := sp_X11_sure) (maxL := 3) (mc := 1) (ms := 6) (RC := 108) (RS := 648) (hs := [])), List.forall_mem_cons.mpr ⟨np_S.mono (op := np_if (fun x => x < 0) 50) (np_s_if_lt hX dL_isReadBack_43 (by decide)) nq_if_le, List.forall_mem_cons.mpr ⟨np_s_iconst hX dL_isReadBack_46 (by decide), List.forall_mem_cons.mpr ⟨np_s_goto hX dL_isReadBack_47 (by decide), List.forall_mem_cons.mpr ⟨np_s_iconst hX dL_isReadBack_50 (by decide), List.forall_mem_cons.mpr ⟨np_S.mono (op := np_ret X.2.2.1) (np_s_ret hX dL_isReadBack_51) (nq_ret_le hR), List.forall_mem_cons.mpr ⟨np_s_iconst hX dL_isReadBack_52 (by decide), List.forall_mem_cons.mpr ⟨np_S.mono (op := np_ist 2 8) (np_s_istore hX dL_isReadBack_53 (by decide)) nw_ist_le, List.forall_mem_cons.mpr ⟨np_s_iconst hX dL_isReadBack_55 (by decide), List.forall_mem_cons.mpr ⟨np_S.mono (op := np_ist 2 9) (np_s_istore hX dL_isReadBack_56 (by decide)) nw_ist_le, List.forall_mem_cons.mpr ⟨np_s_iload hX dL_isReadBack_58, List.forall_mem_cons.mpr ⟨np_s_iload hX dL_isReadBack_60, List.forall_mem_cons.mpr ⟨np_S.mono (op := np_ic (fun x y => y ≤ x) 134) (np_s_icmp_ge hX dL_isReadBack_62 (by decide)) nq_ic_le, List.forall_mem_cons.mpr ⟨np_s_iload hX dL_isReadBack_65, List.forall_mem_cons.mpr ⟨np_s_iconst hX dL_isReadBack_67 (by decide), List.forall_mem_cons.mpr ⟨np_S.mono (op := np_ic (fun x y => y ≤ x) 134) (np_s_icmp_ge hX dL_isReadBack_68 (by decide)) nq_ic_le, List.forall_mem_cons.mpr ⟨np_s_iload hX dL_isReadBack_71, List.forall_mem_cons.mpr ⟨np_S.mono (op := np_if (fun x => x = 0) 134) (np_s_if_eq hX dL_isReadBack_73 (by decide)) nq_if_le, List.forall_mem_cons.mpr ⟨np_s_iload hX dL_isReadBack_76, List.forall_mem_cons.mpr ⟨np_S.mono (op := np_ifne 134) (np_s_if_ne hX dL_isReadBack_78 (by decide)) nq_ifne_le, List.forall_mem_cons.mpr ⟨np_s_aload_n hX dL_isReadBack_81 rfl, List.forall_mem_cons.mpr ⟨np_s_iload_n hX dL_isReadBack_82 rfl, List.forall_mem_cons.mpr ⟨np_s_iload_n hX dL_isReadBack_83 rfl, List.forall_mem_cons.mpr ⟨np_s_iload_n hX dL_isReadBack_84 rfl, List.forall_mem_cons.mpr ⟨np_s_iload hX dL_isReadBack_85, List.forall_mem_cons.mpr ⟨np_S.mono (op := np_call 5 sp_L_readsAt 6 1 6 108 648) (np_s_callSW hX C_L_readsAt dL_isReadBack_87 gw1203 gw62 gw1201 gw1202 ⟨by decide, by decide, by decide⟩ (by decide) (by decide)) nq_call_le, List.forall_mem_cons.mpr ⟨np_S.mono (op := np_ist 2 10) (np_s_istore hX dL_isReadBack_90 (by decide)) nw_ist_le, List.forall_mem_cons.mpr ⟨np_s_iload hX dL_isReadBack_92, List.forall_mem_cons.mpr ⟨np_s_iload_n hX dL_isReadBack_94 rfl, List.forall_mem_cons.mpr ⟨np_S.mono (op := np_ic (fun x y => x ≤ y) 102) (np_s_icmp_le hX dL_isReadBack_95 (by decide)) nq_ic_le, List.forall_mem_cons.mpr ⟨np_s_iconst hX dL_isReadBack_98 (by decide), List.forall_mem_cons.mpr ⟨np_s_goto hX dL_isReadBack_99 (by decide), List.forall_mem_cons.mpr ⟨np_s_iconst hX dL_isReadBack_102 (by decide), List.forall_mem_cons.mpr ⟨np_S.mono (op := np_ist 2 7) (np_s_istore hX dL_isReadBack_103 (by decide)) nw_ist_le, List.forall_mem_cons.mpr ⟨np_s_iload hX dL_isReadBack_105, List.forall_mem_cons.mpr ⟨np_s_iload hX dL_isReadBack_107, List.forall_mem_cons.mpr ⟨np_S.mono (op := np_icne 125) (np_s_icmp_ne hX dL_isReadBack_109 (by decide)) nq_icne_le, List.forall_mem_cons.mpr ⟨np_s_aload_n hX dL_isReadBack_112 rfl, List.forall_mem_cons.mpr ⟨np_s_aload hX dL_isReadBack_113, List.forall_mem_cons.mpr ⟨np_S.mono (op := np_call 2 sp_L_isNoted 4 25 150 108 648) (np_s_callS hX C_L_isNoted dL_isReadBack_115 gw920 gw62 gw918 gw919 ⟨by decide, by decide, by decide⟩ (by decide) (by decide)) nq_call_le, List.forall_mem_cons.mpr ⟨np_S.mono (op := np_if (fun x => x = 0) 125) (np_s_if_eq hX dL_isReadBack_118 (by decide)) nq_if_le, List.forall_mem_cons.mpr ⟨np_s_iconst hX dL_isReadBack_121 (by decide), List.forall_mem_cons.mpr ⟨np_s_goto hX dL_isReadBack_122 (by decide), List.forall_mem_cons.mpr ⟨np_s_iconst hX dL_isReadBack_125 (by decide), List.forall_mem_cons.mpr ⟨np_S.mono (op := np_ist 2 8) (np_s_istore hX dL_isReadBack_126 (by decide)) nw_ist_le, List.forall_mem_cons.mpr ⟨np_S.mono (op := np_iinc 9 1) (np_s_iinc hX dL_isReadBack_128 (by decide)) nw_iinc_le, List.forall_mem_cons.mpr ⟨np_s_goto hX dL_isReadBack_131 (by decide), List.forall_mem_cons.mpr ⟨np_s_iload hX dL_isReadBack_134, List.forall_mem_cons.mpr ⟨np_S.mono (op := np_if (fun x => x = 0) 189) (np_s_if_eq hX dL_isReadBack_136 (by decide)) nq_if_le, List.forall_mem_cons.mpr ⟨np_s_iload hX dL_isReadBack_139, List.forall_mem_cons.mpr ⟨np_S.mono (op := np_ifne 150) (np_s_if_ne hX dL_isReadBack_141 (by decide)) nq_ifne_le, List.forall_mem_cons.mpr ⟨np_s_iload hX dL_isReadBack_144, List.forall_mem_cons.mpr ⟨np_s_iconst hX dL_isReadBack_146 (by decide), List.forall_mem_cons.mpr ⟨np_S.mono (op := np_ic (fun x y => x ≤ y) 189) (np_s_icmp_le hX dL_isReadBack_147 (by decide)) nq_ic_le, List.forall_mem_cons.mpr ⟨np_s_aload_n hX dL_isReadBack_150 rfl, List.forall_mem_cons.mpr ⟨np_s_iload_n hX dL_isReadBack_151 rfl, List.forall_mem_cons.mpr ⟨np_S.mono (op := np_callVX 11 2 sp_X11_sure 3 1 6 108 648 []) (np_s_callVX hX C_X11_sure dL_isReadBack_152 (q := (RX11, TX11, 14)) rfl rfl gw695 gw63 gw692 gw693 gw694 ⟨by decide, by decide, by decide⟩ (by decide) (by decide) (fun _ h => nomatch h)) (nw_callVX_le2 (ci := 11) (n := 2) (sp := sp_X11_sure) (maxL := 3) (mc := 1) (ms := 6) (RC := 108) (RS := 648) (hs := [])), List.forall_mem_cons.mpr ⟨np_S.mono (op := np_if (fun x => 0 ≤ x) 164) (np_s_if_ge hX dL_isReadBack_155 (by decide)) nq_if_le, List.forall_mem_cons.mpr ⟨np_s_iload hX dL_isReadBack_158, List.forall_mem_cons.mpr ⟨np_s_iconst hX dL_isReadBack_160 (by decide), List.forall_mem_cons.mpr ⟨np_S.mono (op := np_icne 189) (np_s_icmp_ne hX dL_isReadBack_161 (by decide)) nq_icne_le, List.forall_mem_cons.mpr ⟨np_s_iload hX dL_isReadBack_164, List.forall_mem_cons.mpr ⟨np_s_bipush hX dL_isReadBack_166 (by decide), List.forall_mem_cons.mpr ⟨np_S.mono (op := np_ic (fun x y => x = y) 185) (np_s_icmp_eq hX dL_isReadBack_168 (by decide)) nq_ic_le, List.forall_mem_cons.mpr ⟨np_s_aload_n hX dL_isReadBack_171 rfl, List.forall_mem_cons.mpr ⟨np_s_iload_n hX dL_isReadBack_172 rfl, List.forall_mem_cons.mpr ⟨np_s_iload_n hX dL_isReadBack_173 rfl, List.forall_mem_cons.mpr ⟨np_s_iload_n hX dL_isReadBack_174 rfl, List.forall_mem_cons.mpr ⟨np_s_iload hX dL_isReadBack_175, List.forall_mem_cons.mpr ⟨np_S.mono (op := np_call 5 sp_L_readsAt 6 1 6 108 648) (np_s_callSW hX C_L_readsAt dL_isReadBack_177 gw1203 gw62 gw1201 gw1202 ⟨by decide, by decide, by decide⟩ (by decide) (by decide)) nq_call_le, List.forall_mem_cons.mpr ⟨np_s_ldc hX dL_isReadBack_180 gw1184, List.forall_mem_cons.mpr ⟨np_S.mono (op := np_icne 189) (np_s_icmp_ne hX dL_isReadBack_182 (by decide)) nq_icne_le, List.forall_mem_cons.mpr ⟨np_s_iconst hX dL_isReadBack_185 (by decide), List.forall_mem_cons.mpr ⟨np_s_goto hX dL_isReadBack_186 (by decide), List.forall_mem_cons.mpr ⟨np_s_iconst hX dL_isReadBack_189 (by decide), List.forall_mem_cons.mpr ⟨np_S.mono (op := np_ret X.2.2.1) (np_s_ret hX dL_isReadBack_190) (nq_ret_le hR), fun _ h => nomatch h⟩⟩⟩⟩⟩⟩⟩⟩⟩⟩⟩⟩⟩⟩⟩⟩⟩⟩⟩⟩⟩⟩⟩⟩⟩⟩⟩⟩⟩⟩⟩⟩⟩⟩⟩⟩⟩⟩⟩⟩⟩⟩⟩⟩⟩⟩⟩⟩⟩⟩⟩⟩⟩⟩⟩⟩⟩⟩⟩⟩⟩⟩⟩⟩⟩⟩⟩⟩⟩⟩⟩⟩⟩⟩⟩⟩⟩⟩⟩⟩⟩⟩⟩⟩⟩⟩⟩⟩⟩⟩⟩⟩⟩⟩⟩⟩⟩⟩⟩
noncomputable def m_L_isReadBack_58 (k134 : pw_S → Nat → Int32 → Int32 → Int32 → Int32 → Int32 → Int32 → pw_R Int32) : Nat → pw_S → Nat → Int32 → Int32 → Int32 → Int32 → Nat → Nat → Int32 → Int32 → Int32 → Int32 → pw_R Int32
| 0, _, _, _, _, _, _, _, _, _, _, _, _ => none
| N + 1, S, v0, v1, v2, v3, v4, va5, vi5, v6, v7, v8, v9 =>
 if v6 ≤ v9 then
 (k134 S v0 v1 v2 v3 v6 v7 v8)
 else
 (if 3 ≤ v9 then
 (k134 S v0 v1 v2 v3 v6 v7 v8)
 else
 (if v7 = 0 then
 (k134 S v0 v1 v2 v3 v6 v7 v8)
 else
 (if v8 = 0 then
 (pw_b (m_L_readsAt S v0 v1 v2 v3 v9) fun S1 r4 =>
 pw_l (r4 : Int32) fun z6 =>
 if z6 ≤ v3 then
 (pw_l (0 : Int32) fun z7 =>
 if z6 = v4 then
 (pw_b (m_L_isNoted S1 v0 va5 vi5) fun S8 r11 =>
 if r11 = 0 then
 (pw_l (0 : Int32) fun z13 =>
 pw_l (v9 + 1 : Int32) fun z14 =>
 m_L_isReadBack_58 k134 N S8 v0 v1 v2 v3 v4 va5 vi5 v6 z7 z13 z14)
 else
 (pw_l (1 : Int32) fun z15 =>
 pw_l (v9 + 1 : Int32) fun z16 =>
 m_L_isReadBack_58 k134 N S8 v0 v1 v2 v3 v4 va5 vi5 v6 z7 z15 z16))
 else
 (pw_l (0 : Int32) fun z17 =>
 pw_l (v9 + 1 : Int32) fun z18 =>
 m_L_isReadBack_58 k134 N S1 v0 v1 v2 v3 v4 va5 vi5 v6 z7 z17 z18))
 else
 (pw_l (1 : Int32) fun z19 =>
 if z6 = v4 then
 (pw_b (m_L_isNoted S1 v0 va5 vi5) fun S20 r23 =>
 if r23 = 0 then
 (pw_l (0 : Int32) fun z25 =>
 pw_l (v9 + 1 : Int32) fun z26 =>
 m_L_isReadBack_58 k134 N S20 v0 v1 v2 v3 v4 va5 vi5 v6 z19 z25 z26)
 else
 (pw_l (1 : Int32) fun z27 =>
 pw_l (v9 + 1 : Int32) fun z28 =>
 m_L_isReadBack_58 k134 N S20 v0 v1 v2 v3 v4 va5 vi5 v6 z19 z27 z28))
 else
 (pw_l (0 : Int32) fun z29 =>
 pw_l (v9 + 1 : Int32) fun z30 =>
 m_L_isReadBack_58 k134 N S1 v0 v1 v2 v3 v4 va5 vi5 v6 z19 z29 z30)))
 else
 (k134 S v0 v1 v2 v3 v6 v7 v8))))
set_option maxRecDepth 100000 in
set_option maxHeartbeats 8000000 in
theorem L_L_isReadBack_58 {X : np_Ctx} (hX : np_ok RL cL_isReadBack 11 9 250 108 648 .ireturn X) {Q : Option Value → np_W → Prop} {q : Nat} {n dc ds : Nat} (hR : ∀ st w ce sl, np_rt (some .boolean) 108 648 Q st w ce sl → X.2.2.1 st w ce sl) {k134 : pw_S → Nat → Int32 → Int32 → Int32 → Int32 → Int32 → Int32 → pw_R Int32} (hk134 : ∀ (S : pw_S) (v0 : Nat) (v1 : Int32) (v2 : Int32) (v3 : Int32) (v6 : Int32) (v7 : Int32) (v8 : Int32) (f : Nat → Option np_E) (ce sl : Nat) (hv0 : pw_ok q 61 v0 = true), ce + dc ≤ 108 → sl + ds ≤ 648 → pw_W q (n, f) S → pw_p (k134 S v0 v1 v2 v3 v6 v7 v8) (fun S' r => ∀ f', pw_W q (n, f') S' → Q (some (.int r)) (n, f')) → np_G X 134 [(0, .ref (pw_pl 61 v0)), (1, .int v1), (2, .int v2), (3, .int v3), (6, .int v6), (7, .int v7), (8, .int v8)] [] (n, f) ce sl) : ∀ (N : Nat) (S : pw_S) (v0 : Nat) (v1 : Int32) (v2 : Int32) (v3 : Int32) (v4 : Int32) (va5 : Nat) (vi5 : Nat) (v6 : Int32) (v7 : Int32) (v8 : Int32) (v9 : Int32) (f : Nat → Option np_E) (ce sl : Nat) (hv0 : pw_ok q 61 v0 = true) (ha5 : pw_arr va5 = true) (hi5 : pw_ok q va5 vi5 = true), ce + N * 26 + dc ≤ 108 → sl + N * 156 + ds ≤ 648 → pw_W q (n, f) S → pw_p (m_L_isReadBack_58 k134 N S v0 v1 v2 v3 v4 va5 vi5 v6 v7 v8 v9) (fun S' r => ∀ f', pw_W q (n, f') S' → Q (some (.int r)) (n, f')) → np_G X 58 [(0, .ref (pw_pl 61 v0)), (1, .int v1), (2, .int v2), (3, .int v3), (4, .int v4), (5, .ref (pw_pl va5 vi5)), (6, .int v6), (7, .int v7), (8, .int v8), (9, .int v9)] [] (n, f) ce sl := by
  intro N
  induction N with
  | zero =>
    intro S v0 v1 v2 v3 v4 va5 vi5 v6 v7 v8 v9 f ce sl hv0 ha5 hi5 hc hs hW h
    exact (pw_pn h).elim
  | succ N ih =>
    intro S v0 v1 v2 v3 v4 va5 vi5 v6 v7 v8 v9 f ce sl hv0 ha5 hi5 hc hs hW h
    unfold m_L_isReadBack_58 at h
    refine np_soundW (so_L_isReadBack hX hR) [58, 134] 400 58 _ _ _ _ _ ?_
    conv => whnf
    refine pw_br h (fun _ h => ?_) (fun _ h => ?_)
    · conv => whnf
      exact np_gl (hk134 S v0 v1 v2 v3 v6 v7 v8 f _ _ hv0 (by omega) (by omega) hW h) ⟨rfl, rfl, rfl, rfl, rfl, rfl, rfl, trivial⟩
    · conv => whnf
      refine pw_br h (fun _ h => ?_) (fun _ h => ?_)
      · conv => whnf
        exact np_gl (hk134 S v0 v1 v2 v3 v6 v7 v8 f _ _ hv0 (by omega) (by omega) hW h) ⟨rfl, rfl, rfl, rfl, rfl, rfl, rfl, trivial⟩
      · conv => whnf
        refine pw_br h (fun _ h => ?_) (fun _ h => ?_)
        · conv => whnf
          exact np_gl (hk134 S v0 v1 v2 v3 v6 v7 v8 f _ _ hv0 (by omega) (by omega) hW h) ⟨rfl, rfl, rfl, rfl, rfl, rfl, rfl, trivial⟩
        · conv => whnf
          refine pw_br h (fun _ h => ?_) (fun _ h => ?_)
          · conv => whnf
            refine np_chk_i (pw_and rfl (pw_and rfl (pw_and rfl ((pw_and (pw_le (by omega)) (pw_le (by omega))))))) ?_
            conv => whnf
            refine ⟨q, S, v0, v1, v2, v3, v9, rfl, hv0, hW, pw_bd h (fun S1 r4 h f2 hW3 => ?_)⟩
            conv => whnf
            refine pw_st h (fun z6 h => ?_)
            conv => whnf
            refine pw_br h (fun _ h => ?_) (fun _ h => ?_)
            · conv => whnf
              refine pw_st h (fun z7 h => ?_)
              conv => whnf
              refine pw_br h (fun _ h => ?_) (fun _ h => ?_)
              · conv => whnf
                refine np_chk_i (pw_and rfl (pw_and rfl (pw_and rfl ((pw_and (pw_le (by omega)) (pw_le (by omega))))))) ?_
                conv => whnf
                refine ⟨q, S1, v0, va5, vi5, rfl, hv0, ha5, hi5, hW3, pw_bd h (fun S8 r11 h f9 hW10 => ?_)⟩
                conv => whnf
                refine pw_br h (fun _ h => ?_) (fun _ h => ?_)
                · conv => whnf
                  refine pw_st h (fun z13 h => ?_)
                  conv => whnf
                  refine pw_st h (fun z14 h => ?_)
                  conv => whnf
                  exact np_gl (ih S8 v0 v1 v2 v3 v4 va5 vi5 v6 z7 z13 z14 f9 _ _ hv0 ha5 hi5 (by omega) (by omega) hW10 h) ⟨rfl, rfl, rfl, rfl, rfl, rfl, rfl, rfl, rfl, rfl, trivial⟩
                · conv => whnf
                  refine pw_st h (fun z15 h => ?_)
                  conv => whnf
                  refine pw_st h (fun z16 h => ?_)
                  conv => whnf
                  exact np_gl (ih S8 v0 v1 v2 v3 v4 va5 vi5 v6 z7 z15 z16 f9 _ _ hv0 ha5 hi5 (by omega) (by omega) hW10 h) ⟨rfl, rfl, rfl, rfl, rfl, rfl, rfl, rfl, rfl, rfl, trivial⟩
              · conv => whnf
                refine pw_st h (fun z17 h => ?_)
                conv => whnf
                refine pw_st h (fun z18 h => ?_)
                conv => whnf
                exact np_gl (ih S1 v0 v1 v2 v3 v4 va5 vi5 v6 z7 z17 z18 f2 _ _ hv0 ha5 hi5 (by omega) (by omega) hW3 h) ⟨rfl, rfl, rfl, rfl, rfl, rfl, rfl, rfl, rfl, rfl, trivial⟩
            · conv => whnf
              refine pw_st h (fun z19 h => ?_)
              conv => whnf
              refine pw_br h (fun _ h => ?_) (fun _ h => ?_)
              · conv => whnf
                refine np_chk_i (pw_and rfl (pw_and rfl (pw_and rfl ((pw_and (pw_le (by omega)) (pw_le (by omega))))))) ?_
                conv => whnf
                refine ⟨q, S1, v0, va5, vi5, rfl, hv0, ha5, hi5, hW3, pw_bd h (fun S20 r23 h f21 hW22 => ?_)⟩
                conv => whnf
                refine pw_br h (fun _ h => ?_) (fun _ h => ?_)
                · conv => whnf
                  refine pw_st h (fun z25 h => ?_)
                  conv => whnf
                  refine pw_st h (fun z26 h => ?_)
                  conv => whnf
                  exact np_gl (ih S20 v0 v1 v2 v3 v4 va5 vi5 v6 z19 z25 z26 f21 _ _ hv0 ha5 hi5 (by omega) (by omega) hW22 h) ⟨rfl, rfl, rfl, rfl, rfl, rfl, rfl, rfl, rfl, rfl, trivial⟩
                · conv => whnf
                  refine pw_st h (fun z27 h => ?_)
                  conv => whnf
                  refine pw_st h (fun z28 h => ?_)
                  conv => whnf
                  exact np_gl (ih S20 v0 v1 v2 v3 v4 va5 vi5 v6 z19 z27 z28 f21 _ _ hv0 ha5 hi5 (by omega) (by omega) hW22 h) ⟨rfl, rfl, rfl, rfl, rfl, rfl, rfl, rfl, rfl, rfl, trivial⟩
              · conv => whnf
                refine pw_st h (fun z29 h => ?_)
                conv => whnf
                refine pw_st h (fun z30 h => ?_)
                conv => whnf
                exact np_gl (ih S1 v0 v1 v2 v3 v4 va5 vi5 v6 z19 z29 z30 f2 _ _ hv0 ha5 hi5 (by omega) (by omega) hW3 h) ⟨rfl, rfl, rfl, rfl, rfl, rfl, rfl, rfl, rfl, rfl, trivial⟩
          · conv => whnf
            exact np_gl (hk134 S v0 v1 v2 v3 v6 v7 v8 f _ _ hv0 (by omega) (by omega) hW h) ⟨rfl, rfl, rfl, rfl, rfl, rfl, rfl, trivial⟩
noncomputable def m_L_isReadBack (S : pw_S) (i0 : Nat) (x1 : Int32) (x2 : Int32) (x3 : Int32) (x4 : Int32) (a5 : Nat) (i5 : Nat) : pw_R Int32 :=
 pw_b (m_X11_readings S i0 x1 x2 x3) fun S31 r34 =>
 pw_e r34 (fun r36 =>
 (pw_l (r36 : Int32) fun z38 =>
 pw_b (m_X11_readingsAnew S31 i0 x1 x2 x3) fun S39 r42 =>
 pw_e r42 (fun r44 =>
 (if z38 = r44 then
 (pw_l (1 : Int32) fun z46 =>
 if 0 ≤ z38 then
 (pw_l (0 : Int32) fun z47 =>
 pw_l (0 : Int32) fun z48 =>
 m_L_isReadBack_58
 (fun S57 u49 u51 u52 u53 u54 u55 u56 =>
 (if u55 = 0 then
 (some (S57, 0))
 else
 (if u56 = 0 then
 (if u54 ≤ 3 then
 (some (S57, 0))
 else
 (pw_b (m_X11_sure S57 u49 u51) fun S60 r63 =>
 pw_e r63 (fun r65 =>
 (if 0 ≤ r65 then
 (if u54 = 99 then
 (some (S60, 1))
 else
 (pw_b (m_L_readsAt S60 u49 u51 u52 u53 u54) fun S67 r70 =>
 if r70 = (-70007) then
 (some (S67, 1))
 else
 (some (S67, 0))))
 else
 (if u54 = 1 then
 (if u54 = 99 then
 (some (S60, 1))
 else
 (pw_b (m_L_readsAt S60 u49 u51 u52 u53 u54) fun S72 r75 =>
 if r75 = (-70007) then
 (some (S72, 1))
 else
 (some (S72, 0))))
 else
 (some (S60, 0))))) (fun _ => none)))
 else
 (pw_b (m_X11_sure S57 u49 u51) fun S77 r80 =>
 pw_e r80 (fun r82 =>
 (if 0 ≤ r82 then
 (if u54 = 99 then
 (some (S77, 1))
 else
 (pw_b (m_L_readsAt S77 u49 u51 u52 u53 u54) fun S84 r87 =>
 if r87 = (-70007) then
 (some (S84, 1))
 else
 (some (S84, 0))))
 else
 (if u54 = 1 then
 (if u54 = 99 then
 (some (S77, 1))
 else
 (pw_b (m_L_readsAt S77 u49 u51 u52 u53 u54) fun S89 r92 =>
 if r92 = (-70007) then
 (some (S89, 1))
 else
 (some (S89, 0))))
 else
 (some (S77, 0))))) (fun _ => none))))) (pw_F 4) S39 i0 x1 x2 x3 x4 a5 i5 z38 z46 z47 z48)
 else
 (if z46 = 0 then
 (some (S39, 0))
 else
 (pw_b (m_X11_sure S39 i0 x1) fun S98 r101 =>
 pw_e r101 (fun r103 =>
 (if r103 < 0 then
 (some (S98, 0))
 else
 (some (S98, 1)))) (fun _ => none))))
 else
 (pw_l (0 : Int32) fun z105 =>
 if 0 ≤ z38 then
 (pw_l (0 : Int32) fun z106 =>
 pw_l (0 : Int32) fun z107 =>
 m_L_isReadBack_58
 (fun S116 u108 u110 u111 u112 u113 u114 u115 =>
 (if u114 = 0 then
 (some (S116, 0))
 else
 (if u115 = 0 then
 (if u113 ≤ 3 then
 (some (S116, 0))
 else
 (pw_b (m_X11_sure S116 u108 u110) fun S119 r122 =>
 pw_e r122 (fun r124 =>
 (if 0 ≤ r124 then
 (if u113 = 99 then
 (some (S119, 1))
 else
 (pw_b (m_L_readsAt S119 u108 u110 u111 u112 u113) fun S126 r129 =>
 if r129 = (-70007) then
 (some (S126, 1))
 else
 (some (S126, 0))))
 else
 (if u113 = 1 then
 (if u113 = 99 then
 (some (S119, 1))
 else
 (pw_b (m_L_readsAt S119 u108 u110 u111 u112 u113) fun S131 r134 =>
 if r134 = (-70007) then
 (some (S131, 1))
 else
 (some (S131, 0))))
 else
 (some (S119, 0))))) (fun _ => none)))
 else
 (pw_b (m_X11_sure S116 u108 u110) fun S136 r139 =>
 pw_e r139 (fun r141 =>
 (if 0 ≤ r141 then
 (if u113 = 99 then
 (some (S136, 1))
 else
 (pw_b (m_L_readsAt S136 u108 u110 u111 u112 u113) fun S143 r146 =>
 if r146 = (-70007) then
 (some (S143, 1))
 else
 (some (S143, 0))))
 else
 (if u113 = 1 then
 (if u113 = 99 then
 (some (S136, 1))
 else
 (pw_b (m_L_readsAt S136 u108 u110 u111 u112 u113) fun S148 r151 =>
 if r151 = (-70007) then
 (some (S148, 1))
 else
 (some (S148, 0))))
 else
 (some (S136, 0))))) (fun _ => none))))) (pw_F 4) S39 i0 x1 x2 x3 x4 a5 i5 z38 z105 z106 z107)
 else
 (if z105 = 0 then
 (some (S39, 0))
 else
 (pw_b (m_X11_sure S39 i0 x1) fun S157 r160 =>
 pw_e r160 (fun r162 =>
 (if r162 < 0 then
 (some (S157, 0))
 else
 (some (S157, 1)))) (fun _ => none)))))) (fun _ => none))) (fun _ => none)
def sp_L_isReadBack : np_Sp := fun vs w Q => ∃ (q : Nat) (S : pw_S) (i0 : Nat) (x1 : Int32) (x2 : Int32) (x3 : Int32) (x4 : Int32) (a5 : Nat) (i5 : Nat), vs = [.ref (pw_pl 61 i0), .int x1, .int x2, .int x3, .int x4, .ref (pw_pl a5 i5)] ∧ pw_ok q 61 i0 = true ∧ pw_arr a5 = true ∧ pw_ok q a5 i5 = true ∧ pw_W q w S ∧ pw_p (m_L_isReadBack S i0 x1 x2 x3 x4 a5 i5) (fun S' r => ∀ f', pw_W q (w.1, f') S' → Q (some (.int r)) (w.1, f'))
set_option maxRecDepth 100000 in
set_option maxHeartbeats 8000000 in
theorem C_L_isReadBack : np_C yL_isReadBack cL_isReadBack 11 (some .boolean) 9 250 108 648 (sp_L_isReadBack) := by
  refine np_of (by decide) ?_
  intro X vs w Q hsp hX hmn hRt hlt
  obtain ⟨q, S, i0, x1, x2, x3, x4, a5, i5, rfl, hi0, ha5, hi5, hW, h⟩ := hsp
  obtain ⟨n, f⟩ := w
  unfold m_L_isReadBack at h
  have hR : ∀ st w ce sl, np_rt (some .boolean) 108 648 Q st w ce sl → X.2.2.1 st w ce sl := fun _ _ _ _ h => by rw [hRt]; exact h
  refine np_soundW (so_L_isReadBack hX hR) [58] 400 0 _ _ _ _ _ ?_
  conv => whnf
  refine np_rd_i (hW.g hi0) ?_
  conv => whnf
  refine ⟨q, S, i0, x1, x2, x3, rfl, hi0, hW, pw_bd h (fun S31 r34 h f32 hW33 => ?_)⟩
  rcases r34 with r36 | e37
  · replace h := pw_ei h
    conv => whnf
    refine pw_st h (fun z38 h => ?_)
    conv => whnf
    refine np_rd_i (hW33.g hi0) ?_
    conv => whnf
    refine ⟨q, S31, i0, x1, x2, x3, rfl, hi0, hW33, pw_bd h (fun S39 r42 h f40 hW41 => ?_)⟩
    rcases r42 with r44 | e45
    · replace h := pw_ei h
      conv => whnf
      refine pw_br h (fun _ h => ?_) (fun _ h => ?_)
      · conv => whnf
        refine pw_st h (fun z46 h => ?_)
        conv => whnf
        refine pw_br h (fun _ h => ?_) (fun _ h => ?_)
        · conv => whnf
          refine pw_st h (fun z47 h => ?_)
          conv => whnf
          refine pw_st h (fun z48 h => ?_)
          conv => whnf
          refine np_gl (L_L_isReadBack_58 (dc := 2) (ds := 12) hX hR (fun S57 u49 u51 u52 u53 u54 u55 u56 f58 ce94 sl95 ho50 hc96 hs97 hW59 h => ?_) (pw_F 4) S39 i0 x1 x2 x3 x4 a5 i5 z38 z46 z47 z48 f40 _ _ hi0 ha5 hi5 (by rw [pw_F_eq]; omega) (by rw [pw_F_eq]; omega) hW41 h) ⟨rfl, rfl, rfl, rfl, rfl, rfl, rfl, rfl, rfl, rfl, trivial⟩
          · refine np_soundW (so_L_isReadBack hX hR) [58] 400 134 _ _ _ _ _ ?_
            conv => whnf
            refine pw_br h (fun _ h => ?_) (fun _ h => ?_)
            · conv => whnf
              exact ⟨(by omega), (by omega), ⟨_, rfl, by decide⟩, _, fun _ _ h9 => h9, pw_ps h _ hW59⟩
            · conv => whnf
              refine pw_br h (fun _ h => ?_) (fun _ h => ?_)
              · conv => whnf
                refine pw_br h (fun _ h => ?_) (fun _ h => ?_)
                · conv => whnf
                  exact ⟨(by omega), (by omega), ⟨_, rfl, by decide⟩, _, fun _ _ h9 => h9, pw_ps h _ hW59⟩
                · conv => whnf
                  refine np_rd_i (hW59.g ho50) ?_
                  conv => whnf
                  refine np_chk_i (pw_and rfl (pw_and rfl (pw_and rfl (pw_and rfl ((pw_and (pw_le (by omega)) (pw_le (by omega)))))))) ?_
                  conv => whnf
                  refine ⟨q, S57, u49, u51, rfl, ho50, hW59, pw_bd h (fun S60 r63 h f61 hW62 => ?_)⟩
                  rcases r63 with r65 | e66
                  · replace h := pw_ei h
                    conv => whnf
                    refine pw_br h (fun _ h => ?_) (fun _ h => ?_)
                    · conv => whnf
                      refine pw_br h (fun _ h => ?_) (fun _ h => ?_)
                      · conv => whnf
                        exact ⟨(by omega), (by omega), ⟨_, rfl, by decide⟩, _, fun _ _ h9 => h9, pw_ps h _ hW62⟩
                      · conv => whnf
                        refine np_chk_i (pw_and rfl (pw_and rfl (pw_and rfl ((pw_and (pw_le (by omega)) (pw_le (by omega))))))) ?_
                        conv => whnf
                        refine ⟨q, S60, u49, u51, u52, u53, u54, rfl, ho50, hW62, pw_bd h (fun S67 r70 h f68 hW69 => ?_)⟩
                        conv => whnf
                        refine pw_br h (fun _ h => ?_) (fun _ h => ?_)
                        · conv => whnf
                          exact ⟨(by omega), (by omega), ⟨_, rfl, by decide⟩, _, fun _ _ h9 => h9, pw_ps h _ hW69⟩
                        · conv => whnf
                          exact ⟨(by omega), (by omega), ⟨_, rfl, by decide⟩, _, fun _ _ h9 => h9, pw_ps h _ hW69⟩
                    · conv => whnf
                      refine pw_br h (fun _ h => ?_) (fun _ h => ?_)
                      · conv => whnf
                        refine pw_br h (fun _ h => ?_) (fun _ h => ?_)
                        · conv => whnf
                          exact ⟨(by omega), (by omega), ⟨_, rfl, by decide⟩, _, fun _ _ h9 => h9, pw_ps h _ hW62⟩
                        · conv => whnf
                          refine np_chk_i (pw_and rfl (pw_and rfl (pw_and rfl ((pw_and (pw_le (by omega)) (pw_le (by omega))))))) ?_
                          conv => whnf
                          refine ⟨q, S60, u49, u51, u52, u53, u54, rfl, ho50, hW62, pw_bd h (fun S72 r75 h f73 hW74 => ?_)⟩
                          conv => whnf
                          refine pw_br h (fun _ h => ?_) (fun _ h => ?_)
                          · conv => whnf
                            exact ⟨(by omega), (by omega), ⟨_, rfl, by decide⟩, _, fun _ _ h9 => h9, pw_ps h _ hW74⟩
                          · conv => whnf
                            exact ⟨(by omega), (by omega), ⟨_, rfl, by decide⟩, _, fun _ _ h9 => h9, pw_ps h _ hW74⟩
                      · conv => whnf
                        exact ⟨(by omega), (by omega), ⟨_, rfl, by decide⟩, _, fun _ _ h9 => h9, pw_ps h _ hW62⟩
                  · exact (pw_pn h).elim
              · conv => whnf
                refine np_rd_i (hW59.g ho50) ?_
                conv => whnf
                refine np_chk_i (pw_and rfl (pw_and rfl (pw_and rfl (pw_and rfl ((pw_and (pw_le (by omega)) (pw_le (by omega)))))))) ?_
                conv => whnf
                refine ⟨q, S57, u49, u51, rfl, ho50, hW59, pw_bd h (fun S77 r80 h f78 hW79 => ?_)⟩
                rcases r80 with r82 | e83
                · replace h := pw_ei h
                  conv => whnf
                  refine pw_br h (fun _ h => ?_) (fun _ h => ?_)
                  · conv => whnf
                    refine pw_br h (fun _ h => ?_) (fun _ h => ?_)
                    · conv => whnf
                      exact ⟨(by omega), (by omega), ⟨_, rfl, by decide⟩, _, fun _ _ h9 => h9, pw_ps h _ hW79⟩
                    · conv => whnf
                      refine np_chk_i (pw_and rfl (pw_and rfl (pw_and rfl ((pw_and (pw_le (by omega)) (pw_le (by omega))))))) ?_
                      conv => whnf
                      refine ⟨q, S77, u49, u51, u52, u53, u54, rfl, ho50, hW79, pw_bd h (fun S84 r87 h f85 hW86 => ?_)⟩
                      conv => whnf
                      refine pw_br h (fun _ h => ?_) (fun _ h => ?_)
                      · conv => whnf
                        exact ⟨(by omega), (by omega), ⟨_, rfl, by decide⟩, _, fun _ _ h9 => h9, pw_ps h _ hW86⟩
                      · conv => whnf
                        exact ⟨(by omega), (by omega), ⟨_, rfl, by decide⟩, _, fun _ _ h9 => h9, pw_ps h _ hW86⟩
                  · conv => whnf
                    refine pw_br h (fun _ h => ?_) (fun _ h => ?_)
                    · conv => whnf
                      refine pw_br h (fun _ h => ?_) (fun _ h => ?_)
                      · conv => whnf
                        exact ⟨(by omega), (by omega), ⟨_, rfl, by decide⟩, _, fun _ _ h9 => h9, pw_ps h _ hW79⟩
                      · conv => whnf
                        refine np_chk_i (pw_and rfl (pw_and rfl (pw_and rfl ((pw_and (pw_le (by omega)) (pw_le (by omega))))))) ?_
                        conv => whnf
                        refine ⟨q, S77, u49, u51, u52, u53, u54, rfl, ho50, hW79, pw_bd h (fun S89 r92 h f90 hW91 => ?_)⟩
                        conv => whnf
                        refine pw_br h (fun _ h => ?_) (fun _ h => ?_)
                        · conv => whnf
                          exact ⟨(by omega), (by omega), ⟨_, rfl, by decide⟩, _, fun _ _ h9 => h9, pw_ps h _ hW91⟩
                        · conv => whnf
                          exact ⟨(by omega), (by omega), ⟨_, rfl, by decide⟩, _, fun _ _ h9 => h9, pw_ps h _ hW91⟩
                    · conv => whnf
                      exact ⟨(by omega), (by omega), ⟨_, rfl, by decide⟩, _, fun _ _ h9 => h9, pw_ps h _ hW79⟩
                · exact (pw_pn h).elim
        · conv => whnf
          refine pw_br h (fun _ h => ?_) (fun _ h => ?_)
          · conv => whnf
            exact ⟨Nat.le_of_ble_eq_true rfl, Nat.le_of_ble_eq_true rfl, ⟨_, rfl, by decide⟩, _, fun _ _ h9 => h9, pw_ps h _ hW41⟩
          · conv => whnf
            refine np_rd_i (hW41.g hi0) ?_
            conv => whnf
            refine ⟨q, S39, i0, x1, rfl, hi0, hW41, pw_bd h (fun S98 r101 h f99 hW100 => ?_)⟩
            rcases r101 with r103 | e104
            · replace h := pw_ei h
              conv => whnf
              refine pw_br h (fun _ h => ?_) (fun _ h => ?_)
              · conv => whnf
                exact ⟨Nat.le_of_ble_eq_true rfl, Nat.le_of_ble_eq_true rfl, ⟨_, rfl, by decide⟩, _, fun _ _ h9 => h9, pw_ps h _ hW100⟩
              · conv => whnf
                exact ⟨Nat.le_of_ble_eq_true rfl, Nat.le_of_ble_eq_true rfl, ⟨_, rfl, by decide⟩, _, fun _ _ h9 => h9, pw_ps h _ hW100⟩
            · exact (pw_pn h).elim
      · conv => whnf
        refine pw_st h (fun z105 h => ?_)
        conv => whnf
        refine pw_br h (fun _ h => ?_) (fun _ h => ?_)
        · conv => whnf
          refine pw_st h (fun z106 h => ?_)
          conv => whnf
          refine pw_st h (fun z107 h => ?_)
          conv => whnf
          refine np_gl (L_L_isReadBack_58 (dc := 2) (ds := 12) hX hR (fun S116 u108 u110 u111 u112 u113 u114 u115 f117 ce153 sl154 ho109 hc155 hs156 hW118 h => ?_) (pw_F 4) S39 i0 x1 x2 x3 x4 a5 i5 z38 z105 z106 z107 f40 _ _ hi0 ha5 hi5 (by rw [pw_F_eq]; omega) (by rw [pw_F_eq]; omega) hW41 h) ⟨rfl, rfl, rfl, rfl, rfl, rfl, rfl, rfl, rfl, rfl, trivial⟩
          · refine np_soundW (so_L_isReadBack hX hR) [58] 400 134 _ _ _ _ _ ?_
            conv => whnf
            refine pw_br h (fun _ h => ?_) (fun _ h => ?_)
            · conv => whnf
              exact ⟨(by omega), (by omega), ⟨_, rfl, by decide⟩, _, fun _ _ h9 => h9, pw_ps h _ hW118⟩
            · conv => whnf
              refine pw_br h (fun _ h => ?_) (fun _ h => ?_)
              · conv => whnf
                refine pw_br h (fun _ h => ?_) (fun _ h => ?_)
                · conv => whnf
                  exact ⟨(by omega), (by omega), ⟨_, rfl, by decide⟩, _, fun _ _ h9 => h9, pw_ps h _ hW118⟩
                · conv => whnf
                  refine np_rd_i (hW118.g ho109) ?_
                  conv => whnf
                  refine np_chk_i (pw_and rfl (pw_and rfl (pw_and rfl (pw_and rfl ((pw_and (pw_le (by omega)) (pw_le (by omega)))))))) ?_
                  conv => whnf
                  refine ⟨q, S116, u108, u110, rfl, ho109, hW118, pw_bd h (fun S119 r122 h f120 hW121 => ?_)⟩
                  rcases r122 with r124 | e125
                  · replace h := pw_ei h
                    conv => whnf
                    refine pw_br h (fun _ h => ?_) (fun _ h => ?_)
                    · conv => whnf
                      refine pw_br h (fun _ h => ?_) (fun _ h => ?_)
                      · conv => whnf
                        exact ⟨(by omega), (by omega), ⟨_, rfl, by decide⟩, _, fun _ _ h9 => h9, pw_ps h _ hW121⟩
                      · conv => whnf
                        refine np_chk_i (pw_and rfl (pw_and rfl (pw_and rfl ((pw_and (pw_le (by omega)) (pw_le (by omega))))))) ?_
                        conv => whnf
                        refine ⟨q, S119, u108, u110, u111, u112, u113, rfl, ho109, hW121, pw_bd h (fun S126 r129 h f127 hW128 => ?_)⟩
                        conv => whnf
                        refine pw_br h (fun _ h => ?_) (fun _ h => ?_)
                        · conv => whnf
                          exact ⟨(by omega), (by omega), ⟨_, rfl, by decide⟩, _, fun _ _ h9 => h9, pw_ps h _ hW128⟩
                        · conv => whnf
                          exact ⟨(by omega), (by omega), ⟨_, rfl, by decide⟩, _, fun _ _ h9 => h9, pw_ps h _ hW128⟩
                    · conv => whnf
                      refine pw_br h (fun _ h => ?_) (fun _ h => ?_)
                      · conv => whnf
                        refine pw_br h (fun _ h => ?_) (fun _ h => ?_)
                        · conv => whnf
                          exact ⟨(by omega), (by omega), ⟨_, rfl, by decide⟩, _, fun _ _ h9 => h9, pw_ps h _ hW121⟩
                        · conv => whnf
                          refine np_chk_i (pw_and rfl (pw_and rfl (pw_and rfl ((pw_and (pw_le (by omega)) (pw_le (by omega))))))) ?_
                          conv => whnf
                          refine ⟨q, S119, u108, u110, u111, u112, u113, rfl, ho109, hW121, pw_bd h (fun S131 r134 h f132 hW133 => ?_)⟩
                          conv => whnf
                          refine pw_br h (fun _ h => ?_) (fun _ h => ?_)
                          · conv => whnf
                            exact ⟨(by omega), (by omega), ⟨_, rfl, by decide⟩, _, fun _ _ h9 => h9, pw_ps h _ hW133⟩
                          · conv => whnf
                            exact ⟨(by omega), (by omega), ⟨_, rfl, by decide⟩, _, fun _ _ h9 => h9, pw_ps h _ hW133⟩
                      · conv => whnf
                        exact ⟨(by omega), (by omega), ⟨_, rfl, by decide⟩, _, fun _ _ h9 => h9, pw_ps h _ hW121⟩
                  · exact (pw_pn h).elim
              · conv => whnf
                refine np_rd_i (hW118.g ho109) ?_
                conv => whnf
                refine np_chk_i (pw_and rfl (pw_and rfl (pw_and rfl (pw_and rfl ((pw_and (pw_le (by omega)) (pw_le (by omega)))))))) ?_
                conv => whnf
                refine ⟨q, S116, u108, u110, rfl, ho109, hW118, pw_bd h (fun S136 r139 h f137 hW138 => ?_)⟩
                rcases r139 with r141 | e142
                · replace h := pw_ei h
                  conv => whnf
                  refine pw_br h (fun _ h => ?_) (fun _ h => ?_)
                  · conv => whnf
                    refine pw_br h (fun _ h => ?_) (fun _ h => ?_)
                    · conv => whnf
                      exact ⟨(by omega), (by omega), ⟨_, rfl, by decide⟩, _, fun _ _ h9 => h9, pw_ps h _ hW138⟩
                    · conv => whnf
                      refine np_chk_i (pw_and rfl (pw_and rfl (pw_and rfl ((pw_and (pw_le (by omega)) (pw_le (by omega))))))) ?_
                      conv => whnf
                      refine ⟨q, S136, u108, u110, u111, u112, u113, rfl, ho109, hW138, pw_bd h (fun S143 r146 h f144 hW145 => ?_)⟩
                      conv => whnf
                      refine pw_br h (fun _ h => ?_) (fun _ h => ?_)
                      · conv => whnf
                        exact ⟨(by omega), (by omega), ⟨_, rfl, by decide⟩, _, fun _ _ h9 => h9, pw_ps h _ hW145⟩
                      · conv => whnf
                        exact ⟨(by omega), (by omega), ⟨_, rfl, by decide⟩, _, fun _ _ h9 => h9, pw_ps h _ hW145⟩
                  · conv => whnf
                    refine pw_br h (fun _ h => ?_) (fun _ h => ?_)
                    · conv => whnf
                      refine pw_br h (fun _ h => ?_) (fun _ h => ?_)
                      · conv => whnf
                        exact ⟨(by omega), (by omega), ⟨_, rfl, by decide⟩, _, fun _ _ h9 => h9, pw_ps h _ hW138⟩
                      · conv => whnf
                        refine np_chk_i (pw_and rfl (pw_and rfl (pw_and rfl ((pw_and (pw_le (by omega)) (pw_le (by omega))))))) ?_
                        conv => whnf
                        refine ⟨q, S136, u108, u110, u111, u112, u113, rfl, ho109, hW138, pw_bd h (fun S148 r151 h f149 hW150 => ?_)⟩
                        conv => whnf
                        refine pw_br h (fun _ h => ?_) (fun _ h => ?_)
                        · conv => whnf
                          exact ⟨(by omega), (by omega), ⟨_, rfl, by decide⟩, _, fun _ _ h9 => h9, pw_ps h _ hW150⟩
                        · conv => whnf
                          exact ⟨(by omega), (by omega), ⟨_, rfl, by decide⟩, _, fun _ _ h9 => h9, pw_ps h _ hW150⟩
                    · conv => whnf
                      exact ⟨(by omega), (by omega), ⟨_, rfl, by decide⟩, _, fun _ _ h9 => h9, pw_ps h _ hW138⟩
                · exact (pw_pn h).elim
        · conv => whnf
          refine pw_br h (fun _ h => ?_) (fun _ h => ?_)
          · conv => whnf
            exact ⟨Nat.le_of_ble_eq_true rfl, Nat.le_of_ble_eq_true rfl, ⟨_, rfl, by decide⟩, _, fun _ _ h9 => h9, pw_ps h _ hW41⟩
          · conv => whnf
            refine np_rd_i (hW41.g hi0) ?_
            conv => whnf
            refine ⟨q, S39, i0, x1, rfl, hi0, hW41, pw_bd h (fun S157 r160 h f158 hW159 => ?_)⟩
            rcases r160 with r162 | e163
            · replace h := pw_ei h
              conv => whnf
              refine pw_br h (fun _ h => ?_) (fun _ h => ?_)
              · conv => whnf
                exact ⟨Nat.le_of_ble_eq_true rfl, Nat.le_of_ble_eq_true rfl, ⟨_, rfl, by decide⟩, _, fun _ _ h9 => h9, pw_ps h _ hW159⟩
              · conv => whnf
                exact ⟨Nat.le_of_ble_eq_true rfl, Nat.le_of_ble_eq_true rfl, ⟨_, rfl, by decide⟩, _, fun _ _ h9 => h9, pw_ps h _ hW159⟩
            · exact (pw_pn h).elim
    · exact (pw_pn h).elim
  · exact (pw_pn h).elim
