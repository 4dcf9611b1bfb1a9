theorem dL_describes_0 : decode cL_describes 0 = .ok (.aload_n 3, 1) := by decide +kernel
theorem dL_describes_1 : decode cL_describes 1 = .ok (.iconst 0, 1) := by decide +kernel
theorem dL_describes_2 : decode cL_describes 2 = .ok (.iaload, 1) := by decide +kernel
theorem dL_describes_3 : decode cL_describes 3 = .ok (.iconst 4, 1) := by decide +kernel
theorem dL_describes_4 : decode cL_describes 4 = .ok (.if_icmp .ne 5, 3) := by decide +kernel
theorem dL_describes_7 : decode cL_describes 7 = .ok (.iconst 1, 1) := by decide +kernel
theorem dL_describes_8 : decode cL_describes 8 = .ok (.ireturn, 1) := by decide +kernel
theorem dL_describes_9 : decode cL_describes 9 = .ok (.iconst 2, 1) := by decide +kernel
theorem dL_describes_10 : decode cL_describes 10 = .ok (.iload_n 1, 1) := by decide +kernel
theorem dL_describes_11 : decode cL_describes 11 = .ok (.iconst 5, 1) := by decide +kernel
theorem dL_describes_12 : decode cL_describes 12 = .ok (.irem, 1) := by decide +kernel
theorem dL_describes_13 : decode cL_describes 13 = .ok (.iadd, 1) := by decide +kernel
theorem dL_describes_14 : decode cL_describes 14 = .ok (.istore 4, 2) := by decide +kernel
theorem dL_describes_16 : decode cL_describes 16 = .ok (.aload_n 0, 1) := by decide +kernel
theorem dL_describes_17 : decode cL_describes 17 = .ok (.invokevirtual 58, 3) := by decide +kernel
theorem dL_describes_20 : decode cL_describes 20 = .ok (.istore 5, 2) := by decide +kernel
theorem dL_describes_22 : decode cL_describes 22 = .ok (.iconst 0, 1) := by decide +kernel
theorem dL_describes_23 : decode cL_describes 23 = .ok (.istore 6, 2) := by decide +kernel
theorem dL_describes_25 : decode cL_describes 25 = .ok (.iload_n 1, 1) := by decide +kernel
theorem dL_describes_26 : decode cL_describes 26 = .ok (.iconst 5, 1) := by decide +kernel
theorem dL_describes_27 : decode cL_describes 27 = .ok (.idiv, 1) := by decide +kernel
theorem dL_describes_28 : decode cL_describes 28 = .ok (.iload_n 2, 1) := by decide +kernel
theorem dL_describes_29 : decode cL_describes 29 = .ok (.ixor, 1) := by decide +kernel
theorem dL_describes_30 : decode cL_describes 30 = .ok (.istore 7, 2) := by decide +kernel
theorem dL_describes_32 : decode cL_describes 32 = .ok (.iconst 0, 1) := by decide +kernel
theorem dL_describes_33 : decode cL_describes 33 = .ok (.istore 8, 2) := by decide +kernel
theorem dL_describes_35 : decode cL_describes 35 = .ok (.iload 8, 2) := by decide +kernel
theorem dL_describes_37 : decode cL_describes 37 = .ok (.iload 4, 2) := by decide +kernel
theorem dL_describes_39 : decode cL_describes 39 = .ok (.if_icmp .ge 359, 3) := by decide +kernel
theorem dL_describes_42 : decode cL_describes 42 = .ok (.iload 7, 2) := by decide +kernel
theorem dL_describes_44 : decode cL_describes 44 = .ok (.bipush 11, 2) := by decide +kernel
theorem dL_describes_46 : decode cL_describes 46 = .ok (.irem, 1) := by decide +kernel
theorem dL_describes_47 : decode cL_describes 47 = .ok (.istore 9, 2) := by decide +kernel
theorem dL_describes_49 : decode cL_describes 49 = .ok (.iload 9, 2) := by decide +kernel
theorem dL_describes_51 : decode cL_describes 51 = .ok (.bipush 10, 2) := by decide +kernel
theorem dL_describes_53 : decode cL_describes 53 = .ok (.if_icmp .ne 7, 3) := by decide +kernel
theorem dL_describes_56 : decode cL_describes 56 = .ok (.iconst 0, 1) := by decide +kernel
theorem dL_describes_57 : decode cL_describes 57 = .ok (.goto 5, 3) := by decide +kernel
theorem dL_describes_60 : decode cL_describes 60 = .ok (.iload 9, 2) := by decide +kernel
theorem dL_describes_62 : decode cL_describes 62 = .ok (.istore 9, 2) := by decide +kernel
theorem dL_describes_64 : decode cL_describes 64 = .ok (.iload 9, 2) := by decide +kernel
theorem dL_describes_66 : decode cL_describes 66 = .ok (.ifCond .ne 30, 3) := by decide +kernel
theorem dL_describes_69 : decode cL_describes 69 = .ok (.aload_n 0, 1) := by decide +kernel
theorem dL_describes_70 : decode cL_describes 70 = .ok (.iconst 0, 1) := by decide +kernel
theorem dL_describes_71 : decode cL_describes 71 = .ok (.iload 8, 2) := by decide +kernel
theorem dL_describes_73 : decode cL_describes 73 = .ok (.iconst 2, 1) := by decide +kernel
theorem dL_describes_74 : decode cL_describes 74 = .ok (.iload 7, 2) := by decide +kernel
theorem dL_describes_76 : decode cL_describes 76 = .ok (.bipush 11, 2) := by decide +kernel
theorem dL_describes_78 : decode cL_describes 78 = .ok (.idiv, 1) := by decide +kernel
theorem dL_describes_79 : decode cL_describes 79 = .ok (.iconst 5, 1) := by decide +kernel
theorem dL_describes_80 : decode cL_describes 80 = .ok (.irem, 1) := by decide +kernel
theorem dL_describes_81 : decode cL_describes 81 = .ok (.iadd, 1) := by decide +kernel
theorem dL_describes_82 : decode cL_describes 82 = .ok (.iload 7, 2) := by decide +kernel
theorem dL_describes_84 : decode cL_describes 84 = .ok (.bipush 55, 2) := by decide +kernel
theorem dL_describes_86 : decode cL_describes 86 = .ok (.idiv, 1) := by decide +kernel
theorem dL_describes_87 : decode cL_describes 87 = .ok (.bipush 9, 2) := by decide +kernel
theorem dL_describes_89 : decode cL_describes 89 = .ok (.irem, 1) := by decide +kernel
theorem dL_describes_90 : decode cL_describes 90 = .ok (.invokestatic 62, 3) := by decide +kernel
theorem dL_describes_93 : decode cL_describes 93 = .ok (.goto 249, 3) := by decide +kernel
theorem dL_describes_96 : decode cL_describes 96 = .ok (.iload 9, 2) := by decide +kernel
theorem dL_describes_98 : decode cL_describes 98 = .ok (.iconst 1, 1) := by decide +kernel
theorem dL_describes_99 : decode cL_describes 99 = .ok (.if_icmp .ne 29, 3) := by decide +kernel
theorem dL_describes_102 : decode cL_describes 102 = .ok (.aload_n 0, 1) := by decide +kernel
theorem dL_describes_103 : decode cL_describes 103 = .ok (.iconst 1, 1) := by decide +kernel
theorem dL_describes_104 : decode cL_describes 104 = .ok (.iload 8, 2) := by decide +kernel
theorem dL_describes_106 : decode cL_describes 106 = .ok (.iconst 1, 1) := by decide +kernel
theorem dL_describes_107 : decode cL_describes 107 = .ok (.iload 7, 2) := by decide +kernel
theorem dL_describes_109 : decode cL_describes 109 = .ok (.bipush 11, 2) := by decide +kernel
theorem dL_describes_111 : decode cL_describes 111 = .ok (.idiv, 1) := by decide +kernel
theorem dL_describes_112 : decode cL_describes 112 = .ok (.iconst 5, 1) := by decide +kernel
theorem dL_describes_113 : decode cL_describes 113 = .ok (.irem, 1) := by decide +kernel
theorem dL_describes_114 : decode cL_describes 114 = .ok (.iadd, 1) := by decide +kernel
theorem dL_describes_115 : decode cL_describes 115 = .ok (.iload 7, 2) := by decide +kernel
theorem dL_describes_117 : decode cL_describes 117 = .ok (.bipush 55, 2) := by decide +kernel
theorem dL_describes_119 : decode cL_describes 119 = .ok (.idiv, 1) := by decide +kernel
theorem dL_describes_120 : decode cL_describes 120 = .ok (.iconst 3, 1) := by decide +kernel
theorem dL_describes_121 : decode cL_describes 121 = .ok (.irem, 1) := by decide +kernel
theorem dL_describes_122 : decode cL_describes 122 = .ok (.invokestatic 62, 3) := by decide +kernel
theorem dL_describes_125 : decode cL_describes 125 = .ok (.goto 217, 3) := by decide +kernel
theorem dL_describes_128 : decode cL_describes 128 = .ok (.iload 9, 2) := by decide +kernel
theorem dL_describes_130 : decode cL_describes 130 = .ok (.iconst 2, 1) := by decide +kernel
theorem dL_describes_131 : decode cL_describes 131 = .ok (.if_icmp .ne 39, 3) := by decide +kernel
theorem dL_describes_134 : decode cL_describes 134 = .ok (.aload_n 0, 1) := by decide +kernel
theorem dL_describes_135 : decode cL_describes 135 = .ok (.iconst 2, 1) := by decide +kernel
theorem dL_describes_136 : decode cL_describes 136 = .ok (.iload 8, 2) := by decide +kernel
theorem dL_describes_138 : decode cL_describes 138 = .ok (.iload 7, 2) := by decide +kernel
theorem dL_describes_140 : decode cL_describes 140 = .ok (.bipush 11, 2) := by decide +kernel
theorem dL_describes_142 : decode cL_describes 142 = .ok (.idiv, 1) := by decide +kernel
theorem dL_describes_143 : decode cL_describes 143 = .ok (.iconst 3, 1) := by decide +kernel
theorem dL_describes_144 : decode cL_describes 144 = .ok (.irem, 1) := by decide +kernel
theorem dL_describes_145 : decode cL_describes 145 = .ok (.ifCond .ne 8, 3) := by decide +kernel
theorem dL_describes_148 : decode cL_describes 148 = .ok (.bipush 98, 2) := by decide +kernel
theorem dL_describes_150 : decode cL_describes 150 = .ok (.goto 13, 3) := by decide +kernel
theorem dL_describes_153 : decode cL_describes 153 = .ok (.bipush 59, 2) := by decide +kernel
theorem dL_describes_155 : decode cL_describes 155 = .ok (.iload 7, 2) := by decide +kernel
theorem dL_describes_157 : decode cL_describes 157 = .ok (.bipush 33, 2) := by decide +kernel
theorem dL_describes_159 : decode cL_describes 159 = .ok (.idiv, 1) := by decide +kernel
theorem dL_describes_160 : decode cL_describes 160 = .ok (.iconst 4, 1) := by decide +kernel
theorem dL_describes_161 : decode cL_describes 161 = .ok (.irem, 1) := by decide +kernel
theorem dL_describes_162 : decode cL_describes 162 = .ok (.iadd, 1) := by decide +kernel
theorem dL_describes_163 : decode cL_describes 163 = .ok (.iconst 0, 1) := by decide +kernel
theorem dL_describes_164 : decode cL_describes 164 = .ok (.invokestatic 62, 3) := by decide +kernel
theorem dL_describes_167 : decode cL_describes 167 = .ok (.goto 175, 3) := by decide +kernel
theorem dL_describes_170 : decode cL_describes 170 = .ok (.iload 9, 2) := by decide +kernel
theorem dL_describes_172 : decode cL_describes 172 = .ok (.iconst 3, 1) := by decide +kernel
theorem dL_describes_173 : decode cL_describes 173 = .ok (.if_icmp .ne 23, 3) := by decide +kernel
theorem dL_describes_176 : decode cL_describes 176 = .ok (.aload_n 0, 1) := by decide +kernel
theorem dL_describes_177 : decode cL_describes 177 = .ok (.iconst 3, 1) := by decide +kernel
theorem dL_describes_178 : decode cL_describes 178 = .ok (.iload 8, 2) := by decide +kernel
theorem dL_describes_180 : decode cL_describes 180 = .ok (.iconst 1, 1) := by decide +kernel
theorem dL_describes_181 : decode cL_describes 181 = .ok (.iload 7, 2) := by decide +kernel
theorem dL_describes_183 : decode cL_describes 183 = .ok (.bipush 11, 2) := by decide +kernel
theorem dL_describes_185 : decode cL_describes 185 = .ok (.idiv, 1) := by decide +kernel
theorem dL_describes_186 : decode cL_describes 186 = .ok (.iconst 4, 1) := by decide +kernel
theorem dL_describes_187 : decode cL_describes 187 = .ok (.irem, 1) := by decide +kernel
theorem dL_describes_188 : decode cL_describes 188 = .ok (.iadd, 1) := by decide +kernel
theorem dL_describes_189 : decode cL_describes 189 = .ok (.iconst 0, 1) := by decide +kernel
theorem dL_describes_190 : decode cL_describes 190 = .ok (.invokestatic 62, 3) := by decide +kernel
theorem dL_describes_193 : decode cL_describes 193 = .ok (.goto 149, 3) := by decide +kernel
theorem dL_describes_196 : decode cL_describes 196 = .ok (.iload 9, 2) := by decide +kernel
theorem dL_describes_198 : decode cL_describes 198 = .ok (.iconst 4, 1) := by decide +kernel
theorem dL_describes_199 : decode cL_describes 199 = .ok (.if_icmp .ne 14, 3) := by decide +kernel
theorem dL_describes_202 : decode cL_describes 202 = .ok (.aload_n 0, 1) := by decide +kernel
theorem dL_describes_203 : decode cL_describes 203 = .ok (.iconst 4, 1) := by decide +kernel
theorem dL_describes_204 : decode cL_describes 204 = .ok (.iconst 0, 1) := by decide +kernel
theorem dL_describes_205 : decode cL_describes 205 = .ok (.iconst 0, 1) := by decide +kernel
theorem dL_describes_206 : decode cL_describes 206 = .ok (.iconst 0, 1) := by decide +kernel
theorem dL_describes_207 : decode cL_describes 207 = .ok (.invokestatic 62, 3) := by decide +kernel
theorem dL_describes_210 : decode cL_describes 210 = .ok (.goto 132, 3) := by decide +kernel
theorem dL_describes_213 : decode cL_describes 213 = .ok (.iload 9, 2) := by decide +kernel
theorem dL_describes_215 : decode cL_describes 215 = .ok (.iconst 5, 1) := by decide +kernel
theorem dL_describes_216 : decode cL_describes 216 = .ok (.if_icmp .ne 24, 3) := by decide +kernel
theorem dL_describes_219 : decode cL_describes 219 = .ok (.aload_n 0, 1) := by decide +kernel
theorem dL_describes_220 : decode cL_describes 220 = .ok (.iconst 5, 1) := by decide +kernel
theorem dL_describes_221 : decode cL_describes 221 = .ok (.bipush 32, 2) := by decide +kernel
theorem dL_describes_223 : decode cL_describes 223 = .ok (.iload 7, 2) := by decide +kernel
theorem dL_describes_225 : decode cL_describes 225 = .ok (.bipush 11, 2) := by decide +kernel
theorem dL_describes_227 : decode cL_describes 227 = .ok (.idiv, 1) := by decide +kernel
theorem dL_describes_228 : decode cL_describes 228 = .ok (.bipush 95, 2) := by decide +kernel
theorem dL_describes_230 : decode cL_describes 230 = .ok (.irem, 1) := by decide +kernel
theorem dL_describes_231 : decode cL_describes 231 = .ok (.iadd, 1) := by decide +kernel
theorem dL_describes_232 : decode cL_describes 232 = .ok (.iconst 0, 1) := by decide +kernel
theorem dL_describes_233 : decode cL_describes 233 = .ok (.iconst 0, 1) := by decide +kernel
theorem dL_describes_234 : decode cL_describes 234 = .ok (.invokestatic 62, 3) := by decide +kernel
theorem dL_describes_237 : decode cL_describes 237 = .ok (.goto 105, 3) := by decide +kernel
theorem dL_describes_240 : decode cL_describes 240 = .ok (.iload 9, 2) := by decide +kernel
theorem dL_describes_242 : decode cL_describes 242 = .ok (.bipush 6, 2) := by decide +kernel
theorem dL_describes_244 : decode cL_describes 244 = .ok (.if_icmp .ne 16, 3) := by decide +kernel
theorem dL_describes_247 : decode cL_describes 247 = .ok (.aload_n 0, 1) := by decide +kernel
theorem dL_describes_248 : decode cL_describes 248 = .ok (.bipush 6, 2) := by decide +kernel
theorem dL_describes_250 : decode cL_describes 250 = .ok (.iload 8, 2) := by decide +kernel
theorem dL_describes_252 : decode cL_describes 252 = .ok (.iconst 0, 1) := by decide +kernel
theorem dL_describes_253 : decode cL_describes 253 = .ok (.iconst 0, 1) := by decide +kernel
theorem dL_describes_254 : decode cL_describes 254 = .ok (.invokestatic 62, 3) := by decide +kernel
theorem dL_describes_257 : decode cL_describes 257 = .ok (.goto 85, 3) := by decide +kernel
theorem dL_describes_260 : decode cL_describes 260 = .ok (.iload 9, 2) := by decide +kernel
theorem dL_describes_262 : decode cL_describes 262 = .ok (.bipush 7, 2) := by decide +kernel
theorem dL_describes_264 : decode cL_describes 264 = .ok (.if_icmp .ne 30, 3) := by decide +kernel
theorem dL_describes_267 : decode cL_describes 267 = .ok (.aload_n 0, 1) := by decide +kernel
theorem dL_describes_268 : decode cL_describes 268 = .ok (.bipush 7, 2) := by decide +kernel
theorem dL_describes_270 : decode cL_describes 270 = .ok (.iload 7, 2) := by decide +kernel
theorem dL_describes_272 : decode cL_describes 272 = .ok (.bipush 11, 2) := by decide +kernel
theorem dL_describes_274 : decode cL_describes 274 = .ok (.idiv, 1) := by decide +kernel
theorem dL_describes_275 : decode cL_describes 275 = .ok (.iload 4, 2) := by decide +kernel
theorem dL_describes_277 : decode cL_describes 277 = .ok (.irem, 1) := by decide +kernel
theorem dL_describes_278 : decode cL_describes 278 = .ok (.iconst 1, 1) := by decide +kernel
theorem dL_describes_279 : decode cL_describes 279 = .ok (.iload 7, 2) := by decide +kernel
theorem dL_describes_281 : decode cL_describes 281 = .ok (.bipush 88, 2) := by decide +kernel
theorem dL_describes_283 : decode cL_describes 283 = .ok (.idiv, 1) := by decide +kernel
theorem dL_describes_284 : decode cL_describes 284 = .ok (.iconst 2, 1) := by decide +kernel
theorem dL_describes_285 : decode cL_describes 285 = .ok (.irem, 1) := by decide +kernel
theorem dL_describes_286 : decode cL_describes 286 = .ok (.iadd, 1) := by decide +kernel
theorem dL_describes_287 : decode cL_describes 287 = .ok (.iconst 0, 1) := by decide +kernel
theorem dL_describes_288 : decode cL_describes 288 = .ok (.invokestatic 62, 3) := by decide +kernel
theorem dL_describes_291 : decode cL_describes 291 = .ok (.goto 51, 3) := by decide +kernel
theorem dL_describes_294 : decode cL_describes 294 = .ok (.iload 9, 2) := by decide +kernel
theorem dL_describes_296 : decode cL_describes 296 = .ok (.bipush 8, 2) := by decide +kernel
theorem dL_describes_298 : decode cL_describes 298 = .ok (.if_icmp .ne 28, 3) := by decide +kernel
theorem dL_describes_301 : decode cL_describes 301 = .ok (.aload_n 0, 1) := by decide +kernel
theorem dL_describes_302 : decode cL_describes 302 = .ok (.bipush 8, 2) := by decide +kernel
theorem dL_describes_304 : decode cL_describes 304 = .ok (.iload 7, 2) := by decide +kernel
theorem dL_describes_306 : decode cL_describes 306 = .ok (.bipush 11, 2) := by decide +kernel
theorem dL_describes_308 : decode cL_describes 308 = .ok (.idiv, 1) := by decide +kernel
theorem dL_describes_309 : decode cL_describes 309 = .ok (.iload 4, 2) := by decide +kernel
theorem dL_describes_311 : decode cL_describes 311 = .ok (.irem, 1) := by decide +kernel
theorem dL_describes_312 : decode cL_describes 312 = .ok (.iconst 1, 1) := by decide +kernel
theorem dL_describes_313 : decode cL_describes 313 = .ok (.iload 7, 2) := by decide +kernel
theorem dL_describes_315 : decode cL_describes 315 = .ok (.bipush 88, 2) := by decide +kernel
theorem dL_describes_317 : decode cL_describes 317 = .ok (.idiv, 1) := by decide +kernel
theorem dL_describes_318 : decode cL_describes 318 = .ok (.iconst 4, 1) := by decide +kernel
theorem dL_describes_319 : decode cL_describes 319 = .ok (.irem, 1) := by decide +kernel
theorem dL_describes_320 : decode cL_describes 320 = .ok (.invokestatic 62, 3) := by decide +kernel
theorem dL_describes_323 : decode cL_describes 323 = .ok (.goto 19, 3) := by decide +kernel
theorem dL_describes_326 : decode cL_describes 326 = .ok (.aload_n 0, 1) := by decide +kernel
theorem dL_describes_327 : decode cL_describes 327 = .ok (.bipush 9, 2) := by decide +kernel
theorem dL_describes_329 : decode cL_describes 329 = .ok (.iload 7, 2) := by decide +kernel
theorem dL_describes_331 : decode cL_describes 331 = .ok (.bipush 11, 2) := by decide +kernel
theorem dL_describes_333 : decode cL_describes 333 = .ok (.idiv, 1) := by decide +kernel
theorem dL_describes_334 : decode cL_describes 334 = .ok (.iload 4, 2) := by decide +kernel
theorem dL_describes_336 : decode cL_describes 336 = .ok (.irem, 1) := by decide +kernel
theorem dL_describes_337 : decode cL_describes 337 = .ok (.iconst 0, 1) := by decide +kernel
theorem dL_describes_338 : decode cL_describes 338 = .ok (.iconst 0, 1) := by decide +kernel
theorem dL_describes_339 : decode cL_describes 339 = .ok (.invokestatic 62, 3) := by decide +kernel
theorem dL_describes_342 : decode cL_describes 342 = .ok (.istore 10, 2) := by decide +kernel
theorem dL_describes_344 : decode cL_describes 344 = .ok (.iload 6, 2) := by decide +kernel
theorem dL_describes_346 : decode cL_describes 346 = .ok (.iload 10, 2) := by decide +kernel
theorem dL_describes_348 : decode cL_describes 348 = .ok (.ifCond .lt 7, 3) := by decide +kernel
theorem dL_describes_351 : decode cL_describes 351 = .ok (.iconst 1, 1) := by decide +kernel
theorem dL_describes_352 : decode cL_describes 352 = .ok (.goto 4, 3) := by decide +kernel
theorem dL_describes_355 : decode cL_describes 355 = .ok (.iconst 0, 1) := by decide +kernel
theorem dL_describes_356 : decode cL_describes 356 = .ok (.iadd, 1) := by decide +kernel
theorem dL_describes_357 : decode cL_describes 357 = .ok (.istore 6, 2) := by decide +kernel
theorem dL_describes_359 : decode cL_describes 359 = .ok (.iload 10, 2) := by decide +kernel
theorem dL_describes_361 : decode cL_describes 361 = .ok (.ifCond .lt 12, 3) := by decide +kernel
theorem dL_describes_364 : decode cL_describes 364 = .ok (.iload 10, 2) := by decide +kernel
theorem dL_describes_366 : decode cL_describes 366 = .ok (.iload 6, 2) := by decide +kernel
theorem dL_describes_368 : decode cL_describes 368 = .ok (.if_icmp .eq 5, 3) := by decide +kernel
theorem dL_describes_371 : decode cL_describes 371 = .ok (.iconst 0, 1) := by decide +kernel
theorem dL_describes_372 : decode cL_describes 372 = .ok (.ireturn, 1) := by decide +kernel
theorem dL_describes_373 : decode cL_describes 373 = .ok (.iload 7, 2) := by decide +kernel
theorem dL_describes_375 : decode cL_describes 375 = .ok (.iconst 3, 1) := by decide +kernel
theorem dL_describes_376 : decode cL_describes 376 = .ok (.ishr, 1) := by decide +kernel
theorem dL_describes_377 : decode cL_describes 377 = .ok (.sipush 7919, 3) := by decide +kernel
theorem dL_describes_380 : decode cL_describes 380 = .ok (.iload_n 2, 1) := by decide +kernel
theorem dL_describes_381 : decode cL_describes 381 = .ok (.sipush 1000, 3) := by decide +kernel
theorem dL_describes_384 : decode cL_describes 384 = .ok (.irem, 1) := by decide +kernel
theorem dL_describes_385 : decode cL_describes 385 = .ok (.iload 8, 2) := by decide +kernel
theorem dL_describes_387 : decode cL_describes 387 = .ok (.iadd, 1) := by decide +kernel
theorem dL_describes_388 : decode cL_describes 388 = .ok (.imul, 1) := by decide +kernel
theorem dL_describes_389 : decode cL_describes 389 = .ok (.iadd, 1) := by decide +kernel
theorem dL_describes_390 : decode cL_describes 390 = .ok (.istore 7, 2) := by decide +kernel
theorem dL_describes_392 : decode cL_describes 392 = .ok (.iinc 8 1, 3) := by decide +kernel
theorem dL_describes_395 : decode cL_describes 395 = .ok (.goto (-360), 3) := by decide +kernel
theorem dL_describes_398 : decode cL_describes 398 = .ok (.aload_n 0, 1) := by decide +kernel
theorem dL_describes_399 : decode cL_describes 399 = .ok (.invokevirtual 65, 3) := by decide +kernel
theorem dL_describes_402 : decode cL_describes 402 = .ok (.istore 8, 2) := by decide +kernel
theorem dL_describes_404 : decode cL_describes 404 = .ok (.iload 8, 2) := by decide +kernel
theorem dL_describes_406 : decode cL_describes 406 = .ok (.ifCond .ge 7, 3) := by decide +kernel
theorem dL_describes_409 : decode cL_describes 409 = .ok (.iconst (-1), 1) := by decide +kernel
theorem dL_describes_410 : decode cL_describes 410 = .ok (.goto 9, 3) := by decide +kernel
theorem dL_describes_413 : decode cL_describes 413 = .ok (.aload_n 0, 1) := by decide +kernel
theorem dL_describes_414 : decode cL_describes 414 = .ok (.iload 8, 2) := by decide +kernel
theorem dL_describes_416 : decode cL_describes 416 = .ok (.invokevirtual 68, 3) := by decide +kernel
theorem dL_describes_419 : decode cL_describes 419 = .ok (.istore 9, 2) := by decide +kernel
theorem dL_describes_421 : decode cL_describes 421 = .ok (.iload 5, 2) := by decide +kernel
theorem dL_describes_423 : decode cL_describes 423 = .ok (.ifCond .lt 57, 3) := by decide +kernel
theorem dL_describes_426 : decode cL_describes 426 = .ok (.iload 8, 2) := by decide +kernel
theorem dL_describes_428 : decode cL_describes 428 = .ok (.iconst (-1), 1) := by decide +kernel
theorem dL_describes_429 : decode cL_describes 429 = .ok (.if_icmp .eq 16, 3) := by decide +kernel
theorem dL_describes_432 : decode cL_describes 432 = .ok (.iload 8, 2) := by decide +kernel
theorem dL_describes_434 : decode cL_describes 434 = .ok (.aload_n 3, 1) := by decide +kernel
theorem dL_describes_435 : decode cL_describes 435 = .ok (.iconst 0, 1) := by decide +kernel
theorem dL_describes_436 : decode cL_describes 436 = .ok (.iaload, 1) := by decide +kernel
theorem dL_describes_437 : decode cL_describes 437 = .ok (.if_icmp .ne 43, 3) := by decide +kernel
theorem dL_describes_440 : decode cL_describes 440 = .ok (.iload 6, 2) := by decide +kernel
theorem dL_describes_442 : decode cL_describes 442 = .ok (.ifCond .le 38, 3) := by decide +kernel
theorem dL_describes_445 : decode cL_describes 445 = .ok (.iload 9, 2) := by decide +kernel
theorem dL_describes_447 : decode cL_describes 447 = .ok (.iload 6, 2) := by decide +kernel
theorem dL_describes_449 : decode cL_describes 449 = .ok (.if_icmp .ge 31, 3) := by decide +kernel
theorem dL_describes_452 : decode cL_describes 452 = .ok (.iload 9, 2) := by decide +kernel
theorem dL_describes_454 : decode cL_describes 454 = .ok (.iconst (-1), 1) := by decide +kernel
theorem dL_describes_455 : decode cL_describes 455 = .ok (.if_icmp .lt 25, 3) := by decide +kernel
theorem dL_describes_458 : decode cL_describes 458 = .ok (.aload_n 0, 1) := by decide +kernel
theorem dL_describes_459 : decode cL_describes 459 = .ok (.invokevirtual 58, 3) := by decide +kernel
theorem dL_describes_462 : decode cL_describes 462 = .ok (.iload 8, 2) := by decide +kernel
theorem dL_describes_464 : decode cL_describes 464 = .ok (.ifCond .ge 8, 3) := by decide +kernel
theorem dL_describes_467 : decode cL_describes 467 = .ok (.iload 6, 2) := by decide +kernel
theorem dL_describes_469 : decode cL_describes 469 = .ok (.goto 4, 3) := by decide +kernel
theorem dL_describes_472 : decode cL_describes 472 = .ok (.iconst 0, 1) := by decide +kernel
theorem dL_describes_473 : decode cL_describes 473 = .ok (.if_icmp .ne 7, 3) := by decide +kernel
theorem dL_describes_476 : decode cL_describes 476 = .ok (.iconst 1, 1) := by decide +kernel
theorem dL_describes_477 : decode cL_describes 477 = .ok (.goto 4, 3) := by decide +kernel
theorem dL_describes_480 : decode cL_describes 480 = .ok (.iconst 0, 1) := by decide +kernel
theorem dL_describes_481 : decode cL_describes 481 = .ok (.istore 10, 2) := by decide +kernel
theorem dL_describes_483 : decode cL_describes 483 = .ok (.aload_n 3, 1) := by decide +kernel
theorem dL_describes_484 : decode cL_describes 484 = .ok (.iconst 0, 1) := by decide +kernel
theorem dL_describes_485 : decode cL_describes 485 = .ok (.dup2, 1) := by decide +kernel
theorem dL_describes_486 : decode cL_describes 486 = .ok (.iaload, 1) := by decide +kernel
theorem dL_describes_487 : decode cL_describes 487 = .ok (.iload 8, 2) := by decide +kernel
theorem dL_describes_489 : decode cL_describes 489 = .ok (.ifCond .lt 7, 3) := by decide +kernel
theorem dL_describes_492 : decode cL_describes 492 = .ok (.iconst 1, 1) := by decide +kernel
theorem dL_describes_493 : decode cL_describes 493 = .ok (.goto 4, 3) := by decide +kernel
theorem dL_describes_496 : decode cL_describes 496 = .ok (.iconst 0, 1) := by decide +kernel
theorem dL_describes_497 : decode cL_describes 497 = .ok (.iadd, 1) := by decide +kernel
theorem dL_describes_498 : decode cL_describes 498 = .ok (.iastore, 1) := by decide +kernel
theorem dL_describes_499 : decode cL_describes 499 = .ok (.iload 10, 2) := by decide +kernel
theorem dL_describes_501 : decode cL_describes 501 = .ok (.ireturn, 1) := by decide +kernel
def is_L_describes (Rt : np_Rt) : List (Nat × np_Op) := [(0, np_ald 1 3), (1, np_push 1 (.int 0)), (2, nw_ialdT .int), (3, np_push 1 (.int 4)), (4, nq_icne 9), (7, np_push 1 (.int 1)), (8, np_ret Rt), (9, np_push 1 (.int 2)), (10, np_ild 1 1), (11, np_push 1 (.int 5)), (12, nq_ibn (fun x y => x - x / y * y)), (13, np_ib (fun x y => x + y)), (14, nw_ist 2 4), (16, np_ald 1 0), (17, nw_callV 11 1 sp_X11_dropItems 2 0 0 9 54), (20, nw_ist 2 5), (22, np_push 1 (.int 0)), (23, nw_ist 2 6), (25, np_ild 1 1), (26, np_push 1 (.int 5)), (27, nq_ibn (fun x y => x / y)), (28, np_ild 1 2), (29, np_ib (fun x y => x ^^^ y)), (30, nw_ist 2 7), (32, np_push 1 (.int 0)), (33, nw_ist 2 8), (35, np_ild 2 8), (37, np_ild 2 4), (39, nq_ic (fun x y => y ≤ x) 398), (42, np_ild 2 7), (44, np_push 2 (.int 11)), (46, nq_ibn (fun x y => x - x / y * y)), (47, nw_ist 2 9), (49, np_ild 2 9), (51, np_push 2 (.int 10)), (53, nq_icne 60), (56, np_push 1 (.int 0)), (57, np_goto 62), (60, np_ild 2 9), (62, nw_ist 2 9), (64, np_ild 2 9), (66, nq_ifne 96), (69, np_ald 1 0), (70, np_push 1 (.int 0)), (71, np_ild 2 8), (73, np_push 1 (.int 2)), (74, np_ild 2 7), (76, np_push 2 (.int 11)), (78, nq_ibn (fun x y => x / y)), (79, np_push 1 (.int 5)), (80, nq_ibn (fun x y => x - x / y * y)), (81, np_ib (fun x y => x + y)), (82, np_ild 2 7), (84, np_push 2 (.int 55)), (86, nq_ibn (fun x y => x / y)), (87, np_push 2 (.int 9)), (89, nq_ibn (fun x y => x - x / y * y)), (90, nq_call 5 sp_L_items 6 1 6 9 54), (93, np_goto 342), (96, np_ild 2 9), (98, np_push 1 (.int 1)), (99, nq_icne 128), (102, np_ald 1 0), (103, np_push 1 (.int 1)), (104, np_ild 2 8), (106, np_push 1 (.int 1)), (107, np_ild 2 7), (109, np_push 2 (.int 11)), (111, nq_ibn (fun x y => x / y)), (112, np_push 1 (.int 5)), (113, nq_ibn (fun x y => x - x / y * y)), (114, np_ib (fun x y => x + y)), (115, np_ild 2 7), (117, np_push 2 (.int 55)), (119, nq_ibn (fun x y => x / y)), (120, np_push 1 (.int 3)), (121, nq_ibn (fun x y => x - x / y * y)), (122, nq_call 5 sp_L_items 6 1 6 9 54), (125, np_goto 342), (128, np_ild 2 9), (130, np_push 1 (.int 2)), (131, nq_icne 170), (134, np_ald 1 0), (135, np_push 1 (.int 2)), (136, np_ild 2 8), (138, np_ild 2 7), (140, np_push 2 (.int 11)), (142, nq_ibn (fun x y => x / y)), (143, np_push 1 (.int 3)), (144, nq_ibn (fun x y => x - x / y * y)), (145, nq_ifne 153), (148, np_push 2 (.int 98)), (150, np_goto 163), (153, np_push 2 (.int 59)), (155, np_ild 2 7), (157, np_push 2 (.int 33)), (159, nq_ibn (fun x y => x / y)), (160, np_push 1 (.int 4)), (161, nq_ibn (fun x y => x - x / y * y)), (162, np_ib (fun x y => x + y)), (163, np_push 1 (.int 0)), (164, nq_call 5 sp_L_items 6 1 6 9 54), (167, np_goto 342), (170, np_ild 2 9), (172, np_push 1 (.int 3)), (173, nq_icne 196), (176, np_ald 1 0), (177, np_push 1 (.int 3)), (178, np_ild 2 8), (180, np_push 1 (.int 1)), (181, np_ild 2 7), (183, np_push 2 (.int 11)), (185, nq_ibn (fun x y => x / y)), (186, np_push 1 (.int 4)), (187, nq_ibn (fun x y => x - x / y * y)), (188, np_ib (fun x y => x + y)), (189, np_push 1 (.int 0)), (190, nq_call 5 sp_L_items 6 1 6 9 54), (193, np_goto 342), (196, np_ild 2 9), (198, np_push 1 (.int 4)), (199, nq_icne 213), (202, np_ald 1 0), (203, np_push 1 (.int 4)), (204, np_push 1 (.int 0)), (205, np_push 1 (.int 0)), (206, np_push 1 (.int 0)), (207, nq_call 5 sp_L_items 6 1 6 9 54), (210, np_goto 342), (213, np_ild 2 9), (215, np_push 1 (.int 5)), (216, nq_icne 240), (219, np_ald 1 0), (220, np_push 1 (.int 5)), (221, np_push 2 (.int 32)), (223, np_ild 2 7), (225, np_push 2 (.int 11)), (227, nq_ibn (fun x y => x / y)), (228, np_push 2 (.int 95)), (230, nq_ibn (fun x y => x - x / y * y)), (231, np_ib (fun x y => x + y)), (232, np_push 1 (.int 0)), (233, np_push 1 (.int 0)), (234, nq_call 5 sp_L_items 6 1 6 9 54), (237, np_goto 342), (240, np_ild 2 9), (242, np_push 2 (.int 6)), (244, nq_icne 260), (247, np_ald 1 0), (248, np_push 2 (.int 6)), (250, np_ild 2 8), (252, np_push 1 (.int 0)), (253, np_push 1 (.int 0)), (254, nq_call 5 sp_L_items 6 1 6 9 54), (257, np_goto 342), (260, np_ild 2 9), (262, np_push 2 (.int 7)), (264, nq_icne 294), (267, np_ald 1 0), (268, np_push 2 (.int 7)), (270, np_ild 2 7), (272, np_push 2 (.int 11)), (274, nq_ibn (fun x y => x / y)), (275, np_ild 2 4), (277, nq_ibn (fun x y => x - x / y * y)), (278, np_push 1 (.int 1)), (279, np_ild 2 7), (281, np_push 2 (.int 88)), (283, nq_ibn (fun x y => x / y)), (284, np_push 1 (.int 2)), (285, nq_ibn (fun x y => x - x / y * y)), (286, np_ib (fun x y => x + y)), (287, np_push 1 (.int 0)), (288, nq_call 5 sp_L_items 6 1 6 9 54), (291, np_goto 342), (294, np_ild 2 9), (296, np_push 2 (.int 8)), (298, nq_icne 326), (301, np_ald 1 0), (302, np_push 2 (.int 8)), (304, np_ild 2 7), (306, np_push 2 (.int 11)), (308, nq_ibn (fun x y => x / y)), (309, np_ild 2 4), (311, nq_ibn (fun x y => x - x / y * y)), (312, np_push 1 (.int 1)), (313, np_ild 2 7), (315, np_push 2 (.int 88)), (317, nq_ibn (fun x y => x / y)), (318, np_push 1 (.int 4)), (319, nq_ibn (fun x y => x - x / y * y)), (320, nq_call 5 sp_L_items 6 1 6 9 54), (323, np_goto 342), (326, np_ald 1 0), (327, np_push 2 (.int 9)), (329, np_ild 2 7), (331, np_push 2 (.int 11)), (333, nq_ibn (fun x y => x / y)), (334, np_ild 2 4), (336, nq_ibn (fun x y => x - x / y * y)), (337, np_push 1 (.int 0)), (338, np_push 1 (.int 0)), (339, nq_call 5 sp_L_items 6 1 6 9 54), (342, nw_ist 2 10), (344, np_ild 2 6), (346, np_ild 2 10), (348, nq_if (fun x => x < 0) 355), (351, np_push 1 (.int 1)), (352, np_goto 356), (355, np_push 1 (.int 0)), (356, np_ib (fun x y => x + y)), (357, nw_ist 2 6), (359, np_ild 2 10), (361, nq_if (fun x => x < 0) 373), (364, np_ild 2 10), (366, np_ild 2 6), (368, nq_ic (fun x y => x = y) 373), (371, np_push 1 (.int 0)), (372, np_ret Rt), (373, np_ild 2 7), (375, np_push 1 (.int 3)), (376, np_ib (fun x y => x >>> (y &&& 31))), (377, np_push 3 (.int 7919)), (380, np_ild 1 2), (381, np_push 3 (.int 1000)), (384, nq_ibn (fun x y => x - x / y * y)), (385, np_ild 2 8), (387, np_ib (fun x y => x + y)), (388, np_ib (fun x y => x * y)), (389, np_ib (fun x y => x + y)), (390, nw_ist 2 7), (392, nw_iinc 8 1), (395, np_goto 35), (398, np_ald 1 0), (399, nw_callVX 11 1 sp_X11_description 2 1 6 9 54 []), (402, nw_ist 2 8), (404, np_ild 2 8), (406, nq_if (fun x => 0 ≤ x) 413), (409, np_push 1 (.int (-1))), (410, np_goto 419), (413, np_ald 1 0), (414, np_ild 2 8), (416, nw_callVX 11 2 sp_X11_sure 3 1 6 9 54 []), (419, nw_ist 2 9), (421, np_ild 2 5), (423, nq_if (fun x => x < 0) 480), (426, np_ild 2 8), (428, np_push 1 (.int (-1))), (429, nq_ic (fun x y => x = y) 445), (432, np_ild 2 8), (434, np_ald 1 3), (435, np_push 1 (.int 0)), (436, nw_ialdT .int), (437, nq_icne 480), (440, np_ild 2 6), (442, nq_if (fun x => x ≤ 0) 480), (445, np_ild 2 9), (447, np_ild 2 6), (449, nq_ic (fun x y => y ≤ x) 480), (452, np_ild 2 9), (454, np_push 1 (.int (-1))), (455, nq_ic (fun x y => x < y) 480), (458, np_ald 1 0), (459, nw_callV 11 1 sp_X11_dropItems 2 0 0 9 54), (462, np_ild 2 8), (464, nq_if (fun x => 0 ≤ x) 472), (467, np_ild 2 6), (469, np_goto 473), (472, np_push 1 (.int 0)), (473, nq_icne 480), (476, np_push 1 (.int 1)), (477, np_goto 481), (480, np_push 1 (.int 0)), (481, nw_ist 2 10), (483, np_ald 1 3), (484, np_push 1 (.int 0)), (485, nq_dup2), (486, nw_ialdT .int), (487, np_ild 2 8), (489, nq_if (fun x => x < 0) 496), (492, np_push 1 (.int 1)), (493, np_goto 497), (496, np_push 1 (.int 0)), (497, np_ib (fun x y => x + y)), (498, nw_iastT .int), (499, np_ild 2 10), (501, np_ret Rt)]
set_option maxRecDepth 20000 in
theorem so_L_describes {X : np_Ctx} {Rt : np_Rt} (hX : np_ok RL cL_describes 11 8 152 9 54 .ireturn X) (hR : ∀ st w ce sl, Rt st w ce sl → X.2.2.1 st w ce sl) : ∀ q ∈ is_L_describes Rt, np_S X q.1 q.2 :=
  List.forall_mem_cons.mpr ⟨np_s_aload_n hX dL_describes_0 rfl, List.forall_mem_cons.mpr ⟨np_s_iconst hX dL_describes_1 (by decide), List.forall_mem_cons.mpr ⟨np_S.mono (op := np_ialdT .int) (np_s_iald hX dL_describes_2) nw_ialdT_le, List.forall_mem_cons.mpr ⟨np_s_iconst hX dL_describes_3 (by decide), List.forall_mem_cons.mpr ⟨np_S.mono (op := np_icne 9) (np_s_icmp_ne hX dL_describes_4 (by decide)) nq_icne_le, List.forall_mem_cons.mpr ⟨np_s_iconst hX dL_describes_7 (by decide), List.forall_mem_cons.mpr ⟨np_S.mono (op := np_ret X.2.2.1) (np_s_ret hX dL_describes_8) (nq_ret_le hR), List.forall_mem_cons.mpr ⟨np_s_iconst hX dL_describes_9 (by decide), List.forall_mem_cons.mpr ⟨np_s_iload_n hX dL_describes_10 rfl, List.forall_mem_cons.mpr ⟨np_s_iconst hX dL_describes_11 (by decide), List.forall_mem_cons.mpr ⟨np_S.mono (op := np_ibn (fun x y => x - x / y * y)) (np_s_irem hX dL_describes_12) nq_ibn_le, List.forall_mem_cons.mpr ⟨np_s_iadd hX dL_describes_13, List.forall_mem_cons.mpr ⟨np_S.mono (op := np_ist 2 4) (np_s_istore hX dL_describes_14 (by decide)) nw_ist_le, List.forall_mem_cons.mpr ⟨np_s_aload_n hX dL_describes_16 rfl, List.forall_mem_cons.mpr ⟨np_S.mono (op := np_callV 11 1 sp_X11_dropItems 2 0 0 9 54) (np_s_callV hX C_X11_dropItems dL_describes_17 (q := (RX11, TX11, 14)) rfl rfl gw497 gw63 gw494 gw495 gw496 ⟨by decide, by decide, by decide⟩ (by decide) (by decide)) nw_callV_le, List.forall_mem_cons.mpr ⟨np_S.mono (op := np_ist 2 5) (np_s_istore hX dL_describes_20 (by decide)) nw_ist_le, List.forall_mem_cons.mpr ⟨np_s_iconst hX dL_describes_22 (by decide), List.forall_mem_cons.mpr ⟨np_S.mono (op := np_ist 2 6) (np_s_istore hX dL_describes_23 (by decide)) nw_ist_le, List.forall_mem_cons.mpr ⟨np_s_iload_n hX dL_describes_25 rfl, List.forall_mem_cons.mpr ⟨np_s_iconst hX dL_describes_26 (by decide), List.forall_mem_cons.mpr ⟨np_S.mono (op := np_ibn (fun x y => x / y)) (np_s_idiv hX dL_describes_27) nq_ibn_le, List.forall_mem_cons.mpr ⟨np_s_iload_n hX dL_describes_28 rfl, List.forall_mem_cons.mpr ⟨np_s_ixor hX dL_describes_29, List.forall_mem_cons.mpr ⟨np_S.mono (op := np_ist 2 7) (np_s_istore hX dL_describes_30 (by decide)) nw_ist_le, List.forall_mem_cons.mpr ⟨np_s_iconst hX dL_describes_32 (by decide), List.forall_mem_cons.mpr ⟨np_S.mono (op := np_ist 2 8) (np_s_istore hX dL_describes_33 (by decide)) nw_ist_le, List.forall_mem_cons.mpr ⟨np_s_iload hX dL_describes_35, List.forall_mem_cons.mpr ⟨np_s_iload hX dL_describes_37, List.forall_mem_cons.mpr ⟨np_S.mono (op := np_ic (fun x y => y ≤ x) 398) (np_s_icmp_ge hX dL_describes_39 (by decide)) nq_ic_le, List.forall_mem_cons.mpr ⟨np_s_iload hX dL_describes_42, List.forall_mem_cons.mpr ⟨np_s_bipush hX dL_describes_44 (by decide), List.forall_mem_cons.mpr ⟨np_S.mono (op := np_ibn (fun x y => x - x / y * y)) (np_s_irem hX dL_describes_46) nq_ibn_le, List.forall_mem_cons.mpr ⟨np_S.mono (op := np_ist 2 9) (np_s_istore hX dL_describes_47 (by decide)) nw_ist_le, List.forall_mem_cons.mpr ⟨np_s_iload hX dL_describes_49, List.forall_mem_cons.mpr ⟨np_s_bipush hX dL_describes_51 (by decide), List.forall_mem_cons.mpr ⟨np_S.mono (op := np_icne 60) (np_s_icmp_ne hX dL_describes_53 (by decide)) nq_icne_le, List.forall_mem_cons.mpr ⟨np_s_iconst hX dL_describes_56 (by decide), List.forall_mem_cons.mpr ⟨np_s_goto hX dL_describes_57 (by decide), List.forall_mem_cons.mpr ⟨np_s_iload hX dL_describes_60, List.forall_mem_cons.mpr ⟨np_S.mono (op := np_ist 2 9) (np_s_istore hX dL_describes_62 (by decide)) nw_ist_le, List.forall_mem_cons.mpr ⟨np_s_iload hX dL_describes_64, List.forall_mem_cons.mpr ⟨np_S.mono (op := np_ifne 96) (np_s_if_ne hX dL_describes_66 (by decide)) nq_ifne_le, List.forall_mem_cons.mpr ⟨np_s_aload_n hX dL_describes_69 rfl, List.forall_mem_cons.mpr ⟨np_s_iconst hX dL_describes_70 (by decide), List.forall_mem_cons.mpr ⟨np_s_iload hX dL_describes_71, List.forall_mem_cons.mpr ⟨np_s_iconst hX dL_describes_73 (by decide), List.forall_mem_cons.mpr ⟨np_s_iload hX dL_describes_74, List.forall_mem_cons.mpr ⟨np_s_bipush hX dL_describes_76 (by decide), List.forall_mem_cons.mpr ⟨np_S.mono (op := np_ibn (fun x y => x / y)) (np_s_idiv hX dL_describes_78) nq_ibn_le, List.forall_mem_cons.mpr ⟨np_s_iconst hX dL_describes_79 (by decide), List.forall_mem_cons.mpr ⟨np_S.mono (op := np_ibn (fun x y => x - x / y * y)) (np_s_irem hX dL_describes_80) nq_ibn_le, List.forall_mem_cons.mpr ⟨np_s_iadd hX dL_describes_81, List.forall_mem_cons.mpr ⟨np_s_iload hX dL_describes_82, List.forall_mem_cons.mpr ⟨np_s_bipush hX dL_describes_84 (by decide), List.forall_mem_cons.mpr ⟨np_S.mono (op := np_ibn (fun x y => x / y)) (np_s_idiv hX dL_describes_86) nq_ibn_le, List.forall_mem_cons.mpr ⟨np_s_bipush hX dL_describes_87 (by decide), List.forall_mem_cons.mpr ⟨np_S.mono (op := np_ibn (fun x y => x - x / y * y)) (np_s_irem hX dL_describes_89) nq_ibn_le, List.forall_mem_cons.mpr ⟨np_S.mono (op := np_call 5 sp_L_items 6 1 6 9 54) (np_s_callSW hX C_L_items dL_describes_90 gw504 gw62 gw502 gw503 ⟨by decide, by decide, by decide⟩ (by decide) (by decide)) nq_call_le, List.forall_mem_cons.mpr ⟨np_s_goto hX dL_describes_93 (by decide), List.forall_mem_cons.mpr ⟨np_s_iload hX dL_describes_96, List.forall_mem_cons.mpr ⟨np_s_iconst hX dL_describes_98 (by decide), List.forall_mem_cons.mpr ⟨np_S.mono (op := np_icne 128) (np_s_icmp_ne hX dL_describes_99 (by decide)) nq_icne_le, List.forall_mem_cons.mpr ⟨np_s_aload_n hX dL_describes_102 rfl, List.forall_mem_cons.mpr ⟨np_s_iconst hX dL_describes_103 (by decide), List.forall_mem_cons.mpr ⟨np_s_iload hX dL_describes_104, List.forall_mem_cons.mpr ⟨np_s_iconst hX dL_describes_106 (by decide), List.forall_mem_cons.mpr ⟨np_s_iload hX dL_describes_107, List.forall_mem_cons.mpr ⟨np_s_bipush hX dL_describes_109 (by decide), List.forall_mem_cons.mpr ⟨np_S.mono (op := np_ibn (fun x y => x / y)) (np_s_idiv hX dL_describes_111) nq_ibn_le, List.forall_mem_cons.mpr ⟨np_s_iconst hX dL_describes_112 (by decide), List.forall_mem_cons.mpr ⟨np_S.mono (op := np_ibn (fun x y => x - x / y * y)) (np_s_irem hX dL_describes_113) nq_ibn_le, List.forall_mem_cons.mpr ⟨np_s_iadd hX dL_describes_114, List.forall_mem_cons.mpr ⟨np_s_iload hX dL_describes_115, List.forall_mem_cons.mpr ⟨np_s_bipush hX dL_describes_117 (by decide), List.forall_mem_cons.mpr ⟨np_S.mono (op := np_ibn (fun x y => x / y)) (np_s_idiv hX dL_describes_119) nq_ibn_le, List.forall_mem_cons.mpr ⟨np_s_iconst hX dL_describes_120 (by decide), List.forall_mem_cons.mpr ⟨np_S.mono (op := np_ibn (fun x y => x - x / y * y)) (np_s_irem hX dL_describes_121) nq_ibn_le, List.forall_mem_cons.mpr ⟨np_S.mono (op := np_call 5 sp_L_items 6 1 6 9 54) (np_s_callSW hX C_L_items dL_describes_122 gw504 gw62 gw502 gw503 ⟨by decide, by decide, by decide⟩ (by decide) (by decide)) nq_call_le, List.forall_mem_cons.mpr ⟨np_s_goto hX dL_describes_125 (by decide), List.forall_mem_cons.mpr ⟨np_s_iload hX dL_describes_128, List.forall_mem_cons.mpr ⟨np_s_iconst hX dL_describes_130 (by decide), List.forall_mem_cons.mpr ⟨np_S.mono (op := np_icne 170) (np_s_icmp_ne hX dL_describes_131 (by decide)) nq_icne_le, List.forall_mem_cons.mpr ⟨np_s_aload_n hX dL_describes_134 rfl, List.forall_mem_cons.mpr ⟨np_s_iconst hX dL_describes_135 (by decide), List.forall_mem_cons.mpr ⟨np_s_iload hX dL_describes_136, List.forall_mem_cons.mpr ⟨np_s_iload hX dL_describes_138, List.forall_mem_cons.mpr ⟨np_s_bipush hX dL_describes_140 (by decide), List.forall_mem_cons.mpr ⟨np_S.mono (op := np_ibn (fun x y => x / y)) (np_s_idiv hX dL_describes_142) nq_ibn_le, List.forall_mem_cons.mpr ⟨np_s_iconst hX dL_describes_143 (by decide), List.forall_mem_cons.mpr ⟨np_S.mono (op := np_ibn (fun x y => x - x / y * y)) (np_s_irem hX dL_describes_144) nq_ibn_le, List.forall_mem_cons.mpr ⟨np_S.mono (op := np_ifne 153) (np_s_if_ne hX dL_describes_145 (by decide)) nq_ifne_le, List.forall_mem_cons.mpr ⟨np_s_bipush hX dL_describes_148 (by decide), List.forall_mem_cons.mpr ⟨np_s_goto hX dL_describes_150 (by decide), List.forall_mem_cons.mpr ⟨np_s_bipush hX dL_describes_153 (by decide), List.forall_mem_cons.mpr ⟨np_s_iload hX dL_describes_155, List.forall_mem_cons.mpr ⟨np_s_bipush hX dL_describes_157 (by decide), List.forall_mem_cons.mpr ⟨np_S.mono (op := np_ibn (fun x y => x / y)) (np_s_idiv hX dL_describes_159) nq_ibn_le, List.forall_mem_cons.mpr ⟨np_s_iconst hX dL_describes_160 (by decide), List.forall_mem_cons.mpr ⟨np_S.mono (op := np_ibn (fun x y => x - x / y * y)) (np_s_irem hX dL_describes_161) nq_ibn_le, List.forall_mem_cons.mpr ⟨np_s_iadd hX dL_describes_162, List.forall_mem_cons.mpr ⟨np_s_iconst hX dL_describes_163 (by decide), List.forall_mem_cons.mpr ⟨np_S.mono (op := np_call 5 sp_L_items 6 1 6 9 54) (np_s_callSW hX C_L_items dL_describes_164 gw504 gw62 gw502 gw503 ⟨by decide, by decide, by decide⟩ (by decide) (by decide)) nq_call_le, List.forall_mem_cons.mpr ⟨np_s_goto hX dL_describes_167 (by decide), List.forall_mem_cons.mpr ⟨np_s_iload hX dL_describes_170, List.forall_mem_cons.mpr ⟨np_s_iconst hX dL_describes_172 (by decide), List.forall_mem_cons.mpr ⟨np_S.mono (op := np_icne 196) (np_s_icmp_ne hX dL_describes_173 (by decide)) nq_icne_le, List.forall_mem_cons.mpr ⟨np_s_aload_n hX dL_describes_176 rfl, List.forall_mem_cons.mpr ⟨np_s_iconst hX dL_describes_177 (by decide), List.forall_mem_cons.mpr ⟨np_s_iload hX dL_describes_178, List.forall_mem_cons.mpr ⟨np_s_iconst hX dL_describes_180 (by decide), List.forall_mem_cons.mpr ⟨np_s_iload hX dL_describes_181, List.forall_mem_cons.mpr ⟨np_s_bipush hX dL_describes_183 (by decide), List.forall_mem_cons.mpr ⟨np_S.mono (op := np_ibn (fun x y => x / y)) (np_s_idiv hX dL_describes_185) nq_ibn_le, List.forall_mem_cons.mpr ⟨np_s_iconst hX dL_describes_186 (by decide), List.forall_mem_cons.mpr ⟨np_S.mono (op := np_ibn (fun x y => x - x / y * y)) (np_s_irem hX dL_describes_187) nq_ibn_le, List.forall_mem_cons.mpr ⟨np_s_iadd hX dL_describes_188, List.forall_mem_cons.mpr ⟨np_s_iconst hX dL_describes_189 (by decide), List.forall_mem_cons.mpr ⟨np_S.mono (op := np_call 5 sp_L_items 6 1 6 9 54) (np_s_callSW hX C_L_items dL_describes_190 gw504 gw62 gw502 gw503 ⟨by decide, by decide, by decide⟩ (by decide) (by decide)) nq_call_le, List.forall_mem_cons.mpr ⟨np_s_goto hX dL_describes_193 (by decide), List.forall_mem_cons.mpr ⟨np_s_iload hX dL_describes_196, List.forall_mem_cons.mpr ⟨np_s_iconst hX dL_describes_198 (by decide), List.forall_mem_cons.mpr ⟨np_S.mono (op := np_icne 213) (np_s_icmp_ne hX dL_describes_199 (by decide)) nq_icne_le, List.forall_mem_cons.mpr ⟨np_s_aload_n hX dL_describes_202 rfl, List.forall_mem_cons.mpr ⟨np_s_iconst hX dL_describes_203 (by decide), List.forall_mem_cons.mpr ⟨np_s_iconst hX dL_describes_204 (by decide), List.forall_mem_cons.mpr ⟨np_s_iconst hX dL_describes_205 (by decide), List.forall_mem_cons.mpr ⟨np_s_iconst hX dL_describes_206 (by decide), List.forall_mem_cons.mpr ⟨np_S.mono (op := np_call 5 sp_L_items 6 1 6 9 54) (np_s_callSW hX C_L_items dL_describes_207 gw504 gw62 gw502 gw503 ⟨by decide, by decide, by decide⟩ (by decide) (by decide)) nq_call_le, List.forall_mem_cons.mpr ⟨np_s_goto hX dL_describes_210 (by decide), List.forall_mem_cons.mpr ⟨np_s_iload hX dL_describes_213, List.forall_mem_cons.mpr ⟨np_s_iconst hX dL_describes_215 (by decide), List.forall_mem_cons.mpr ⟨np_S.mono (op := np_icne 240) (np_s_icmp_ne hX dL_describes_216 (by decide)) nq_icne_le, List.forall_mem_cons.mpr ⟨np_s_aload_n hX dL_describes_219 rfl, List.forall_mem_cons.mpr ⟨np_s_iconst hX dL_describes_220 (by decide), List.forall_mem_cons.mpr ⟨np_s_bipush hX dL_describes_221 (by decide), List.forall_mem_cons.mpr ⟨np_s_iload hX dL_describes_223, List.forall_mem_cons.mpr ⟨np_s_bipush hX dL_describes_225 (by decide), List.forall_mem_cons.mpr ⟨np_S.mono (op := np_ibn (fun x y => x / y)) (np_s_idiv hX dL_describes_227) nq_ibn_le, List.forall_mem_cons.mpr ⟨np_s_bipush hX dL_describes_228 (by decide), List.forall_mem_cons.mpr ⟨np_S.mono (op := np_ibn (fun x y => x - x / y * y)) (np_s_irem hX dL_describes_230) nq_ibn_le, List.forall_mem_cons.mpr ⟨np_s_iadd hX dL_describes_231, List.forall_mem_cons.mpr ⟨np_s_iconst hX dL_describes_232 (by decide), List.forall_mem_cons.mpr ⟨np_s_iconst hX dL_describes_233 (by decide), List.forall_mem_cons.mpr ⟨np_S.mono (op := np_call 5 sp_L_items 6 1 6 9 54) (np_s_callSW hX C_L_items dL_describes_234 gw504 gw62 gw502 gw503 ⟨by decide, by decide, by decide⟩ (by decide) (by decide)) nq_call_le, List.forall_mem_cons.mpr ⟨np_s_goto hX dL_describes_237 (by decide), List.forall_mem_cons.mpr ⟨np_s_iload hX dL_describes_240, List.forall_mem_cons.mpr ⟨np_s_bipush hX dL_describes_242 (by decide), List.forall_mem_cons.mpr ⟨np_S.mono (op := np_icne 260) (np_s_icmp_ne hX dL_describes_244 (by decide)) nq_icne_le, List.forall_mem_cons.mpr ⟨np_s_aload_n hX dL_describes_247 rfl, List.forall_mem_cons.mpr ⟨np_s_bipush hX dL_describes_248 (by decide), List.forall_mem_cons.mpr ⟨np_s_iload hX dL_describes_250, List.forall_mem_cons.mpr ⟨np_s_iconst hX dL_describes_252 (by decide), List.forall_mem_cons.mpr ⟨np_s_iconst hX dL_describes_253 (by decide), List.forall_mem_cons.mpr ⟨np_S.mono (op := np_call 5 sp_L_items 6 1 6 9 54) (np_s_callSW hX C_L_items dL_describes_254 gw504 gw62 gw502 gw503 ⟨by decide, by decide, by decide⟩ (by decide) (by decide)) nq_call_le, List.forall_mem_cons.mpr ⟨np_s_goto hX dL_describes_257 (by decide), List.forall_mem_cons.mpr ⟨np_s_iload hX dL_describes_260, List.forall_mem_cons.mpr ⟨np_s_bipush hX dL_describes_262 (by decide), List.forall_mem_cons.mpr ⟨np_S.mono (op := np_icne 294) (np_s_icmp_ne hX dL_describes_264 (by decide)) nq_icne_le, List.forall_mem_cons.mpr ⟨np_s_aload_n hX dL_describes_267 rfl, List.forall_mem_cons.mpr ⟨np_s_bipush hX dL_describes_268 (by decide), List.forall_mem_cons.mpr ⟨np_s_iload hX dL_describes_270, List.forall_mem_cons.mpr ⟨np_s_bipush hX dL_describes_272 (by decide), List.forall_mem_cons.mpr ⟨np_S.mono (op := np_ibn (fun x y => x / y)) (np_s_idiv hX dL_describes_274) nq_ibn_le, List.forall_mem_cons.mpr ⟨np_s_iload hX dL_describes_275, List.forall_mem_cons.mpr ⟨np_S.mono (op := np_ibn (fun x y => x - x / y * y)) (np_s_irem hX dL_describes_277) nq_ibn_le, List.forall_mem_cons.mpr ⟨np_s_iconst hX dL_describes_278 (by decide), List.forall_mem_cons.mpr ⟨np_s_iload hX dL_describes_279, List.forall_mem_cons.mpr ⟨np_s_bipush hX dL_describes_281 (by decide), List.forall_mem_cons.mpr ⟨np_S.mono (op := np_ibn (fun x y => x / y)) (np_s_idiv hX dL_describes_283) nq_ibn_le, List.forall_mem_cons.mpr ⟨np_s_iconst hX dL_describes_284 (by decide), List.forall_mem_cons.mpr ⟨np_S.mono (op := np_ibn (fun x y => x - x / y * y)) (np_s_irem hX dL_describes_285) nq_ibn_le, List.forall_mem_cons.mpr ⟨np_s_iadd hX dL_describes_286, List.forall_mem_cons.mpr ⟨np_s_iconst hX dL_describes_287 (by decide), List.forall_mem_cons.mpr ⟨np_S.mono (op := np_call 5 sp_L_items 6 1 6 9 54) (np_s_callSW hX C_L_items dL_describes_288 gw504 gw62 gw502 gw503 ⟨by decide, by decide, by decide⟩ (by decide) (by decide)) nq_call_le, List.forall_mem_cons.mpr ⟨np_s_goto hX dL_describes_291 (by decide), List.forall_mem_cons.mpr ⟨np_s_iload hX dL_describes_294, List.forall_mem_cons.mpr ⟨np_s_bipush hX dL_describes_296 (by decide), List.forall_mem_cons.mpr ⟨np_S.mono (op := np_icne 326) (np_s_icmp_ne hX dL_describes_298 (by decide)) nq_icne_le, List.forall_mem_cons.mpr ⟨np_s_aload_n hX dL_describes_301 rfl, List.forall_mem_cons.mpr ⟨np_s_bipush hX dL_describes_302 (by decide), List.forall_mem_cons.mpr ⟨np_s_iload hX dL_describes_304, List.forall_mem_cons.mpr ⟨np_s_bipush hX dL_describes_306 (by decide), List.forall_mem_cons.mpr ⟨np_S.mono (op := np_ibn (fun x y => x / y)) (np_s_idiv hX dL_describes_308) nq_ibn_le, List.forall_mem_cons.mpr ⟨np_s_iload hX dL_describes_309, List.forall_mem_cons.mpr ⟨np_S.mono (op := np_ibn (fun x y => x - x / y * y)) (np_s_irem hX dL_describes_311) nq_ibn_le, List.forall_mem_cons.mpr ⟨np_s_iconst hX dL_describes_312 (by decide), List.forall_mem_cons.mpr ⟨np_s_iload hX dL_describes_313, List.forall_mem_cons.mpr ⟨np_s_bipush hX dL_describes_315 (by decide), List.forall_mem_cons.mpr ⟨np_S.mono (op := np_ibn (fun x y => x / y)) (np_s_idiv hX dL_describes_317) nq_ibn_le, List.forall_mem_cons.mpr ⟨np_s_iconst hX dL_describes_318 (by decide), List.forall_mem_cons.mpr ⟨np_S.mono (op := np_ibn (fun x y => x - x / y * y)) (np_s_irem hX dL_describes_319) nq_ibn_le, List.forall_mem_cons.mpr ⟨np_S.mono (op := np_call 5 sp_L_items 6 1 6 9 54) (np_s_callSW hX C_L_items dL_describes_320 gw504 gw62 gw502 gw503 ⟨by decide, by decide, by decide⟩ (by decide) (by decide)) nq_call_le, List.forall_mem_cons.mpr ⟨np_s_goto hX dL_describes_323 (by decide), List.forall_mem_cons.mpr ⟨np_s_aload_n hX dL_describes_326 rfl, List.forall_mem_cons.mpr ⟨np_s_bipush hX dL_describes_327 (by decide), List.forall_mem_cons.mpr ⟨np_s_iload hX dL_describes_329, List.forall_mem_cons.mpr ⟨np_s_bipush hX dL_describes_331 (by decide), List.forall_mem_cons.mpr ⟨np_S.mono (op := np_ibn (fun x y => x / y)) (np_s_idiv hX dL_describes_333) nq_ibn_le, List.forall_mem_cons.mpr ⟨np_s_iload hX dL_describes_334, List.forall_mem_cons.mpr ⟨np_S.mono (op := np_ibn (fun x y => x - x / y * y)) (np_s_irem hX dL_describes_336) nq_ibn_le, List.forall_mem_cons.mpr ⟨np_s_iconst hX dL_describes_337 (by decide), List.forall_mem_cons.mpr ⟨np_s_iconst hX dL_describes_338 (by decide), List.forall_mem_cons.mpr ⟨np_S.mono (op := np_call 5 sp_L_items 6 1 6 9 54) (np_s_callSW hX C_L_items dL_describes_339 gw504 gw62 gw502 gw503 ⟨by decide, by decide, by decide⟩ (by decide) (by decide)) nq_call_le, List.forall_mem_cons.mpr ⟨np_S.mono (op := np_ist 2 10) (np_s_istore hX dL_describes_342 (by decide)) nw_ist_le, List.forall_mem_cons.mpr ⟨np_s_iload hX dL_describes_344, List.forall_mem_cons.mpr ⟨np_s_iload hX dL_describes_346, List.forall_mem_cons.mpr ⟨np_S.mono (op := np_if (fun x => x < 0) 355) (np_s_if_lt hX dL_describes_348 (by decide)) nq_if_le, List.forall_mem_cons.mpr ⟨np_s_iconst hX dL_describes_351 (by decide), List.forall_mem_cons.mpr ⟨np_s_goto hX dL_describes_352 (by decide), List.forall_mem_cons.mpr ⟨np_s_iconst hX dL_describes_355 (by decide), List.forall_mem_cons.mpr ⟨np_s_iadd hX dL_describes_356, List.forall_mem_cons.mpr ⟨np_S.mono (op := np_ist 2 6) (np_s_istore hX dL_describes_357 (by decide)) nw_ist_le, List.forall_mem_cons.mpr ⟨np_s_iload hX dL_describes_359, List.forall_mem_cons.mpr ⟨np_S.mono (op := np_if (fun x => x < 0) 373) (np_s_if_lt hX dL_describes_361 (by decide)) nq_if_le, List.forall_mem_cons.mpr ⟨np_s_iload hX dL_describes_364, List.forall_mem_cons.mpr ⟨np_s_iload hX dL_describes_366, List.forall_mem_cons.mpr ⟨np_S.mono (op := np_ic (fun x y => x = y) 373) (np_s_icmp_eq hX dL_describes_368 (by decide)) nq_ic_le, List.forall_mem_cons.mpr ⟨np_s_iconst hX dL_describes_371 (by decide), List.forall_mem_cons.mpr ⟨np_S.mono (op := np_ret X.2.2.1) (np_s_ret hX dL_describes_372) (nq_ret_le hR), List.forall_mem_cons.mpr ⟨np_s_iload hX dL_describes_373, List.forall_mem_cons.mpr ⟨np_s_iconst hX dL_describes_375 (by decide), List.forall_mem_cons.mpr ⟨np_s_ishr hX dL_describes_376, List.forall_mem_cons.mpr ⟨np_s_sipush hX dL_describes_377 (by decide), List.forall_mem_cons.mpr ⟨np_s_iload_n hX dL_describes_380 rfl, List.forall_mem_cons.mpr ⟨np_s_sipush hX dL_describes_381 (by decide), List.forall_mem_cons.mpr ⟨np_S.mono (op := np_ibn (fun x y => x - x / y * y)) (np_s_irem hX dL_describes_384) nq_ibn_le, List.forall_mem_cons.mpr ⟨np_s_iload hX dL_describes_385, List.forall_mem_cons.mpr ⟨np_s_iadd hX dL_describes_387, List.forall_mem_cons.mpr ⟨np_s_imul hX dL_describes_388, List.forall_mem_cons.mpr ⟨np_s_iadd hX dL_describes_389, List.forall_mem_cons.mpr ⟨np_S.mono (op := np_ist 2 7) (np_s_istore hX dL_describes_390 (by decide)) nw_ist_le, List.forall_mem_cons.mpr ⟨np_S.mono (op := np_iinc 8 1) (np_s_iinc hX dL_describes_392 (by decide)) nw_iinc_le, List.forall_mem_cons.mpr ⟨np_s_goto hX dL_describes_395 (by decide), List.forall_mem_cons.mpr ⟨np_s_aload_n hX dL_describes_398 rfl, List.forall_mem_cons.mpr ⟨np_S.mono (op := np_callVX 11 1 sp_X11_description 2 1 6 9 54 []) (np_s_callVX hX C_X11_description dL_describes_399 (q := (RX11, TX11, 14)) rfl rfl gw637 gw63 gw634 gw635 gw636 ⟨by decide, by decide, by decide⟩ (by decide) (by decide) (fun _ h => nomatch h)) (nw_callVX_le2 (ci := 11) (n := 1) (sp := sp_X11_description) (maxL := 2) (mc := 1) (ms := 6) (RC := 9) (RS := 54) (hs := [])), List.forall_mem_cons.mpr ⟨np_S.mono (op := np_ist 2 8) (np_s_istore hX dL_describes_402 (by decide)) nw_ist_le, List.forall_mem_cons.mpr ⟨np_s_iload hX dL_describes_404, List.forall_mem_cons.mpr ⟨np_S.mono (op := np_if (fun x => 0 ≤ x) 413) (np_s_if_ge hX dL_describes_406 (by decide)) nq_if_le, List.forall_mem_cons.mpr ⟨np_s_iconst hX dL_describes_409 (by decide), List.forall_mem_cons.mpr ⟨np_s_goto hX dL_describes_410 (by decide), List.forall_mem_cons.mpr ⟨np_s_aload_n hX dL_describes_413 rfl, List.forall_mem_cons.mpr ⟨np_s_iload hX dL_describes_414, List.forall_mem_cons.mpr ⟨np_S.mono (op := np_callVX 11 2 sp_X11_sure 3 1 6 9 54 []) (np_s_callVX hX C_X11_sure dL_describes_416 (q := (RX11, TX11, 14)) rfl rfl gw695 gw63 gw692 gw693 gw694 ⟨by decide, by decide, by decide⟩ (by decide) (by decide) (fun _ h => nomatch h)) (nw_callVX_le2 (ci := 11) (n := 2) (sp := sp_X11_sure) (maxL := 3) (mc := 1) (ms := 6) (RC := 9) (RS := 54) (hs := [])), List.forall_mem_cons.mpr ⟨np_S.mono (op := np_ist 2 9) (np_s_istore hX dL_describes_419 (by decide)) nw_ist_le, List.forall_mem_cons.mpr ⟨np_s_iload hX dL_describes_421, List.forall_mem_cons.mpr ⟨np_S.mono (op := np_if (fun x => x < 0) 480) (np_s_if_lt hX dL_describes_423 (by decide)) nq_if_le, List.forall_mem_cons.mpr ⟨np_s_iload hX dL_describes_426, List.forall_mem_cons.mpr ⟨np_s_iconst hX dL_describes_428 (by decide), List.forall_mem_cons.mpr ⟨np_S.mono (op := np_ic (fun x y => x = y) 445) (np_s_icmp_eq hX dL_describes_429 (by decide)) nq_ic_le, List.forall_mem_cons.mpr ⟨np_s_iload hX dL_describes_432, List.forall_mem_cons.mpr ⟨np_s_aload_n hX dL_describes_434 rfl, List.forall_mem_cons.mpr ⟨np_s_iconst hX dL_describes_435 (by decide), List.forall_mem_cons.mpr ⟨np_S.mono (op := np_ialdT .int) (np_s_iald hX dL_describes_436) nw_ialdT_le, List.forall_mem_cons.mpr ⟨np_S.mono (op := np_icne 480) (np_s_icmp_ne hX dL_describes_437 (by decide)) nq_icne_le, List.forall_mem_cons.mpr ⟨np_s_iload hX dL_describes_440, List.forall_mem_cons.mpr ⟨np_S.mono (op := np_if (fun x => x ≤ 0) 480) (np_s_if_le hX dL_describes_442 (by decide)) nq_if_le, List.forall_mem_cons.mpr ⟨np_s_iload hX dL_describes_445, List.forall_mem_cons.mpr ⟨np_s_iload hX dL_describes_447, List.forall_mem_cons.mpr ⟨np_S.mono (op := np_ic (fun x y => y ≤ x) 480) (np_s_icmp_ge hX dL_describes_449 (by decide)) nq_ic_le, List.forall_mem_cons.mpr ⟨np_s_iload hX dL_describes_452, List.forall_mem_cons.mpr ⟨np_s_iconst hX dL_describes_454 (by decide), List.forall_mem_cons.mpr ⟨np_S.mono (op := np_ic (fun x y => x < y) 480) (np_s_icmp_lt hX dL_describes_455 (by decide)) nq_ic_le, List.forall_mem_cons.mpr ⟨np_s_aload_n hX dL_describes_458 rfl, List.forall_mem_cons.mpr ⟨np_S.mono (op := np_callV 11 1 sp_X11_dropItems 2 0 0 9 54) (np_s_callV hX C_X11_dropItems dL_describes_459 (q := (RX11, TX11, 14)) rfl rfl gw497 gw63 gw494 gw495 gw496 ⟨by decide, by decide, by decide⟩ (by decide) (by decide)) nw_callV_le, List.forall_mem_cons.mpr ⟨np_s_iload hX dL_describes_462, List.forall_mem_cons.mpr ⟨np_S.mono (op := np_if (fun x => 0 ≤ x) 472) (np_s_if_ge hX dL_describes_464 (by decide)) nq_if_le, List.forall_mem_cons.mpr ⟨np_s_iload hX dL_describes_467, List.forall_mem_cons.mpr ⟨np_s_goto hX dL_describes_469 (by decide), List.forall_mem_cons.mpr ⟨np_s_iconst hX dL_describes_472 (by decide), List.forall_mem_cons.mpr ⟨np_S.mono (op := np_icne 480) (np_s_icmp_ne hX dL_describes_473 (by decide)) nq_icne_le, List.forall_mem_cons.mpr ⟨np_s_iconst hX dL_describes_476 (by decide), List.forall_mem_cons.mpr ⟨np_s_goto hX dL_describes_477 (by decide), List.forall_mem_cons.mpr ⟨np_s_iconst hX dL_describes_480 (by decide), List.forall_mem_cons.mpr ⟨np_S.mono (op := np_ist 2 10) (np_s_istore hX dL_describes_481 (by decide)) nw_ist_le, List.forall_mem_cons.mpr ⟨np_s_aload_n hX dL_describes_483 rfl, List.forall_mem_cons.mpr ⟨np_s_iconst hX dL_describes_484 (by decide), List.forall_mem_cons.mpr ⟨np_S.mono (op := np_dup2) (np_s_dup2 hX dL_describes_485) nq_dup2_le, List.forall_mem_cons.mpr ⟨np_S.mono (op := np_ialdT .int) (np_s_iald hX dL_describes_486) nw_ialdT_le, List.forall_mem_cons.mpr ⟨np_s_iload hX dL_describes_487, List.forall_mem_cons.mpr ⟨np_S.mono (op := np_if (fun x => x < 0) 496) (np_s_if_lt hX dL_describes_489 (by decide)) nq_if_le, List.forall_mem_cons.mpr ⟨np_s_iconst hX dL_describes_492 (by decide), List.forall_mem_cons.mpr ⟨np_s_goto hX dL_describes_493 (by decide), List.forall_mem_cons.mpr ⟨np_s_iconst hX dL_describes_496 (by decide), List.forall_mem_cons.mpr ⟨np_s_iadd hX dL_describes_497, List.forall_mem_cons.mpr ⟨np_S.mono (op := np_iastT .int) (np_s_iast hX dL_describes_498) nw_iastT_le, List.forall_mem_cons.mpr ⟨np_s_iload hX dL_describes_499, List.forall_mem_cons.mpr ⟨np_S.mono (op := np_ret X.2.2.1) (np_s_ret hX dL_describes_501) (nq_ret_le hR), fun _ h => nomatch h⟩⟩⟩⟩⟩⟩⟩⟩⟩⟩⟩⟩⟩⟩⟩⟩⟩⟩⟩⟩⟩⟩⟩⟩⟩⟩⟩⟩⟩⟩⟩⟩⟩⟩⟩⟩⟩⟩⟩⟩⟩⟩⟩⟩⟩⟩⟩⟩⟩⟩⟩⟩⟩⟩⟩⟩⟩⟩⟩⟩⟩⟩⟩⟩⟩⟩⟩⟩⟩⟩⟩⟩⟩⟩⟩⟩⟩⟩⟩⟩⟩⟩⟩⟩⟩⟩⟩⟩⟩⟩⟩⟩⟩⟩⟩⟩⟩⟩⟩⟩⟩⟩⟩⟩⟩⟩⟩⟩⟩⟩⟩⟩⟩⟩⟩⟩⟩⟩⟩⟩⟩⟩⟩⟩⟩⟩⟩⟩⟩⟩⟩⟩⟩⟩⟩⟩⟩⟩⟩⟩⟩⟩⟩⟩⟩⟩⟩⟩⟩⟩⟩⟩⟩⟩⟩⟩⟩⟩⟩⟩⟩⟩⟩⟩⟩⟩⟩⟩⟩⟩⟩⟩⟩⟩⟩⟩⟩⟩⟩⟩⟩⟩⟩⟩⟩⟩⟩⟩⟩⟩⟩⟩⟩⟩⟩⟩⟩⟩⟩⟩⟩⟩⟩⟩⟩⟩⟩⟩⟩⟩⟩⟩⟩⟩⟩⟩⟩⟩⟩⟩⟩⟩⟩⟩⟩⟩⟩⟩⟩⟩⟩⟩⟩⟩⟩⟩⟩⟩⟩⟩⟩⟩⟩⟩⟩⟩⟩⟩⟩⟩⟩⟩⟩⟩⟩⟩⟩⟩⟩⟩⟩⟩⟩⟩⟩⟩⟩⟩⟩⟩⟩⟩⟩⟩⟩⟩⟩⟩⟩⟩⟩⟩⟩⟩⟩⟩⟩
noncomputable def m_L_describes_j342 (k35 : pw_S → Nat → Int32 → Nat → Nat → Int32 → Int32 → Int32 → Int32 → Int32 → pw_R Int32) (k398 : pw_S → Nat → Nat → Nat → Int32 → Int32 → pw_R Int32) (S : pw_S) (v0 : Nat) (v2 : Int32) (va3 : Nat) (vi3 : Nat) (v4 : Int32) (v5 : Int32) (v6 : Int32) (v7 : Int32) (v8 : Int32) (s0 : Int32) : pw_R Int32 :=
 pw_l (s0 : Int32) fun z1 =>
 if z1 < 0 then
 (pw_l ((v6 + 0) : Int32) fun z2 =>
 if z1 < 0 then
 (pw_l (((v7 >>> (3 &&& 31)) + (7919 * ((v2 - v2 / 1000 * 1000) + v8))) : Int32) fun z3 =>
 pw_l (v8 + 1 : Int32) fun z4 =>
 k35 S v0 v2 va3 vi3 v4 v5 z2 z3 z4)
 else
 (if z1 = z2 then
 (pw_l (((v7 >>> (3 &&& 31)) + (7919 * ((v2 - v2 / 1000 * 1000) + v8))) : Int32) fun z5 =>
 pw_l (v8 + 1 : Int32) fun z6 =>
 k35 S v0 v2 va3 vi3 v4 v5 z2 z5 z6)
 else
 (some (S, 0))))
 else
 (pw_l ((v6 + 1) : Int32) fun z7 =>
 if z1 < 0 then
 (pw_l (((v7 >>> (3 &&& 31)) + (7919 * ((v2 - v2 / 1000 * 1000) + v8))) : Int32) fun z8 =>
 pw_l (v8 + 1 : Int32) fun z9 =>
 k35 S v0 v2 va3 vi3 v4 v5 z7 z8 z9)
 else
 (if z1 = z7 then
 (pw_l (((v7 >>> (3 &&& 31)) + (7919 * ((v2 - v2 / 1000 * 1000) + v8))) : Int32) fun z10 =>
 pw_l (v8 + 1 : Int32) fun z11 =>
 k35 S v0 v2 va3 vi3 v4 v5 z7 z10 z11)
 else
 (some (S, 0))))
set_option maxRecDepth 100000 in
set_option maxHeartbeats 8000000 in
theorem J_L_describes_342 {X : np_Ctx} (hX : np_ok RL cL_describes 11 8 152 9 54 .ireturn X) {Q : Option Value → np_W → Prop} {q : Nat} {n dc ds : Nat} (hR : ∀ st w ce sl, np_rt (some .boolean) 9 54 Q st w ce sl → X.2.2.1 st w ce sl) {k35 : pw_S → Nat → Int32 → Nat → Nat → Int32 → Int32 → Int32 → Int32 → Int32 → pw_R Int32} {k398 : pw_S → Nat → Nat → Nat → Int32 → Int32 → pw_R Int32} (hk35 : ∀ (S : pw_S) (v0 : Nat) (v2 : Int32) (va3 : Nat) (vi3 : Nat) (v4 : Int32) (v5 : Int32) (v6 : Int32) (v7 : Int32) (v8 : Int32) (f : Nat → Option np_E) (ce sl : Nat) (hv0 : pw_ok q 61 v0 = true) (ha3 : pw_arr va3 = true) (hi3 : pw_ok q va3 vi3 = true), ce + dc ≤ 9 → sl + ds ≤ 54 → pw_W q (n, f) S → pw_p (k35 S v0 v2 va3 vi3 v4 v5 v6 v7 v8) (fun S' r => ∀ f', pw_W q (n, f') S' → Q (some (.int r)) (n, f')) → np_G X 35 [(0, .ref (pw_pl 61 v0)), (2, .int v2), (3, .ref (pw_pl va3 vi3)), (4, .int v4), (5, .int v5), (6, .int v6), (7, .int v7), (8, .int v8)] [] (n, f) ce sl) (hk398 : ∀ (S : pw_S) (v0 : Nat) (va3 : Nat) (vi3 : Nat) (v5 : Int32) (v6 : Int32) (f : Nat → Option np_E) (ce sl : Nat) (hv0 : pw_ok q 61 v0 = true) (ha3 : pw_arr va3 = true) (hi3 : pw_ok q va3 vi3 = true), ce + dc ≤ 9 → sl + ds ≤ 54 → pw_W q (n, f) S → pw_p (k398 S v0 va3 vi3 v5 v6) (fun S' r => ∀ f', pw_W q (n, f') S' → Q (some (.int r)) (n, f')) → np_G X 398 [(0, .ref (pw_pl 61 v0)), (3, .ref (pw_pl va3 vi3)), (5, .int v5), (6, .int v6)] [] (n, f) ce sl) (S : pw_S) (v0 : Nat) (v2 : Int32) (va3 : Nat) (vi3 : Nat) (v4 : Int32) (v5 : Int32) (v6 : Int32) (v7 : Int32) (v8 : Int32) (s0 : Int32) (f : Nat → Option np_E) (ce sl : Nat) (hv0 : pw_ok q 61 v0 = true) (ha3 : pw_arr va3 = true) (hi3 : pw_ok q va3 vi3 = true) (hc : ce + 0 + dc ≤ 9) (hs : sl + 0 + ds ≤ 54) (hW : pw_W q (n, f) S) (h : pw_p (m_L_describes_j342 k35 k398 S v0 v2 va3 vi3 v4 v5 v6 v7 v8 s0) (fun S' r => ∀ f', pw_W q (n, f') S' → Q (some (.int r)) (n, f'))) : np_G X 342 [(0, .ref (pw_pl 61 v0)), (2, .int v2), (3, .ref (pw_pl va3 vi3)), (4, .int v4), (5, .int v5), (6, .int v6), (7, .int v7), (8, .int v8)] [.int s0] (n, f) ce sl := by
  unfold m_L_describes_j342 at h
  refine np_soundW (so_L_describes hX hR) [35, 62, 342, 398, 419, 445, 473] 400 342 _ _ _ _ _ ?_
  conv => whnf
  refine pw_st h (fun z1 h => ?_)
  conv => whnf
  refine pw_br h (fun _ h => ?_) (fun _ h => ?_)
  · conv => whnf
    refine pw_st h (fun z2 h => ?_)
    conv => whnf
    refine pw_br h (fun _ h => ?_) (fun _ h => ?_)
    · conv => whnf
      refine pw_st h (fun z3 h => ?_)
      conv => whnf
      refine pw_st h (fun z4 h => ?_)
      conv => whnf
      exact np_gl (hk35 S v0 v2 va3 vi3 v4 v5 z2 z3 z4 f _ _ hv0 ha3 hi3 (by omega) (by omega) hW h) ⟨rfl, rfl, rfl, rfl, rfl, rfl, rfl, rfl, trivial⟩
    · conv => whnf
      refine pw_br h (fun _ h => ?_) (fun _ h => ?_)
      · conv => whnf
        refine pw_st h (fun z5 h => ?_)
        conv => whnf
        refine pw_st h (fun z6 h => ?_)
        conv => whnf
        exact np_gl (hk35 S v0 v2 va3 vi3 v4 v5 z2 z5 z6 f _ _ hv0 ha3 hi3 (by omega) (by omega) hW h) ⟨rfl, rfl, rfl, rfl, rfl, rfl, rfl, rfl, trivial⟩
      · conv => whnf
        exact ⟨(by omega), (by omega), ⟨_, rfl, by decide⟩, _, fun _ _ h9 => h9, pw_ps h _ hW⟩
  · conv => whnf
    refine pw_st h (fun z7 h => ?_)
    conv => whnf
    refine pw_br h (fun _ h => ?_) (fun _ h => ?_)
    · conv => whnf
      refine pw_st h (fun z8 h => ?_)
      conv => whnf
      refine pw_st h (fun z9 h => ?_)
      conv => whnf
      exact np_gl (hk35 S v0 v2 va3 vi3 v4 v5 z7 z8 z9 f _ _ hv0 ha3 hi3 (by omega) (by omega) hW h) ⟨rfl, rfl, rfl, rfl, rfl, rfl, rfl, rfl, trivial⟩
    · conv => whnf
      refine pw_br h (fun _ h => ?_) (fun _ h => ?_)
      · conv => whnf
        refine pw_st h (fun z10 h => ?_)
        conv => whnf
        refine pw_st h (fun z11 h => ?_)
        conv => whnf
        exact np_gl (hk35 S v0 v2 va3 vi3 v4 v5 z7 z10 z11 f _ _ hv0 ha3 hi3 (by omega) (by omega) hW h) ⟨rfl, rfl, rfl, rfl, rfl, rfl, rfl, rfl, trivial⟩
      · conv => whnf
        exact ⟨(by omega), (by omega), ⟨_, rfl, by decide⟩, _, fun _ _ h9 => h9, pw_ps h _ hW⟩
noncomputable def m_L_describes_j62 (k35 : pw_S → Nat → Int32 → Nat → Nat → Int32 → Int32 → Int32 → Int32 → Int32 → pw_R Int32) (k398 : pw_S → Nat → Nat → Nat → Int32 → Int32 → pw_R Int32) (S : pw_S) (v0 : Nat) (v2 : Int32) (va3 : Nat) (vi3 : Nat) (v4 : Int32) (v5 : Int32) (v6 : Int32) (v7 : Int32) (v8 : Int32) (s0 : Int32) : pw_R Int32 :=
 pw_l (s0 : Int32) fun z12 =>
 if z12 = 0 then
 (pw_b (m_L_items S v0 0 v8 (2 + ((v7 / 11) - (v7 / 11) / 5 * 5)) ((v7 / 55) - (v7 / 55) / 9 * 9)) fun S13 r16 =>
 m_L_describes_j342 (fun S30 u18 u20 u21 u22 u25 u26 u27 u28 u29 => k35 S30 u18 u20 u21 u22 u25 u26 u27 u28 u29) (fun S45 u37 u39 u40 u43 u44 => k398 S45 u37 u39 u40 u43 u44) S13 v0 v2 va3 vi3 v4 v5 v6 v7 v8 r16)
 else
 (if z12 = 1 then
 (pw_b (m_L_items S v0 1 v8 (1 + ((v7 / 11) - (v7 / 11) / 5 * 5)) ((v7 / 55) - (v7 / 55) / 3 * 3)) fun S52 r55 =>
 m_L_describes_j342 (fun S69 u57 u59 u60 u61 u64 u65 u66 u67 u68 => k35 S69 u57 u59 u60 u61 u64 u65 u66 u67 u68) (fun S84 u76 u78 u79 u82 u83 => k398 S84 u76 u78 u79 u82 u83) S52 v0 v2 va3 vi3 v4 v5 v6 v7 v8 r55)
 else
 (if z12 = 2 then
 (if ((v7 / 11) - (v7 / 11) / 3 * 3) = 0 then
 (pw_b (m_L_items S v0 2 v8 98 0) fun S91 r94 =>
 m_L_describes_j342 (fun S108 u96 u98 u99 u100 u103 u104 u105 u106 u107 => k35 S108 u96 u98 u99 u100 u103 u104 u105 u106 u107) (fun S123 u115 u117 u118 u121 u122 => k398 S123 u115 u117 u118 u121 u122) S91 v0 v2 va3 vi3 v4 v5 v6 v7 v8 r94)
 else
 (pw_b (m_L_items S v0 2 v8 (59 + ((v7 / 33) - (v7 / 33) / 4 * 4)) 0) fun S130 r133 =>
 m_L_describes_j342 (fun S147 u135 u137 u138 u139 u142 u143 u144 u145 u146 => k35 S147 u135 u137 u138 u139 u142 u143 u144 u145 u146) (fun S162 u154 u156 u157 u160 u161 => k398 S162 u154 u156 u157 u160 u161) S130 v0 v2 va3 vi3 v4 v5 v6 v7 v8 r133))
 else
 (if z12 = 3 then
 (pw_b (m_L_items S v0 3 v8 (1 + ((v7 / 11) - (v7 / 11) / 4 * 4)) 0) fun S169 r172 =>
 m_L_describes_j342 (fun S186 u174 u176 u177 u178 u181 u182 u183 u184 u185 => k35 S186 u174 u176 u177 u178 u181 u182 u183 u184 u185) (fun S201 u193 u195 u196 u199 u200 => k398 S201 u193 u195 u196 u199 u200) S169 v0 v2 va3 vi3 v4 v5 v6 v7 v8 r172)
 else
 (if z12 = 4 then
 (pw_b (m_L_items S v0 4 0 0 0) fun S208 r211 =>
 m_L_describes_j342 (fun S225 u213 u215 u216 u217 u220 u221 u222 u223 u224 => k35 S225 u213 u215 u216 u217 u220 u221 u222 u223 u224) (fun S240 u232 u234 u235 u238 u239 => k398 S240 u232 u234 u235 u238 u239) S208 v0 v2 va3 vi3 v4 v5 v6 v7 v8 r211)
 else
 (if z12 = 5 then
 (pw_b (m_L_items S v0 5 (32 + ((v7 / 11) - (v7 / 11) / 95 * 95)) 0 0) fun S247 r250 =>
 m_L_describes_j342 (fun S264 u252 u254 u255 u256 u259 u260 u261 u262 u263 => k35 S264 u252 u254 u255 u256 u259 u260 u261 u262 u263) (fun S279 u271 u273 u274 u277 u278 => k398 S279 u271 u273 u274 u277 u278) S247 v0 v2 va3 vi3 v4 v5 v6 v7 v8 r250)
 else
 (if z12 = 6 then
 (pw_b (m_L_items S v0 6 v8 0 0) fun S286 r289 =>
 m_L_describes_j342 (fun S303 u291 u293 u294 u295 u298 u299 u300 u301 u302 => k35 S303 u291 u293 u294 u295 u298 u299 u300 u301 u302) (fun S318 u310 u312 u313 u316 u317 => k398 S318 u310 u312 u313 u316 u317) S286 v0 v2 va3 vi3 v4 v5 v6 v7 v8 r289)
 else
 (if z12 = 7 then
 (pw_c (!decide (v4 = 0)) <|
 pw_b (m_L_items S v0 7 ((v7 / 11) - (v7 / 11) / v4 * v4) (1 + ((v7 / 88) - (v7 / 88) / 2 * 2)) 0) fun S325 r328 =>
 m_L_describes_j342 (fun S342 u330 u332 u333 u334 u337 u338 u339 u340 u341 => k35 S342 u330 u332 u333 u334 u337 u338 u339 u340 u341) (fun S357 u349 u351 u352 u355 u356 => k398 S357 u349 u351 u352 u355 u356) S325 v0 v2 va3 vi3 v4 v5 v6 v7 v8 r328)
 else
 (if z12 = 8 then
 (pw_c (!decide (v4 = 0)) <|
 pw_b (m_L_items S v0 8 ((v7 / 11) - (v7 / 11) / v4 * v4) 1 ((v7 / 88) - (v7 / 88) / 4 * 4)) fun S364 r367 =>
 m_L_describes_j342 (fun S381 u369 u371 u372 u373 u376 u377 u378 u379 u380 => k35 S381 u369 u371 u372 u373 u376 u377 u378 u379 u380) (fun S396 u388 u390 u391 u394 u395 => k398 S396 u388 u390 u391 u394 u395) S364 v0 v2 va3 vi3 v4 v5 v6 v7 v8 r367)
 else
 (pw_c (!decide (v4 = 0)) <|
 pw_b (m_L_items S v0 9 ((v7 / 11) - (v7 / 11) / v4 * v4) 0 0) fun S403 r406 =>
 m_L_describes_j342 (fun S420 u408 u410 u411 u412 u415 u416 u417 u418 u419 => k35 S420 u408 u410 u411 u412 u415 u416 u417 u418 u419) (fun S435 u427 u429 u430 u433 u434 => k398 S435 u427 u429 u430 u433 u434) S403 v0 v2 va3 vi3 v4 v5 v6 v7 v8 r406)))))))))
set_option maxRecDepth 100000 in
set_option maxHeartbeats 8000000 in
theorem J_L_describes_62 {X : np_Ctx} (hX : np_ok RL cL_describes 11 8 152 9 54 .ireturn X) {Q : Option Value → np_W → Prop} {q : Nat} {n dc ds : Nat} (hR : ∀ st w ce sl, np_rt (some .boolean) 9 54 Q st w ce sl → X.2.2.1 st w ce sl) {k35 : pw_S → Nat → Int32 → Nat → Nat → Int32 → Int32 → Int32 → Int32 → Int32 → pw_R Int32} {k398 : pw_S → Nat → Nat → Nat → Int32 → Int32 → pw_R Int32} (hk35 : ∀ (S : pw_S) (v0 : Nat) (v2 : Int32) (va3 : Nat) (vi3 : Nat) (v4 : Int32) (v5 : Int32) (v6 : Int32) (v7 : Int32) (v8 : Int32) (f : Nat → Option np_E) (ce sl : Nat) (hv0 : pw_ok q 61 v0 = true) (ha3 : pw_arr va3 = true) (hi3 : pw_ok q va3 vi3 = true), ce + dc ≤ 9 → sl + ds ≤ 54 → pw_W q (n, f) S → pw_p (k35 S v0 v2 va3 vi3 v4 v5 v6 v7 v8) (fun S' r => ∀ f', pw_W q (n, f') S' → Q (some (.int r)) (n, f')) → np_G X 35 [(0, .ref (pw_pl 61 v0)), (2, .int v2), (3, .ref (pw_pl va3 vi3)), (4, .int v4), (5, .int v5), (6, .int v6), (7, .int v7), (8, .int v8)] [] (n, f) ce sl) (hk398 : ∀ (S : pw_S) (v0 : Nat) (va3 : Nat) (vi3 : Nat) (v5 : Int32) (v6 : Int32) (f : Nat → Option np_E) (ce sl : Nat) (hv0 : pw_ok q 61 v0 = true) (ha3 : pw_arr va3 = true) (hi3 : pw_ok q va3 vi3 = true), ce + dc ≤ 9 → sl + ds ≤ 54 → pw_W q (n, f) S → pw_p (k398 S v0 va3 vi3 v5 v6) (fun S' r => ∀ f', pw_W q (n, f') S' → Q (some (.int r)) (n, f')) → np_G X 398 [(0, .ref (pw_pl 61 v0)), (3, .ref (pw_pl va3 vi3)), (5, .int v5), (6, .int v6)] [] (n, f) ce sl) (S : pw_S) (v0 : Nat) (v2 : Int32) (va3 : Nat) (vi3 : Nat) (v4 : Int32) (v5 : Int32) (v6 : Int32) (v7 : Int32) (v8 : Int32) (s0 : Int32) (f : Nat → Option np_E) (ce sl : Nat) (hv0 : pw_ok q 61 v0 = true) (ha3 : pw_arr va3 = true) (hi3 : pw_ok q va3 vi3 = true) (hc : ce + 1 + dc ≤ 9) (hs : sl + 6 + ds ≤ 54) (hW : pw_W q (n, f) S) (h : pw_p (m_L_describes_j62 k35 k398 S v0 v2 va3 vi3 v4 v5 v6 v7 v8 s0) (fun S' r => ∀ f', pw_W q (n, f') S' → Q (some (.int r)) (n, f'))) : np_G X 62 [(0, .ref (pw_pl 61 v0)), (2, .int v2), (3, .ref (pw_pl va3 vi3)), (4, .int v4), (5, .int v5), (6, .int v6), (7, .int v7), (8, .int v8)] [.int s0] (n, f) ce sl := by
  unfold m_L_describes_j62 at h
  refine np_soundW (so_L_describes hX hR) [35, 62, 342, 398, 419, 445, 473] 400 62 _ _ _ _ _ ?_
  conv => whnf
  refine pw_st h (fun z12 h => ?_)
  conv => whnf
  refine pw_br h (fun _ h => ?_) (fun _ h => ?_)
  · conv => whnf
    refine np_chk_i (pw_and rfl (pw_and rfl (pw_and rfl ((pw_and (pw_le (by omega)) (pw_le (by omega))))))) ?_
    conv => whnf
    refine ⟨q, S, v0, 0, v8, (2 + ((v7 / 11) - (v7 / 11) / 5 * 5)), ((v7 / 55) - (v7 / 55) / 9 * 9), rfl, hv0, hW, pw_bd h (fun S13 r16 h f14 hW15 => ?_)⟩
    conv => whnf
    refine np_gl (J_L_describes_342 (dc := dc) (ds := ds) hX hR (fun S30 u18 u20 u21 u22 u25 u26 u27 u28 u29 f31 ce33 sl34 ho19 ho23 ho24 hc35 hs36 hW32 h => np_gl (hk35 S30 u18 u20 u21 u22 u25 u26 u27 u28 u29 f31 _ _ ho19 ho23 ho24 (by omega) (by omega) hW32 h) ⟨rfl, rfl, rfl, rfl, rfl, rfl, rfl, rfl, trivial⟩) (fun S45 u37 u39 u40 u43 u44 f46 ce48 sl49 ho38 ho41 ho42 hc50 hs51 hW47 h => np_gl (hk398 S45 u37 u39 u40 u43 u44 f46 _ _ ho38 ho41 ho42 (by omega) (by omega) hW47 h) ⟨rfl, rfl, rfl, rfl, trivial⟩) S13 v0 v2 va3 vi3 v4 v5 v6 v7 v8 r16 f14 _ _ hv0 ha3 hi3 (by omega) (by omega) hW15 h) ?_
    exact ⟨rfl, rfl, rfl, rfl, rfl, rfl, rfl, rfl, trivial⟩
  · conv => whnf
    refine pw_br h (fun _ h => ?_) (fun _ h => ?_)
    · conv => whnf
      refine np_chk_i (pw_and rfl (pw_and rfl (pw_and rfl ((pw_and (pw_le (by omega)) (pw_le (by omega))))))) ?_
      conv => whnf
      refine ⟨q, S, v0, 1, v8, (1 + ((v7 / 11) - (v7 / 11) / 5 * 5)), ((v7 / 55) - (v7 / 55) / 3 * 3), rfl, hv0, hW, pw_bd h (fun S52 r55 h f53 hW54 => ?_)⟩
      conv => whnf
      refine np_gl (J_L_describes_342 (dc := dc) (ds := ds) hX hR (fun S69 u57 u59 u60 u61 u64 u65 u66 u67 u68 f70 ce72 sl73 ho58 ho62 ho63 hc74 hs75 hW71 h => np_gl (hk35 S69 u57 u59 u60 u61 u64 u65 u66 u67 u68 f70 _ _ ho58 ho62 ho63 (by omega) (by omega) hW71 h) ⟨rfl, rfl, rfl, rfl, rfl, rfl, rfl, rfl, trivial⟩) (fun S84 u76 u78 u79 u82 u83 f85 ce87 sl88 ho77 ho80 ho81 hc89 hs90 hW86 h => np_gl (hk398 S84 u76 u78 u79 u82 u83 f85 _ _ ho77 ho80 ho81 (by omega) (by omega) hW86 h) ⟨rfl, rfl, rfl, rfl, trivial⟩) S52 v0 v2 va3 vi3 v4 v5 v6 v7 v8 r55 f53 _ _ hv0 ha3 hi3 (by omega) (by omega) hW54 h) ?_
      exact ⟨rfl, rfl, rfl, rfl, rfl, rfl, rfl, rfl, trivial⟩
    · conv => whnf
      refine pw_br h (fun _ h => ?_) (fun _ h => ?_)
      · conv => whnf
        refine pw_br h (fun _ h => ?_) (fun _ h => ?_)
        · conv => whnf
          refine np_chk_i (pw_and rfl (pw_and rfl (pw_and rfl ((pw_and (pw_le (by omega)) (pw_le (by omega))))))) ?_
          conv => whnf
          refine ⟨q, S, v0, 2, v8, 98, 0, rfl, hv0, hW, pw_bd h (fun S91 r94 h f92 hW93 => ?_)⟩
          conv => whnf
          refine np_gl (J_L_describes_342 (dc := dc) (ds := ds) hX hR (fun S108 u96 u98 u99 u100 u103 u104 u105 u106 u107 f109 ce111 sl112 ho97 ho101 ho102 hc113 hs114 hW110 h => np_gl (hk35 S108 u96 u98 u99 u100 u103 u104 u105 u106 u107 f109 _ _ ho97 ho101 ho102 (by omega) (by omega) hW110 h) ⟨rfl, rfl, rfl, rfl, rfl, rfl, rfl, rfl, trivial⟩) (fun S123 u115 u117 u118 u121 u122 f124 ce126 sl127 ho116 ho119 ho120 hc128 hs129 hW125 h => np_gl (hk398 S123 u115 u117 u118 u121 u122 f124 _ _ ho116 ho119 ho120 (by omega) (by omega) hW125 h) ⟨rfl, rfl, rfl, rfl, trivial⟩) S91 v0 v2 va3 vi3 v4 v5 v6 v7 v8 r94 f92 _ _ hv0 ha3 hi3 (by omega) (by omega) hW93 h) ?_
          exact ⟨rfl, rfl, rfl, rfl, rfl, rfl, rfl, rfl, trivial⟩
        · conv => whnf
          refine np_chk_i (pw_and rfl (pw_and rfl (pw_and rfl ((pw_and (pw_le (by omega)) (pw_le (by omega))))))) ?_
          conv => whnf
          refine ⟨q, S, v0, 2, v8, (59 + ((v7 / 33) - (v7 / 33) / 4 * 4)), 0, rfl, hv0, hW, pw_bd h (fun S130 r133 h f131 hW132 => ?_)⟩
          conv => whnf
          refine np_gl (J_L_describes_342 (dc := dc) (ds := ds) hX hR (fun S147 u135 u137 u138 u139 u142 u143 u144 u145 u146 f148 ce150 sl151 ho136 ho140 ho141 hc152 hs153 hW149 h => np_gl (hk35 S147 u135 u137 u138 u139 u142 u143 u144 u145 u146 f148 _ _ ho136 ho140 ho141 (by omega) (by omega) hW149 h) ⟨rfl, rfl, rfl, rfl, rfl, rfl, rfl, rfl, trivial⟩) (fun S162 u154 u156 u157 u160 u161 f163 ce165 sl166 ho155 ho158 ho159 hc167 hs168 hW164 h => np_gl (hk398 S162 u154 u156 u157 u160 u161 f163 _ _ ho155 ho158 ho159 (by omega) (by omega) hW164 h) ⟨rfl, rfl, rfl, rfl, trivial⟩) S130 v0 v2 va3 vi3 v4 v5 v6 v7 v8 r133 f131 _ _ hv0 ha3 hi3 (by omega) (by omega) hW132 h) ?_
          exact ⟨rfl, rfl, rfl, rfl, rfl, rfl, rfl, rfl, trivial⟩
      · conv => whnf
        refine pw_br h (fun _ h => ?_) (fun _ h => ?_)
        · conv => whnf
          refine np_chk_i (pw_and rfl (pw_and rfl (pw_and rfl ((pw_and (pw_le (by omega)) (pw_le (by omega))))))) ?_
          conv => whnf
          refine ⟨q, S, v0, 3, v8, (1 + ((v7 / 11) - (v7 / 11) / 4 * 4)), 0, rfl, hv0, hW, pw_bd h (fun S169 r172 h f170 hW171 => ?_)⟩
          conv => whnf
          refine np_gl (J_L_describes_342 (dc := dc) (ds := ds) hX hR (fun S186 u174 u176 u177 u178 u181 u182 u183 u184 u185 f187 ce189 sl190 ho175 ho179 ho180 hc191 hs192 hW188 h => np_gl (hk35 S186 u174 u176 u177 u178 u181 u182 u183 u184 u185 f187 _ _ ho175 ho179 ho180 (by omega) (by omega) hW188 h) ⟨rfl, rfl, rfl, rfl, rfl, rfl, rfl, rfl, trivial⟩) (fun S201 u193 u195 u196 u199 u200 f202 ce204 sl205 ho194 ho197 ho198 hc206 hs207 hW203 h => np_gl (hk398 S201 u193 u195 u196 u199 u200 f202 _ _ ho194 ho197 ho198 (by omega) (by omega) hW203 h) ⟨rfl, rfl, rfl, rfl, trivial⟩) S169 v0 v2 va3 vi3 v4 v5 v6 v7 v8 r172 f170 _ _ hv0 ha3 hi3 (by omega) (by omega) hW171 h) ?_
          exact ⟨rfl, rfl, rfl, rfl, rfl, rfl, rfl, rfl, trivial⟩
        · conv => whnf
          refine pw_br h (fun _ h => ?_) (fun _ h => ?_)
          · conv => whnf
            refine np_chk_i (pw_and rfl (pw_and rfl (pw_and rfl ((pw_and (pw_le (by omega)) (pw_le (by omega))))))) ?_
            conv => whnf
            refine ⟨q, S, v0, 4, 0, 0, 0, rfl, hv0, hW, pw_bd h (fun S208 r211 h f209 hW210 => ?_)⟩
            conv => whnf
            refine np_gl (J_L_describes_342 (dc := dc) (ds := ds) hX hR (fun S225 u213 u215 u216 u217 u220 u221 u222 u223 u224 f226 ce228 sl229 ho214 ho218 ho219 hc230 hs231 hW227 h => np_gl (hk35 S225 u213 u215 u216 u217 u220 u221 u222 u223 u224 f226 _ _ ho214 ho218 ho219 (by omega) (by omega) hW227 h) ⟨rfl, rfl, rfl, rfl, rfl, rfl, rfl, rfl, trivial⟩) (fun S240 u232 u234 u235 u238 u239 f241 ce243 sl244 ho233 ho236 ho237 hc245 hs246 hW242 h => np_gl (hk398 S240 u232 u234 u235 u238 u239 f241 _ _ ho233 ho236 ho237 (by omega) (by omega) hW242 h) ⟨rfl, rfl, rfl, rfl, trivial⟩) S208 v0 v2 va3 vi3 v4 v5 v6 v7 v8 r211 f209 _ _ hv0 ha3 hi3 (by omega) (by omega) hW210 h) ?_
            exact ⟨rfl, rfl, rfl, rfl, rfl, rfl, rfl, rfl, trivial⟩
          · conv => whnf
            refine pw_br h (fun _ h => ?_) (fun _ h => ?_)
            · conv => whnf
              refine np_chk_i (pw_and rfl (pw_and rfl (pw_and rfl ((pw_and (pw_le (by omega)) (pw_le (by omega))))))) ?_
              conv => whnf
              refine ⟨q, S, v0, 5, (32 + ((v7 / 11) - (v7 / 11) / 95 * 95)), 0, 0, rfl, hv0, hW, pw_bd h (fun S247 r250 h f248 hW249 => ?_)⟩
              conv => whnf
              refine np_gl (J_L_describes_342 (dc := dc) (ds := ds) hX hR (fun S264 u252 u254 u255 u256 u259 u260 u261 u262 u263 f265 ce267 sl268 ho253 ho257 ho258 hc269 hs270 hW266 h => np_gl (hk35 S264 u252 u254 u255 u256 u259 u260 u261 u262 u263 f265 _ _ ho253 ho257 ho258 (by omega) (by omega) hW266 h) ⟨rfl, rfl, rfl, rfl, rfl, rfl, rfl, rfl, trivial⟩) (fun S279 u271 u273 u274 u277 u278 f280 ce282 sl283 ho272 ho275 ho276 hc284 hs285 hW281 h => np_gl (hk398 S279 u271 u273 u274 u277 u278 f280 _ _ ho272 ho275 ho276 (by omega) (by omega) hW281 h) ⟨rfl, rfl, rfl, rfl, trivial⟩) S247 v0 v2 va3 vi3 v4 v5 v6 v7 v8 r250 f248 _ _ hv0 ha3 hi3 (by omega) (by omega) hW249 h) ?_
              exact ⟨rfl, rfl, rfl, rfl, rfl, rfl, rfl, rfl, trivial⟩
            · conv => whnf
              refine pw_br h (fun _ h => ?_) (fun _ h => ?_)
              · conv => whnf
                refine np_chk_i (pw_and rfl (pw_and rfl (pw_and rfl ((pw_and (pw_le (by omega)) (pw_le (by omega))))))) ?_
                conv => whnf
                refine ⟨q, S, v0, 6, v8, 0, 0, rfl, hv0, hW, pw_bd h (fun S286 r289 h f287 hW288 => ?_)⟩
                conv => whnf
                refine np_gl (J_L_describes_342 (dc := dc) (ds := ds) hX hR (fun S303 u291 u293 u294 u295 u298 u299 u300 u301 u302 f304 ce306 sl307 ho292 ho296 ho297 hc308 hs309 hW305 h => np_gl (hk35 S303 u291 u293 u294 u295 u298 u299 u300 u301 u302 f304 _ _ ho292 ho296 ho297 (by omega) (by omega) hW305 h) ⟨rfl, rfl, rfl, rfl, rfl, rfl, rfl, rfl, trivial⟩) (fun S318 u310 u312 u313 u316 u317 f319 ce321 sl322 ho311 ho314 ho315 hc323 hs324 hW320 h => np_gl (hk398 S318 u310 u312 u313 u316 u317 f319 _ _ ho311 ho314 ho315 (by omega) (by omega) hW320 h) ⟨rfl, rfl, rfl, rfl, trivial⟩) S286 v0 v2 va3 vi3 v4 v5 v6 v7 v8 r289 f287 _ _ hv0 ha3 hi3 (by omega) (by omega) hW288 h) ?_
                exact ⟨rfl, rfl, rfl, rfl, rfl, rfl, rfl, rfl, trivial⟩
              · conv => whnf
                refine pw_br h (fun _ h => ?_) (fun _ h => ?_)
                · conv => whnf
                  refine pw_ck h (fun _ h => ?_)
                  conv => whnf
                  refine np_chk_i (pw_and rfl (pw_and rfl (pw_and rfl ((pw_and (pw_le (by omega)) (pw_le (by omega))))))) ?_
                  conv => whnf
                  refine ⟨q, S, v0, 7, ((v7 / 11) - (v7 / 11) / v4 * v4), (1 + ((v7 / 88) - (v7 / 88) / 2 * 2)), 0, rfl, hv0, hW, pw_bd h (fun S325 r328 h f326 hW327 => ?_)⟩
                  conv => whnf
                  refine np_gl (J_L_describes_342 (dc := dc) (ds := ds) hX hR (fun S342 u330 u332 u333 u334 u337 u338 u339 u340 u341 f343 ce345 sl346 ho331 ho335 ho336 hc347 hs348 hW344 h => np_gl (hk35 S342 u330 u332 u333 u334 u337 u338 u339 u340 u341 f343 _ _ ho331 ho335 ho336 (by omega) (by omega) hW344 h) ⟨rfl, rfl, rfl, rfl, rfl, rfl, rfl, rfl, trivial⟩) (fun S357 u349 u351 u352 u355 u356 f358 ce360 sl361 ho350 ho353 ho354 hc362 hs363 hW359 h => np_gl (hk398 S357 u349 u351 u352 u355 u356 f358 _ _ ho350 ho353 ho354 (by omega) (by omega) hW359 h) ⟨rfl, rfl, rfl, rfl, trivial⟩) S325 v0 v2 va3 vi3 v4 v5 v6 v7 v8 r328 f326 _ _ hv0 ha3 hi3 (by omega) (by omega) hW327 h) ?_
                  exact ⟨rfl, rfl, rfl, rfl, rfl, rfl, rfl, rfl, trivial⟩
                · conv => whnf
                  refine pw_br h (fun _ h => ?_) (fun _ h => ?_)
                  · conv => whnf
                    refine pw_ck h (fun _ h => ?_)
                    conv => whnf
                    refine np_chk_i (pw_and rfl (pw_and rfl (pw_and rfl ((pw_and (pw_le (by omega)) (pw_le (by omega))))))) ?_
                    conv => whnf
                    refine ⟨q, S, v0, 8, ((v7 / 11) - (v7 / 11) / v4 * v4), 1, ((v7 / 88) - (v7 / 88) / 4 * 4), rfl, hv0, hW, pw_bd h (fun S364 r367 h f365 hW366 => ?_)⟩
                    conv => whnf
                    refine np_gl (J_L_describes_342 (dc := dc) (ds := ds) hX hR (fun S381 u369 u371 u372 u373 u376 u377 u378 u379 u380 f382 ce384 sl385 ho370 ho374 ho375 hc386 hs387 hW383 h => np_gl (hk35 S381 u369 u371 u372 u373 u376 u377 u378 u379 u380 f382 _ _ ho370 ho374 ho375 (by omega) (by omega) hW383 h) ⟨rfl, rfl, rfl, rfl, rfl, rfl, rfl, rfl, trivial⟩) (fun S396 u388 u390 u391 u394 u395 f397 ce399 sl400 ho389 ho392 ho393 hc401 hs402 hW398 h => np_gl (hk398 S396 u388 u390 u391 u394 u395 f397 _ _ ho389 ho392 ho393 (by omega) (by omega) hW398 h) ⟨rfl, rfl, rfl, rfl, trivial⟩) S364 v0 v2 va3 vi3 v4 v5 v6 v7 v8 r367 f365 _ _ hv0 ha3 hi3 (by omega) (by omega) hW366 h) ?_
                    exact ⟨rfl, rfl, rfl, rfl, rfl, rfl, rfl, rfl, trivial⟩
                  · conv => whnf
                    refine pw_ck h (fun _ h => ?_)
                    conv => whnf
                    refine np_chk_i (pw_and rfl (pw_and rfl (pw_and rfl ((pw_and (pw_le (by omega)) (pw_le (by omega))))))) ?_
                    conv => whnf
                    refine ⟨q, S, v0, 9, ((v7 / 11) - (v7 / 11) / v4 * v4), 0, 0, rfl, hv0, hW, pw_bd h (fun S403 r406 h f404 hW405 => ?_)⟩
                    conv => whnf
                    refine np_gl (J_L_describes_342 (dc := dc) (ds := ds) hX hR (fun S420 u408 u410 u411 u412 u415 u416 u417 u418 u419 f421 ce423 sl424 ho409 ho413 ho414 hc425 hs426 hW422 h => np_gl (hk35 S420 u408 u410 u411 u412 u415 u416 u417 u418 u419 f421 _ _ ho409 ho413 ho414 (by omega) (by omega) hW422 h) ⟨rfl, rfl, rfl, rfl, rfl, rfl, rfl, rfl, trivial⟩) (fun S435 u427 u429 u430 u433 u434 f436 ce438 sl439 ho428 ho431 ho432 hc440 hs441 hW437 h => np_gl (hk398 S435 u427 u429 u430 u433 u434 f436 _ _ ho428 ho431 ho432 (by omega) (by omega) hW437 h) ⟨rfl, rfl, rfl, rfl, trivial⟩) S403 v0 v2 va3 vi3 v4 v5 v6 v7 v8 r406 f404 _ _ hv0 ha3 hi3 (by omega) (by omega) hW405 h) ?_
                    exact ⟨rfl, rfl, rfl, rfl, rfl, rfl, rfl, rfl, trivial⟩
noncomputable def m_L_describes_35 (k398 : pw_S → Nat → Nat → Nat → Int32 → Int32 → pw_R Int32) : Nat → pw_S → Nat → Int32 → Nat → Nat → Int32 → Int32 → Int32 → Int32 → Int32 → pw_R Int32
| 0, _, _, _, _, _, _, _, _, _, _ => none
| N + 1, S, v0, v2, va3, vi3, v4, v5, v6, v7, v8 =>
 if v4 ≤ v8 then
 (k398 S v0 va3 vi3 v5 v6)
 else
 (pw_l ((v7 - v7 / 11 * 11) : Int32) fun z442 =>
 if z442 = 10 then
 (m_L_describes_j62 (fun S455 u443 u445 u446 u447 u450 u451 u452 u453 u454 => m_L_describes_35 k398 N S455 u443 u445 u446 u447 u450 u451 u452 u453 u454) (fun S470 u462 u464 u465 u468 u469 => k398 S470 u462 u464 u465 u468 u469) S v0 v2 va3 vi3 v4 v5 v6 v7 v8 0)
 else
 (m_L_describes_j62 (fun S489 u477 u479 u480 u481 u484 u485 u486 u487 u488 => m_L_describes_35 k398 N S489 u477 u479 u480 u481 u484 u485 u486 u487 u488) (fun S504 u496 u498 u499 u502 u503 => k398 S504 u496 u498 u499 u502 u503) S v0 v2 va3 vi3 v4 v5 v6 v7 v8 z442))
set_option maxRecDepth 100000 in
set_option maxHeartbeats 8000000 in
theorem L_L_describes_35 {X : np_Ctx} (hX : np_ok RL cL_describes 11 8 152 9 54 .ireturn X) {Q : Option Value → np_W → Prop} {q : Nat} {n dc ds : Nat} (hR : ∀ st w ce sl, np_rt (some .boolean) 9 54 Q st w ce sl → X.2.2.1 st w ce sl) {k398 : pw_S → Nat → Nat → Nat → Int32 → Int32 → pw_R Int32} (hk398 : ∀ (S : pw_S) (v0 : Nat) (va3 : Nat) (vi3 : Nat) (v5 : Int32) (v6 : Int32) (f : Nat → Option np_E) (ce sl : Nat) (hv0 : pw_ok q 61 v0 = true) (ha3 : pw_arr va3 = true) (hi3 : pw_ok q va3 vi3 = true), ce + dc ≤ 9 → sl + ds ≤ 54 → pw_W q (n, f) S → pw_p (k398 S v0 va3 vi3 v5 v6) (fun S' r => ∀ f', pw_W q (n, f') S' → Q (some (.int r)) (n, f')) → np_G X 398 [(0, .ref (pw_pl 61 v0)), (3, .ref (pw_pl va3 vi3)), (5, .int v5), (6, .int v6)] [] (n, f) ce sl) : ∀ (N : Nat) (S : pw_S) (v0 : Nat) (v2 : Int32) (va3 : Nat) (vi3 : Nat) (v4 : Int32) (v5 : Int32) (v6 : Int32) (v7 : Int32) (v8 : Int32) (f : Nat → Option np_E) (ce sl : Nat) (hv0 : pw_ok q 61 v0 = true) (ha3 : pw_arr va3 = true) (hi3 : pw_ok q va3 vi3 = true), ce + N * 1 + dc ≤ 9 → sl + N * 6 + ds ≤ 54 → pw_W q (n, f) S → pw_p (m_L_describes_35 k398 N S v0 v2 va3 vi3 v4 v5 v6 v7 v8) (fun S' r => ∀ f', pw_W q (n, f') S' → Q (some (.int r)) (n, f')) → np_G X 35 [(0, .ref (pw_pl 61 v0)), (2, .int v2), (3, .ref (pw_pl va3 vi3)), (4, .int v4), (5, .int v5), (6, .int v6), (7, .int v7), (8, .int v8)] [] (n, f) ce sl := by
  intro N
  induction N with
  | zero =>
    intro S v0 v2 va3 vi3 v4 v5 v6 v7 v8 f ce sl hv0 ha3 hi3 hc hs hW h
    exact (pw_pn h).elim
  | succ N ih =>
    intro S v0 v2 va3 vi3 v4 v5 v6 v7 v8 f ce sl hv0 ha3 hi3 hc hs hW h
    unfold m_L_describes_35 at h
    refine np_soundW (so_L_describes hX hR) [35, 62, 342, 398, 419, 445, 473] 400 35 _ _ _ _ _ ?_
    conv => whnf
    refine pw_br h (fun _ h => ?_) (fun _ h => ?_)
    · conv => whnf
      exact np_gl (hk398 S v0 va3 vi3 v5 v6 f _ _ hv0 ha3 hi3 (by omega) (by omega) hW h) ⟨rfl, rfl, rfl, rfl, trivial⟩
    · conv => whnf
      refine pw_st h (fun z442 h => ?_)
      conv => whnf
      refine pw_br h (fun _ h => ?_) (fun _ h => ?_)
      · conv => whnf
        refine np_gl (J_L_describes_62 (dc := N * 1 + dc) (ds := N * 6 + ds) hX hR (fun S455 u443 u445 u446 u447 u450 u451 u452 u453 u454 f456 ce458 sl459 ho444 ho448 ho449 hc460 hs461 hW457 h => np_gl (ih S455 u443 u445 u446 u447 u450 u451 u452 u453 u454 f456 _ _ ho444 ho448 ho449 (by omega) (by omega) hW457 h) ⟨rfl, rfl, rfl, rfl, rfl, rfl, rfl, rfl, trivial⟩) (fun S470 u462 u464 u465 u468 u469 f471 ce473 sl474 ho463 ho466 ho467 hc475 hs476 hW472 h => np_gl (hk398 S470 u462 u464 u465 u468 u469 f471 _ _ ho463 ho466 ho467 (by omega) (by omega) hW472 h) ⟨rfl, rfl, rfl, rfl, trivial⟩) S v0 v2 va3 vi3 v4 v5 v6 v7 v8 0 f _ _ hv0 ha3 hi3 (by omega) (by omega) hW h) ?_
        exact ⟨rfl, rfl, rfl, rfl, rfl, rfl, rfl, rfl, trivial⟩
      · conv => whnf
        refine np_gl (J_L_describes_62 (dc := N * 1 + dc) (ds := N * 6 + ds) hX hR (fun S489 u477 u479 u480 u481 u484 u485 u486 u487 u488 f490 ce492 sl493 ho478 ho482 ho483 hc494 hs495 hW491 h => np_gl (ih S489 u477 u479 u480 u481 u484 u485 u486 u487 u488 f490 _ _ ho478 ho482 ho483 (by omega) (by omega) hW491 h) ⟨rfl, rfl, rfl, rfl, rfl, rfl, rfl, rfl, trivial⟩) (fun S504 u496 u498 u499 u502 u503 f505 ce507 sl508 ho497 ho500 ho501 hc509 hs510 hW506 h => np_gl (hk398 S504 u496 u498 u499 u502 u503 f505 _ _ ho497 ho500 ho501 (by omega) (by omega) hW506 h) ⟨rfl, rfl, rfl, rfl, trivial⟩) S v0 v2 va3 vi3 v4 v5 v6 v7 v8 z442 f _ _ hv0 ha3 hi3 (by omega) (by omega) hW h) ?_
        exact ⟨rfl, rfl, rfl, rfl, rfl, rfl, rfl, rfl, trivial⟩
noncomputable def m_L_describes_j473  (S : pw_S) (va3 : Nat) (vi3 : Nat) (v8 : Int32) (s0 : Int32) (s1 : Int32) : pw_R Int32 :=
 if s0 = s1 then
 (pw_l (1 : Int32) fun z511 =>
 pw_c (np_inb 0 (pw_len va3)) <|
 if v8 < 0 then
 (pw_c (np_inb 0 (pw_len va3)) <|
 pw_l (pw_up S va3 vi3 (upd (S va3 vi3) (0 : Int32).toNatClampNeg ((S va3 vi3 (0 : Int32).toNatClampNeg) + 0))) fun S512 =>
 pw_c (decide (z511 = 0) || decide (z511 = 1)) <|
 some (S512, z511))
 else
 (pw_c (np_inb 0 (pw_len va3)) <|
 pw_l (pw_up S va3 vi3 (upd (S va3 vi3) (0 : Int32).toNatClampNeg ((S va3 vi3 (0 : Int32).toNatClampNeg) + 1))) fun S516 =>
 pw_c (decide (z511 = 0) || decide (z511 = 1)) <|
 some (S516, z511)))
 else
 (pw_l (0 : Int32) fun z520 =>
 pw_c (np_inb 0 (pw_len va3)) <|
 if v8 < 0 then
 (pw_c (np_inb 0 (pw_len va3)) <|
 pw_l (pw_up S va3 vi3 (upd (S va3 vi3) (0 : Int32).toNatClampNeg ((S va3 vi3 (0 : Int32).toNatClampNeg) + 0))) fun S521 =>
 pw_c (decide (z520 = 0) || decide (z520 = 1)) <|
 some (S521, z520))
 else
 (pw_c (np_inb 0 (pw_len va3)) <|
 pw_l (pw_up S va3 vi3 (upd (S va3 vi3) (0 : Int32).toNatClampNeg ((S va3 vi3 (0 : Int32).toNatClampNeg) + 1))) fun S525 =>
 pw_c (decide (z520 = 0) || decide (z520 = 1)) <|
 some (S525, z520)))
set_option maxRecDepth 100000 in
set_option maxHeartbeats 8000000 in
theorem J_L_describes_473 {X : np_Ctx} (hX : np_ok RL cL_describes 11 8 152 9 54 .ireturn X) {Q : Option Value → np_W → Prop} {q : Nat} {n dc ds : Nat} (hR : ∀ st w ce sl, np_rt (some .boolean) 9 54 Q st w ce sl → X.2.2.1 st w ce sl) (S : pw_S) (va3 : Nat) (vi3 : Nat) (v8 : Int32) (s0 : Int32) (s1 : Int32) (f : Nat → Option np_E) (ce sl : Nat) (ha3 : pw_arr va3 = true) (hi3 : pw_ok q va3 vi3 = true) (hc : ce + 0 + dc ≤ 9) (hs : sl + 0 + ds ≤ 54) (hW : pw_W q (n, f) S) (h : pw_p (m_L_describes_j473 S va3 vi3 v8 s0 s1) (fun S' r => ∀ f', pw_W q (n, f') S' → Q (some (.int r)) (n, f'))) : np_G X 473 [(3, .ref (pw_pl va3 vi3)), (8, .int v8)] [.int s1, .int s0] (n, f) ce sl := by
  unfold m_L_describes_j473 at h
  refine np_soundW (so_L_describes hX hR) [35, 62, 342, 419, 445, 473] 400 473 _ _ _ _ _ ?_
  conv => whnf
  refine pw_br h (fun _ h => ?_) (fun _ h => ?_)
  · conv => whnf
    refine pw_st h (fun z511 h => ?_)
    conv => whnf
    refine np_rd_i (hW.ga ha3 hi3) ?_
    conv => whnf
    refine pw_ck h (fun _ h => ?_)
    conv => whnf
    refine pw_br h (fun _ h => ?_) (fun _ h => ?_)
    · conv => whnf
      refine np_rd_i (hW.ga ha3 hi3) ?_
      conv => whnf
      refine pw_ck h (fun _ h => ?_)
      conv => whnf
      refine pw_wr (a := va3) (i := vi3) (d := upd (S va3 vi3) (0 : Int32).toNatClampNeg ((S va3 vi3 (0 : Int32).toNatClampNeg) + 0)) hW hi3 (pw_ent_arr ha3).symm h (fun S512 f513 hW514 h => ?_)
      conv => whnf
      obtain ⟨hb515, h⟩ := pw_ck1 h
      conv => whnf
      exact ⟨(by omega), (by omega), ⟨_, rfl, pw_nz hb515⟩, _, fun _ _ h9 => h9, pw_ps h _ hW514⟩
    · conv => whnf
      refine np_rd_i (hW.ga ha3 hi3) ?_
      conv => whnf
      refine pw_ck h (fun _ h => ?_)
      conv => whnf
      refine pw_wr (a := va3) (i := vi3) (d := upd (S va3 vi3) (0 : Int32).toNatClampNeg ((S va3 vi3 (0 : Int32).toNatClampNeg) + 1)) hW hi3 (pw_ent_arr ha3).symm h (fun S516 f517 hW518 h => ?_)
      conv => whnf
      obtain ⟨hb519, h⟩ := pw_ck1 h
      conv => whnf
      exact ⟨(by omega), (by omega), ⟨_, rfl, pw_nz hb519⟩, _, fun _ _ h9 => h9, pw_ps h _ hW518⟩
  · conv => whnf
    refine pw_st h (fun z520 h => ?_)
    conv => whnf
    refine np_rd_i (hW.ga ha3 hi3) ?_
    conv => whnf
    refine pw_ck h (fun _ h => ?_)
    conv => whnf
    refine pw_br h (fun _ h => ?_) (fun _ h => ?_)
    · conv => whnf
      refine np_rd_i (hW.ga ha3 hi3) ?_
      conv => whnf
      refine pw_ck h (fun _ h => ?_)
      conv => whnf
      refine pw_wr (a := va3) (i := vi3) (d := upd (S va3 vi3) (0 : Int32).toNatClampNeg ((S va3 vi3 (0 : Int32).toNatClampNeg) + 0)) hW hi3 (pw_ent_arr ha3).symm h (fun S521 f522 hW523 h => ?_)
      conv => whnf
      obtain ⟨hb524, h⟩ := pw_ck1 h
      conv => whnf
      exact ⟨(by omega), (by omega), ⟨_, rfl, pw_nz hb524⟩, _, fun _ _ h9 => h9, pw_ps h _ hW523⟩
    · conv => whnf
      refine np_rd_i (hW.ga ha3 hi3) ?_
      conv => whnf
      refine pw_ck h (fun _ h => ?_)
      conv => whnf
      refine pw_wr (a := va3) (i := vi3) (d := upd (S va3 vi3) (0 : Int32).toNatClampNeg ((S va3 vi3 (0 : Int32).toNatClampNeg) + 1)) hW hi3 (pw_ent_arr ha3).symm h (fun S525 f526 hW527 h => ?_)
      conv => whnf
      obtain ⟨hb528, h⟩ := pw_ck1 h
      conv => whnf
      exact ⟨(by omega), (by omega), ⟨_, rfl, pw_nz hb528⟩, _, fun _ _ h9 => h9, pw_ps h _ hW527⟩
noncomputable def m_L_describes_j445  (S : pw_S) (v0 : Nat) (va3 : Nat) (vi3 : Nat) (v6 : Int32) (v8 : Int32) (v9 : Int32) : pw_R Int32 :=
 if v6 ≤ v9 then
 (pw_l (0 : Int32) fun z529 =>
 pw_c (np_inb 0 (pw_len va3)) <|
 if v8 < 0 then
 (pw_c (np_inb 0 (pw_len va3)) <|
 pw_l (pw_up S va3 vi3 (upd (S va3 vi3) (0 : Int32).toNatClampNeg ((S va3 vi3 (0 : Int32).toNatClampNeg) + 0))) fun S530 =>
 pw_c (decide (z529 = 0) || decide (z529 = 1)) <|
 some (S530, z529))
 else
 (pw_c (np_inb 0 (pw_len va3)) <|
 pw_l (pw_up S va3 vi3 (upd (S va3 vi3) (0 : Int32).toNatClampNeg ((S va3 vi3 (0 : Int32).toNatClampNeg) + 1))) fun S534 =>
 pw_c (decide (z529 = 0) || decide (z529 = 1)) <|
 some (S534, z529)))
 else
 (if v9 < (-1) then
 (pw_l (0 : Int32) fun z538 =>
 pw_c (np_inb 0 (pw_len va3)) <|
 if v8 < 0 then
 (pw_c (np_inb 0 (pw_len va3)) <|
 pw_l (pw_up S va3 vi3 (upd (S va3 vi3) (0 : Int32).toNatClampNeg ((S va3 vi3 (0 : Int32).toNatClampNeg) + 0))) fun S539 =>
 pw_c (decide (z538 = 0) || decide (z538 = 1)) <|
 some (S539, z538))
 else
 (pw_c (np_inb 0 (pw_len va3)) <|
 pw_l (pw_up S va3 vi3 (upd (S va3 vi3) (0 : Int32).toNatClampNeg ((S va3 vi3 (0 : Int32).toNatClampNeg) + 1))) fun S543 =>
 pw_c (decide (z538 = 0) || decide (z538 = 1)) <|
 some (S543, z538)))
 else
 (pw_b (m_X11_dropItems S v0) fun S547 r550 =>
 if 0 ≤ v8 then
 (m_L_describes_j473 S547 va3 vi3 v8 r550 0)
 else
 (m_L_describes_j473 S547 va3 vi3 v8 r550 v6)))
set_option maxRecDepth 100000 in
set_option maxHeartbeats 8000000 in
theorem J_L_describes_445 {X : np_Ctx} (hX : np_ok RL cL_describes 11 8 152 9 54 .ireturn X) {Q : Option Value → np_W → Prop} {q : Nat} {n dc ds : Nat} (hR : ∀ st w ce sl, np_rt (some .boolean) 9 54 Q st w ce sl → X.2.2.1 st w ce sl) (S : pw_S) (v0 : Nat) (va3 : Nat) (vi3 : Nat) (v6 : Int32) (v8 : Int32) (v9 : Int32) (f : Nat → Option np_E) (ce sl : Nat) (hv0 : pw_ok q 61 v0 = true) (ha3 : pw_arr va3 = true) (hi3 : pw_ok q va3 vi3 = true) (hc : ce + 0 + dc ≤ 9) (hs : sl + 0 + ds ≤ 54) (hW : pw_W q (n, f) S) (h : pw_p (m_L_describes_j445 S v0 va3 vi3 v6 v8 v9) (fun S' r => ∀ f', pw_W q (n, f') S' → Q (some (.int r)) (n, f'))) : np_G X 445 [(0, .ref (pw_pl 61 v0)), (3, .ref (pw_pl va3 vi3)), (6, .int v6), (8, .int v8), (9, .int v9)] [] (n, f) ce sl := by
  unfold m_L_describes_j445 at h
  refine np_soundW (so_L_describes hX hR) [35, 62, 342, 419, 445, 473] 400 445 _ _ _ _ _ ?_
  conv => whnf
  refine pw_br h (fun _ h => ?_) (fun _ h => ?_)
  · conv => whnf
    refine pw_st h (fun z529 h => ?_)
    conv => whnf
    refine np_rd_i (hW.ga ha3 hi3) ?_
    conv => whnf
    refine pw_ck h (fun _ h => ?_)
    conv => whnf
    refine pw_br h (fun _ h => ?_) (fun _ h => ?_)
    · conv => whnf
      refine np_rd_i (hW.ga ha3 hi3) ?_
      conv => whnf
      refine pw_ck h (fun _ h => ?_)
      conv => whnf
      refine pw_wr (a := va3) (i := vi3) (d := upd (S va3 vi3) (0 : Int32).toNatClampNeg ((S va3 vi3 (0 : Int32).toNatClampNeg) + 0)) hW hi3 (pw_ent_arr ha3).symm h (fun S530 f531 hW532 h => ?_)
      conv => whnf
      obtain ⟨hb533, h⟩ := pw_ck1 h
      conv => whnf
      exact ⟨(by omega), (by omega), ⟨_, rfl, pw_nz hb533⟩, _, fun _ _ h9 => h9, pw_ps h _ hW532⟩
    · conv => whnf
      refine np_rd_i (hW.ga ha3 hi3) ?_
      conv => whnf
      refine pw_ck h (fun _ h => ?_)
      conv => whnf
      refine pw_wr (a := va3) (i := vi3) (d := upd (S va3 vi3) (0 : Int32).toNatClampNeg ((S va3 vi3 (0 : Int32).toNatClampNeg) + 1)) hW hi3 (pw_ent_arr ha3).symm h (fun S534 f535 hW536 h => ?_)
      conv => whnf
      obtain ⟨hb537, h⟩ := pw_ck1 h
      conv => whnf
      exact ⟨(by omega), (by omega), ⟨_, rfl, pw_nz hb537⟩, _, fun _ _ h9 => h9, pw_ps h _ hW536⟩
  · conv => whnf
    refine pw_br h (fun _ h => ?_) (fun _ h => ?_)
    · conv => whnf
      refine pw_st h (fun z538 h => ?_)
      conv => whnf
      refine np_rd_i (hW.ga ha3 hi3) ?_
      conv => whnf
      refine pw_ck h (fun _ h => ?_)
      conv => whnf
      refine pw_br h (fun _ h => ?_) (fun _ h => ?_)
      · conv => whnf
        refine np_rd_i (hW.ga ha3 hi3) ?_
        conv => whnf
        refine pw_ck h (fun _ h => ?_)
        conv => whnf
        refine pw_wr (a := va3) (i := vi3) (d := upd (S va3 vi3) (0 : Int32).toNatClampNeg ((S va3 vi3 (0 : Int32).toNatClampNeg) + 0)) hW hi3 (pw_ent_arr ha3).symm h (fun S539 f540 hW541 h => ?_)
        conv => whnf
        obtain ⟨hb542, h⟩ := pw_ck1 h
        conv => whnf
        exact ⟨(by omega), (by omega), ⟨_, rfl, pw_nz hb542⟩, _, fun _ _ h9 => h9, pw_ps h _ hW541⟩
      · conv => whnf
        refine np_rd_i (hW.ga ha3 hi3) ?_
        conv => whnf
        refine pw_ck h (fun _ h => ?_)
        conv => whnf
        refine pw_wr (a := va3) (i := vi3) (d := upd (S va3 vi3) (0 : Int32).toNatClampNeg ((S va3 vi3 (0 : Int32).toNatClampNeg) + 1)) hW hi3 (pw_ent_arr ha3).symm h (fun S543 f544 hW545 h => ?_)
        conv => whnf
        obtain ⟨hb546, h⟩ := pw_ck1 h
        conv => whnf
        exact ⟨(by omega), (by omega), ⟨_, rfl, pw_nz hb546⟩, _, fun _ _ h9 => h9, pw_ps h _ hW545⟩
    · conv => whnf
      refine np_rd_i (hW.g hv0) ?_
      conv => whnf
      refine np_chk_i (pw_and rfl (pw_and rfl (pw_and rfl ((pw_and (pw_le (by omega)) (pw_le (by omega))))))) ?_
      conv => whnf
      refine ⟨q, S, v0, rfl, hv0, hW, pw_bd h (fun S547 r550 h f548 hW549 => ?_)⟩
      conv => whnf
      refine pw_br h (fun _ h => ?_) (fun _ h => ?_)
      · conv => whnf
        refine np_gl (J_L_describes_473 (dc := dc) (ds := ds) hX hR S547 va3 vi3 v8 r550 0 f548 _ _ ha3 hi3 (by omega) (by omega) hW549 h) ?_
        exact ⟨rfl, rfl, trivial⟩
      · conv => whnf
        refine np_gl (J_L_describes_473 (dc := dc) (ds := ds) hX hR S547 va3 vi3 v8 r550 v6 f548 _ _ ha3 hi3 (by omega) (by omega) hW549 h) ?_
        exact ⟨rfl, rfl, trivial⟩
noncomputable def m_L_describes_j419  (S : pw_S) (v0 : Nat) (va3 : Nat) (vi3 : Nat) (v5 : Int32) (v6 : Int32) (v8 : Int32) (s0 : Int32) : pw_R Int32 :=
 pw_l (s0 : Int32) fun z552 =>
 if v5 < 0 then
 (pw_l (0 : Int32) fun z553 =>
 pw_c (np_inb 0 (pw_len va3)) <|
 if v8 < 0 then
 (pw_c (np_inb 0 (pw_len va3)) <|
 pw_l (pw_up S va3 vi3 (upd (S va3 vi3) (0 : Int32).toNatClampNeg ((S va3 vi3 (0 : Int32).toNatClampNeg) + 0))) fun S554 =>
 pw_c (decide (z553 = 0) || decide (z553 = 1)) <|
 some (S554, z553))
 else
 (pw_c (np_inb 0 (pw_len va3)) <|
 pw_l (pw_up S va3 vi3 (upd (S va3 vi3) (0 : Int32).toNatClampNeg ((S va3 vi3 (0 : Int32).toNatClampNeg) + 1))) fun S558 =>
 pw_c (decide (z553 = 0) || decide (z553 = 1)) <|
 some (S558, z553)))
 else
 (if v8 = (-1) then
 (m_L_describes_j445 S v0 va3 vi3 v6 v8 z552)
 else
 (pw_c (np_inb 0 (pw_len va3)) <|
 if v8 = (S va3 vi3 (0 : Int32).toNatClampNeg) then
 (if v6 ≤ 0 then
 (pw_l (0 : Int32) fun z562 =>
 pw_c (np_inb 0 (pw_len va3)) <|
 if v8 < 0 then
 (pw_c (np_inb 0 (pw_len va3)) <|
 pw_l (pw_up S va3 vi3 (upd (S va3 vi3) (0 : Int32).toNatClampNeg ((S va3 vi3 (0 : Int32).toNatClampNeg) + 0))) fun S563 =>
 pw_c (decide (z562 = 0) || decide (z562 = 1)) <|
 some (S563, z562))
 else
 (pw_c (np_inb 0 (pw_len va3)) <|
 pw_l (pw_up S va3 vi3 (upd (S va3 vi3) (0 : Int32).toNatClampNeg ((S va3 vi3 (0 : Int32).toNatClampNeg) + 1))) fun S567 =>
 pw_c (decide (z562 = 0) || decide (z562 = 1)) <|
 some (S567, z562)))
 else
 (m_L_describes_j445 S v0 va3 vi3 v6 v8 z552))
 else
 (pw_l (0 : Int32) fun z571 =>
 pw_c (np_inb 0 (pw_len va3)) <|
 if v8 < 0 then
 (pw_c (np_inb 0 (pw_len va3)) <|
 pw_l (pw_up S va3 vi3 (upd (S va3 vi3) (0 : Int32).toNatClampNeg ((S va3 vi3 (0 : Int32).toNatClampNeg) + 0))) fun S572 =>
 pw_c (decide (z571 = 0) || decide (z571 = 1)) <|
 some (S572, z571))
 else
 (pw_c (np_inb 0 (pw_len va3)) <|
 pw_l (pw_up S va3 vi3 (upd (S va3 vi3) (0 : Int32).toNatClampNeg ((S va3 vi3 (0 : Int32).toNatClampNeg) + 1))) fun S576 =>
 pw_c (decide (z571 = 0) || decide (z571 = 1)) <|
 some (S576, z571)))))
set_option maxRecDepth 100000 in
set_option maxHeartbeats 8000000 in
theorem J_L_describes_419 {X : np_Ctx} (hX : np_ok RL cL_describes 11 8 152 9 54 .ireturn X) {Q : Option Value → np_W → Prop} {q : Nat} {n dc ds : Nat} (hR : ∀ st w ce sl, np_rt (some .boolean) 9 54 Q st w ce sl → X.2.2.1 st w ce sl) (S : pw_S) (v0 : Nat) (va3 : Nat) (vi3 : Nat) (v5 : Int32) (v6 : Int32) (v8 : Int32) (s0 : Int32) (f : Nat → Option np_E) (ce sl : Nat) (hv0 : pw_ok q 61 v0 = true) (ha3 : pw_arr va3 = true) (hi3 : pw_ok q va3 vi3 = true) (hc : ce + 0 + dc ≤ 9) (hs : sl + 0 + ds ≤ 54) (hW : pw_W q (n, f) S) (h : pw_p (m_L_describes_j419 S v0 va3 vi3 v5 v6 v8 s0) (fun S' r => ∀ f', pw_W q (n, f') S' → Q (some (.int r)) (n, f'))) : np_G X 419 [(0, .ref (pw_pl 61 v0)), (3, .ref (pw_pl va3 vi3)), (5, .int v5), (6, .int v6), (8, .int v8)] [.int s0] (n, f) ce sl := by
  unfold m_L_describes_j419 at h
  refine np_soundW (so_L_describes hX hR) [35, 62, 342, 419, 445, 473] 400 419 _ _ _ _ _ ?_
  conv => whnf
  refine pw_st h (fun z552 h => ?_)
  conv => whnf
  refine pw_br h (fun _ h => ?_) (fun _ h => ?_)
  · conv => whnf
    refine pw_st h (fun z553 h => ?_)
    conv => whnf
    refine np_rd_i (hW.ga ha3 hi3) ?_
    conv => whnf
    refine pw_ck h (fun _ h => ?_)
    conv => whnf
    refine pw_br h (fun _ h => ?_) (fun _ h => ?_)
    · conv => whnf
      refine np_rd_i (hW.ga ha3 hi3) ?_
      conv => whnf
      refine pw_ck h (fun _ h => ?_)
      conv => whnf
      refine pw_wr (a := va3) (i := vi3) (d := upd (S va3 vi3) (0 : Int32).toNatClampNeg ((S va3 vi3 (0 : Int32).toNatClampNeg) + 0)) hW hi3 (pw_ent_arr ha3).symm h (fun S554 f555 hW556 h => ?_)
      conv => whnf
      obtain ⟨hb557, h⟩ := pw_ck1 h
      conv => whnf
      exact ⟨(by omega), (by omega), ⟨_, rfl, pw_nz hb557⟩, _, fun _ _ h9 => h9, pw_ps h _ hW556⟩
    · conv => whnf
      refine np_rd_i (hW.ga ha3 hi3) ?_
      conv => whnf
      refine pw_ck h (fun _ h => ?_)
      conv => whnf
      refine pw_wr (a := va3) (i := vi3) (d := upd (S va3 vi3) (0 : Int32).toNatClampNeg ((S va3 vi3 (0 : Int32).toNatClampNeg) + 1)) hW hi3 (pw_ent_arr ha3).symm h (fun S558 f559 hW560 h => ?_)
      conv => whnf
      obtain ⟨hb561, h⟩ := pw_ck1 h
      conv => whnf
      exact ⟨(by omega), (by omega), ⟨_, rfl, pw_nz hb561⟩, _, fun _ _ h9 => h9, pw_ps h _ hW560⟩
  · conv => whnf
    refine pw_br h (fun _ h => ?_) (fun _ h => ?_)
    · conv => whnf
      refine np_gl (J_L_describes_445 (dc := dc) (ds := ds) hX hR S v0 va3 vi3 v6 v8 z552 f _ _ hv0 ha3 hi3 (by omega) (by omega) hW h) ?_
      exact ⟨rfl, rfl, rfl, rfl, rfl, trivial⟩
    · conv => whnf
      refine np_rd_i (hW.ga ha3 hi3) ?_
      conv => whnf
      refine pw_ck h (fun _ h => ?_)
      conv => whnf
      refine pw_br h (fun _ h => ?_) (fun _ h => ?_)
      · conv => whnf
        refine pw_br h (fun _ h => ?_) (fun _ h => ?_)
        · conv => whnf
          refine pw_st h (fun z562 h => ?_)
          conv => whnf
          refine np_rd_i (hW.ga ha3 hi3) ?_
          conv => whnf
          refine pw_ck h (fun _ h => ?_)
          conv => whnf
          refine pw_br h (fun _ h => ?_) (fun _ h => ?_)
          · conv => whnf
            refine np_rd_i (hW.ga ha3 hi3) ?_
            conv => whnf
            refine pw_ck h (fun _ h => ?_)
            conv => whnf
            refine pw_wr (a := va3) (i := vi3) (d := upd (S va3 vi3) (0 : Int32).toNatClampNeg ((S va3 vi3 (0 : Int32).toNatClampNeg) + 0)) hW hi3 (pw_ent_arr ha3).symm h (fun S563 f564 hW565 h => ?_)
            conv => whnf
            obtain ⟨hb566, h⟩ := pw_ck1 h
            conv => whnf
            exact ⟨(by omega), (by omega), ⟨_, rfl, pw_nz hb566⟩, _, fun _ _ h9 => h9, pw_ps h _ hW565⟩
          · conv => whnf
            refine np_rd_i (hW.ga ha3 hi3) ?_
            conv => whnf
            refine pw_ck h (fun _ h => ?_)
            conv => whnf
            refine pw_wr (a := va3) (i := vi3) (d := upd (S va3 vi3) (0 : Int32).toNatClampNeg ((S va3 vi3 (0 : Int32).toNatClampNeg) + 1)) hW hi3 (pw_ent_arr ha3).symm h (fun S567 f568 hW569 h => ?_)
            conv => whnf
            obtain ⟨hb570, h⟩ := pw_ck1 h
            conv => whnf
            exact ⟨(by omega), (by omega), ⟨_, rfl, pw_nz hb570⟩, _, fun _ _ h9 => h9, pw_ps h _ hW569⟩
        · conv => whnf
          refine np_gl (J_L_describes_445 (dc := dc) (ds := ds) hX hR S v0 va3 vi3 v6 v8 z552 f _ _ hv0 ha3 hi3 (by omega) (by omega) hW h) ?_
          exact ⟨rfl, rfl, rfl, rfl, rfl, trivial⟩
      · conv => whnf
        refine pw_st h (fun z571 h => ?_)
        conv => whnf
        refine np_rd_i (hW.ga ha3 hi3) ?_
        conv => whnf
        refine pw_ck h (fun _ h => ?_)
        conv => whnf
        refine pw_br h (fun _ h => ?_) (fun _ h => ?_)
        · conv => whnf
          refine np_rd_i (hW.ga ha3 hi3) ?_
          conv => whnf
          refine pw_ck h (fun _ h => ?_)
          conv => whnf
          refine pw_wr (a := va3) (i := vi3) (d := upd (S va3 vi3) (0 : Int32).toNatClampNeg ((S va3 vi3 (0 : Int32).toNatClampNeg) + 0)) hW hi3 (pw_ent_arr ha3).symm h (fun S572 f573 hW574 h => ?_)
          conv => whnf
          obtain ⟨hb575, h⟩ := pw_ck1 h
          conv => whnf
          exact ⟨(by omega), (by omega), ⟨_, rfl, pw_nz hb575⟩, _, fun _ _ h9 => h9, pw_ps h _ hW574⟩
        · conv => whnf
          refine np_rd_i (hW.ga ha3 hi3) ?_
          conv => whnf
          refine pw_ck h (fun _ h => ?_)
          conv => whnf
          refine pw_wr (a := va3) (i := vi3) (d := upd (S va3 vi3) (0 : Int32).toNatClampNeg ((S va3 vi3 (0 : Int32).toNatClampNeg) + 1)) hW hi3 (pw_ent_arr ha3).symm h (fun S576 f577 hW578 h => ?_)
          conv => whnf
          obtain ⟨hb579, h⟩ := pw_ck1 h
          conv => whnf
          exact ⟨(by omega), (by omega), ⟨_, rfl, pw_nz hb579⟩, _, fun _ _ h9 => h9, pw_ps h _ hW578⟩
noncomputable def m_L_describes (S : pw_S) (i0 : Nat) (x1 : Int32) (x2 : Int32) (a3 : Nat) (i3 : Nat) : pw_R Int32 :=
 pw_c (np_inb 0 (pw_len a3)) <|
 if (S a3 i3 (0 : Int32).toNatClampNeg) = 4 then
 (some (S, 1))
 else
 (pw_l ((2 + (x1 - x1 / 5 * 5)) : Int32) fun z580 =>
 pw_b (m_X11_dropItems S i0) fun S581 r584 =>
 pw_l (r584 : Int32) fun z586 =>
 pw_l (0 : Int32) fun z587 =>
 pw_l (((x1 / 5) ^^^ x2) : Int32) fun z588 =>
 pw_l (0 : Int32) fun z589 =>
 m_L_describes_35
 (fun S598 u590 u592 u593 u596 u597 =>
 (pw_b (m_X11_description S598 u590) fun S601 r604 =>
 pw_e r604 (fun r606 =>
 (pw_l (r606 : Int32) fun z608 =>
 if 0 ≤ z608 then
 (pw_b (m_X11_sure S601 u590 z608) fun S609 r612 =>
 pw_e r612 (fun r614 =>
 (m_L_describes_j419 S609 u590 u592 u593 u596 u597 z608 r614)) (fun _ => none))
 else
 (m_L_describes_j419 S601 u590 u592 u593 u596 u597 z608 (-1)))) (fun _ => none))) (pw_F 7) S581 i0 x2 a3 i3 z580 z586 z587 z588 z589)
def sp_L_describes : np_Sp := fun vs w Q => ∃ (q : Nat) (S : pw_S) (i0 : Nat) (x1 : Int32) (x2 : Int32) (a3 : Nat) (i3 : Nat), vs = [.ref (pw_pl 61 i0), .int x1, .int x2, .ref (pw_pl a3 i3)] ∧ pw_ok q 61 i0 = true ∧ pw_arr a3 = true ∧ pw_ok q a3 i3 = true ∧ pw_W q w S ∧ pw_p (m_L_describes S i0 x1 x2 a3 i3) (fun S' r => ∀ f', pw_W q (w.1, f') S' → Q (some (.int r)) (w.1, f'))
set_option maxRecDepth 100000 in
set_option maxHeartbeats 8000000 in
theorem C_L_describes : np_C yL_describes cL_describes 11 (some .boolean) 8 152 9 54 (sp_L_describes) := by
  refine np_of (by decide) ?_
  intro X vs w Q hsp hX hmn hRt hlt
  obtain ⟨q, S, i0, x1, x2, a3, i3, rfl, hi0, ha3, hi3, hW, h⟩ := hsp
  obtain ⟨n, f⟩ := w
  unfold m_L_describes at h
  have hR : ∀ st w ce sl, np_rt (some .boolean) 9 54 Q st w ce sl → X.2.2.1 st w ce sl := fun _ _ _ _ h => by rw [hRt]; exact h
  refine np_soundW (so_L_describes hX hR) [35, 62, 342, 419, 445, 473] 400 0 _ _ _ _ _ ?_
  conv => whnf
  refine np_rd_i (hW.ga ha3 hi3) ?_
  conv => whnf
  refine pw_ck h (fun _ h => ?_)
  conv => whnf
  refine pw_br h (fun _ h => ?_) (fun _ h => ?_)
  · conv => whnf
    exact ⟨Nat.le_of_ble_eq_true rfl, Nat.le_of_ble_eq_true rfl, ⟨_, rfl, by decide⟩, _, fun _ _ h9 => h9, pw_ps h _ hW⟩
  · conv => whnf
    refine pw_st h (fun z580 h => ?_)
    conv => whnf
    refine np_rd_i (hW.g hi0) ?_
    conv => whnf
    refine ⟨q, S, i0, rfl, hi0, hW, pw_bd h (fun S581 r584 h f582 hW583 => ?_)⟩
    conv => whnf
    refine pw_st h (fun z586 h => ?_)
    conv => whnf
    refine pw_st h (fun z587 h => ?_)
    conv => whnf
    refine pw_st h (fun z588 h => ?_)
    conv => whnf
    refine pw_st h (fun z589 h => ?_)
    conv => whnf
    refine np_gl (L_L_describes_35 (dc := 2) (ds := 12) hX hR (fun S598 u590 u592 u593 u596 u597 f599 ce616 sl617 ho591 ho594 ho595 hc618 hs619 hW600 h => ?_) (pw_F 7) S581 i0 x2 a3 i3 z580 z586 z587 z588 z589 f582 _ _ hi0 ha3 hi3 (by rw [pw_F_eq]; omega) (by rw [pw_F_eq]; omega) hW583 h) ⟨rfl, rfl, rfl, rfl, rfl, rfl, rfl, rfl, trivial⟩
    · refine np_soundW (so_L_describes hX hR) [35, 62, 342, 419, 445, 473] 400 398 _ _ _ _ _ ?_
      conv => whnf
      refine np_rd_i (hW600.g ho591) ?_
      conv => whnf
      refine np_chk_i (pw_and rfl (pw_and rfl (pw_and rfl (pw_and rfl ((pw_and (pw_le (by omega)) (pw_le (by omega)))))))) ?_
      conv => whnf
      refine ⟨q, S598, u590, rfl, ho591, hW600, pw_bd h (fun S601 r604 h f602 hW603 => ?_)⟩
      rcases r604 with r606 | e607
      · replace h := pw_ei h
        conv => whnf
        refine pw_st h (fun z608 h => ?_)
        conv => whnf
        refine pw_br h (fun _ h => ?_) (fun _ h => ?_)
        · conv => whnf
          refine np_rd_i (hW603.g ho591) ?_
          conv => whnf
          refine np_chk_i (pw_and rfl (pw_and rfl (pw_and rfl (pw_and rfl ((pw_and (pw_le (by omega)) (pw_le (by omega)))))))) ?_
          conv => whnf
          refine ⟨q, S601, u590, z608, rfl, ho591, hW603, pw_bd h (fun S609 r612 h f610 hW611 => ?_)⟩
          rcases r612 with r614 | e615
          · replace h := pw_ei h
            conv => whnf
            refine np_gl (J_L_describes_419 (dc := 0) (ds := 0) hX hR S609 u590 u592 u593 u596 u597 z608 r614 f610 _ _ ho591 ho594 ho595 (by omega) (by omega) hW611 h) ?_
            exact ⟨rfl, rfl, rfl, rfl, rfl, trivial⟩
          · exact (pw_pn h).elim
        · conv => whnf
          refine np_gl (J_L_describes_419 (dc := 0) (ds := 0) hX hR S601 u590 u592 u593 u596 u597 z608 (-1) f602 _ _ ho591 ho594 ho595 (by omega) (by omega) hW603 h) ?_
          exact ⟨rfl, rfl, rfl, rfl, rfl, trivial⟩
      · exact (pw_pn h).elim
theorem dL_constrains_0 : decode cL_constrains 0 = .ok (.aload_n 3, 1) := by decide +kernel
theorem dL_constrains_1 : decode cL_constrains 1 = .ok (.iconst 0, 1) := by decide +kernel
theorem dL_constrains_2 : decode cL_constrains 2 = .ok (.iaload, 1) := by decide +kernel
theorem dL_constrains_3 : decode cL_constrains 3 = .ok (.ifCond .ne 5, 3) := by decide +kernel
theorem dL_constrains_6 : decode cL_constrains 6 = .ok (.iconst 1, 1) := by decide +kernel
theorem dL_constrains_7 : decode cL_constrains 7 = .ok (.ireturn, 1) := by decide +kernel
theorem dL_constrains_8 : decode cL_constrains 8 = .ok (.iload_n 2, 1) := by decide +kernel
theorem dL_constrains_9 : decode cL_constrains 9 = .ok (.iconst 4, 1) := by decide +kernel
theorem dL_constrains_10 : decode cL_constrains 10 = .ok (.irem, 1) := by decide +kernel
theorem dL_constrains_11 : decode cL_constrains 11 = .ok (.istore 4, 2) := by decide +kernel
theorem dL_constrains_13 : decode cL_constrains 13 = .ok (.iload_n 1, 1) := by decide +kernel
theorem dL_constrains_14 : decode cL_constrains 14 = .ok (.iconst 4, 1) := by decide +kernel
theorem dL_constrains_15 : decode cL_constrains 15 = .ok (.idiv, 1) := by decide +kernel
theorem dL_constrains_16 : decode cL_constrains 16 = .ok (.bipush 6, 2) := by decide +kernel
theorem dL_constrains_18 : decode cL_constrains 18 = .ok (.irem, 1) := by decide +kernel
theorem dL_constrains_19 : decode cL_constrains 19 = .ok (.istore 5, 2) := by decide +kernel
theorem dL_constrains_21 : decode cL_constrains 21 = .ok (.iload 4, 2) := by decide +kernel
theorem dL_constrains_23 : decode cL_constrains 23 = .ok (.iconst 1, 1) := by decide +kernel
theorem dL_constrains_24 : decode cL_constrains 24 = .ok (.if_icmp .ne 12, 3) := by decide +kernel
theorem dL_constrains_27 : decode cL_constrains 27 = .ok (.iload_n 2, 1) := by decide +kernel
theorem dL_constrains_28 : decode cL_constrains 28 = .ok (.iconst 4, 1) := by decide +kernel
theorem dL_constrains_29 : decode cL_constrains 29 = .ok (.idiv, 1) := by decide +kernel
theorem dL_constrains_30 : decode cL_constrains 30 = .ok (.bipush 10, 2) := by decide +kernel
theorem dL_constrains_32 : decode cL_constrains 32 = .ok (.irem, 1) := by decide +kernel
theorem dL_constrains_33 : decode cL_constrains 33 = .ok (.goto 25, 3) := by decide +kernel
theorem dL_constrains_36 : decode cL_constrains 36 = .ok (.iload 4, 2) := by decide +kernel
theorem dL_constrains_38 : decode cL_constrains 38 = .ok (.iconst 3, 1) := by decide +kernel
theorem dL_constrains_39 : decode cL_constrains 39 = .ok (.if_icmp .ne 13, 3) := by decide +kernel
theorem dL_constrains_42 : decode cL_constrains 42 = .ok (.iconst 1, 1) := by decide +kernel
theorem dL_constrains_43 : decode cL_constrains 43 = .ok (.iload_n 2, 1) := by decide +kernel
theorem dL_constrains_44 : decode cL_constrains 44 = .ok (.iconst 4, 1) := by decide +kernel
theorem dL_constrains_45 : decode cL_constrains 45 = .ok (.idiv, 1) := by decide +kernel
theorem dL_constrains_46 : decode cL_constrains 46 = .ok (.iconst 4, 1) := by decide +kernel
theorem dL_constrains_47 : decode cL_constrains 47 = .ok (.irem, 1) := by decide +kernel
theorem dL_constrains_48 : decode cL_constrains 48 = .ok (.iadd, 1) := by decide +kernel
theorem dL_constrains_49 : decode cL_constrains 49 = .ok (.goto 9, 3) := by decide +kernel
theorem dL_constrains_52 : decode cL_constrains 52 = .ok (.iload_n 2, 1) := by decide +kernel
theorem dL_constrains_53 : decode cL_constrains 53 = .ok (.iconst 4, 1) := by decide +kernel
theorem dL_constrains_54 : decode cL_constrains 54 = .ok (.idiv, 1) := by decide +kernel
theorem dL_constrains_55 : decode cL_constrains 55 = .ok (.bipush 6, 2) := by decide +kernel
theorem dL_constrains_57 : decode cL_constrains 57 = .ok (.irem, 1) := by decide +kernel
theorem dL_constrains_58 : decode cL_constrains 58 = .ok (.istore 6, 2) := by decide +kernel
theorem dL_constrains_60 : decode cL_constrains 60 = .ok (.aload_n 0, 1) := by decide +kernel
theorem dL_constrains_61 : decode cL_constrains 61 = .ok (.iload_n 1, 1) := by decide +kernel
theorem dL_constrains_62 : decode cL_constrains 62 = .ok (.aload_n 3, 1) := by decide +kernel
theorem dL_constrains_63 : decode cL_constrains 63 = .ok (.iconst 0, 1) := by decide +kernel
theorem dL_constrains_64 : decode cL_constrains 64 = .ok (.iaload, 1) := by decide +kernel
theorem dL_constrains_65 : decode cL_constrains 65 = .ok (.irem, 1) := by decide +kernel
theorem dL_constrains_66 : decode cL_constrains 66 = .ok (.iload 4, 2) := by decide +kernel
theorem dL_constrains_68 : decode cL_constrains 68 = .ok (.iload 5, 2) := by decide +kernel
theorem dL_constrains_70 : decode cL_constrains 70 = .ok (.iload 6, 2) := by decide +kernel
theorem dL_constrains_72 : decode cL_constrains 72 = .ok (.iload 4, 2) := by decide +kernel
theorem dL_constrains_74 : decode cL_constrains 74 = .ok (.iconst 2, 1) := by decide +kernel
theorem dL_constrains_75 : decode cL_constrains 75 = .ok (.if_icmp .ne 13, 3) := by decide +kernel
theorem dL_constrains_78 : decode cL_constrains 78 = .ok (.iload_n 2, 1) := by decide +kernel
theorem dL_constrains_79 : decode cL_constrains 79 = .ok (.bipush 40, 2) := by decide +kernel
theorem dL_constrains_81 : decode cL_constrains 81 = .ok (.idiv, 1) := by decide +kernel
theorem dL_constrains_82 : decode cL_constrains 82 = .ok (.bipush 6, 2) := by decide +kernel
theorem dL_constrains_84 : decode cL_constrains 84 = .ok (.irem, 1) := by decide +kernel
theorem dL_constrains_85 : decode cL_constrains 85 = .ok (.goto 4, 3) := by decide +kernel
theorem dL_constrains_88 : decode cL_constrains 88 = .ok (.iconst 0, 1) := by decide +kernel
theorem dL_constrains_89 : decode cL_constrains 89 = .ok (.iconst 1, 1) := by decide +kernel
theorem dL_constrains_90 : decode cL_constrains 90 = .ok (.iload_n 1, 1) := by decide +kernel
theorem dL_constrains_91 : decode cL_constrains 91 = .ok (.bipush 24, 2) := by decide +kernel
theorem dL_constrains_93 : decode cL_constrains 93 = .ok (.idiv, 1) := by decide +kernel
theorem dL_constrains_94 : decode cL_constrains 94 = .ok (.bipush 99, 2) := by decide +kernel
theorem dL_constrains_96 : decode cL_constrains 96 = .ok (.irem, 1) := by decide +kernel
theorem dL_constrains_97 : decode cL_constrains 97 = .ok (.iadd, 1) := by decide +kernel
theorem dL_constrains_98 : decode cL_constrains 98 = .ok (.invokestatic 71, 3) := by decide +kernel
theorem dL_constrains_101 : decode cL_constrains 101 = .ok (.istore 7, 2) := by decide +kernel
theorem dL_constrains_103 : decode cL_constrains 103 = .ok (.iload 7, 2) := by decide +kernel
theorem dL_constrains_105 : decode cL_constrains 105 = .ok (.ifCond .le 10, 3) := by decide +kernel
theorem dL_constrains_108 : decode cL_constrains 108 = .ok (.iload 7, 2) := by decide +kernel
theorem dL_constrains_110 : decode cL_constrains 110 = .ok (.bipush 9, 2) := by decide +kernel
theorem dL_constrains_112 : decode cL_constrains 112 = .ok (.if_icmp .lt 17, 3) := by decide +kernel
theorem dL_constrains_115 : decode cL_constrains 115 = .ok (.iload 7, 2) := by decide +kernel
theorem dL_constrains_117 : decode cL_constrains 117 = .ok (.ldc 42, 2) := by decide +kernel
theorem dL_constrains_119 : decode cL_constrains 119 = .ok (.if_icmp .eq 10, 3) := by decide +kernel
theorem dL_constrains_122 : decode cL_constrains 122 = .ok (.iload 7, 2) := by decide +kernel
theorem dL_constrains_124 : decode cL_constrains 124 = .ok (.ldc 48, 2) := by decide +kernel
theorem dL_constrains_126 : decode cL_constrains 126 = .ok (.if_icmp .ne 7, 3) := by decide +kernel
theorem dL_constrains_129 : decode cL_constrains 129 = .ok (.iconst 1, 1) := by decide +kernel
theorem dL_constrains_130 : decode cL_constrains 130 = .ok (.goto 4, 3) := by decide +kernel
theorem dL_constrains_133 : decode cL_constrains 133 = .ok (.iconst 0, 1) := by decide +kernel
theorem dL_constrains_134 : decode cL_constrains 134 = .ok (.ireturn, 1) := by decide +kernel
def is_L_constrains (Rt : np_Rt) : List (Nat × np_Op) := [(0, np_ald 1 3), (1, np_push 1 (.int 0)), (2, nw_ialdT .int), (3, nq_ifne 8), (6, np_push 1 (.int 1)), (7, np_ret Rt), (8, np_ild 1 2), (9, np_push 1 (.int 4)), (10, nq_ibn (fun x y => x - x / y * y)), (11, nw_ist 2 4), (13, np_ild 1 1), (14, np_push 1 (.int 4)), (15, nq_ibn (fun x y => x / y)), (16, np_push 2 (.int 6)), (18, nq_ibn (fun x y => x - x / y * y)), (19, nw_ist 2 5), (21, np_ild 2 4), (23, np_push 1 (.int 1)), (24, nq_icne 36), (27, np_ild 1 2), (28, np_push 1 (.int 4)), (29, nq_ibn (fun x y => x / y)), (30, np_push 2 (.int 10)), (32, nq_ibn (fun x y => x - x / y * y)), (33, np_goto 58), (36, np_ild 2 4), (38, np_push 1 (.int 3)), (39, nq_icne 52), (42, np_push 1 (.int 1)), (43, np_ild 1 2), (44, np_push 1 (.int 4)), (45, nq_ibn (fun x y => x / y)), (46, np_push 1 (.int 4)), (47, nq_ibn (fun x y => x - x / y * y)), (48, np_ib (fun x y => x + y)), (49, np_goto 58), (52, np_ild 1 2), (53, np_push 1 (.int 4)), (54, nq_ibn (fun x y => x / y)), (55, np_push 2 (.int 6)), (57, nq_ibn (fun x y => x - x / y * y)), (58, nw_ist 2 6), (60, np_ald 1 0), (61, np_ild 1 1), (62, np_ald 1 3), (63, np_push 1 (.int 0)), (64, nw_ialdT .int), (65, nq_ibn (fun x y => x - x / y * y)), (66, np_ild 2 4), (68, np_ild 2 5), (70, np_ild 2 6), (72, np_ild 2 4), (74, np_push 1 (.int 2)), (75, nq_icne 88), (78, np_ild 1 2), (79, np_push 2 (.int 40)), (81, nq_ibn (fun x y => x / y)), (82, np_push 2 (.int 6)), (84, nq_ibn (fun x y => x - x / y * y)), (85, np_goto 89), (88, np_push 1 (.int 0)), (89, np_push 1 (.int 1)), (90, np_ild 1 1), (91, np_push 2 (.int 24)), (93, nq_ibn (fun x y => x / y)), (94, np_push 2 (.int 99)), (96, nq_ibn (fun x y => x - x / y * y)), (97, np_ib (fun x y => x + y)), (98, nq_call 7 sp_L_rules 8 1 6 1 6), (101, nw_ist 2 7), (103, np_ild 2 7), (105, nq_if (fun x => x ≤ 0) 115), (108, np_ild 2 7), (110, np_push 2 (.int 9)), (112, nq_ic (fun x y => x < y) 129), (115, np_ild 2 7), (117, np_push 2 (.int (-70008))), (119, nq_ic (fun x y => x = y) 129), (122, np_ild 2 7), (124, np_push 2 (.int (-70009))), (126, nq_icne 133), (129, np_push 1 (.int 1)), (130, np_goto 134), (133, np_push 1 (.int 0)), (134, np_ret Rt)]
set_option maxRecDepth 20000 in
theorem so_L_constrains {X : np_Ctx} {Rt : np_Rt} (hX : np_ok RL cL_constrains 8 8 188 1 6 .ireturn X) (hR : ∀ st w ce sl, Rt st w ce sl → X.2.2.1 st w ce sl) : ∀ q ∈ is_L_constrains Rt, np_S X q.1 q.2 :=
  List.forall_mem_cons.mpr ⟨np_s_aload_n hX dL_constrains_0 rfl, List.forall_mem_cons.mpr ⟨np_s_iconst hX dL_constrains_1 (by decide), List.forall_mem_cons.mpr ⟨np_S.mono (op := np_ialdT .int) (np_s_iald hX dL_constrains_2) nw_ialdT_le, List.forall_mem_cons.mpr ⟨np_S.mono (op := np_ifne 8) (np_s_if_ne hX dL_constrains_3 (by decide)) nq_ifne_le, List.forall_mem_cons.mpr ⟨np_s_iconst hX dL_constrains_6 (by decide), List.forall_mem_cons.mpr ⟨np_S.mono (op := np_ret X.2.2.1) (np_s_ret hX dL_constrains_7) (nq_ret_le hR), List.forall_mem_cons.mpr ⟨np_s_iload_n hX dL_constrains_8 rfl, List.forall_mem_cons.mpr ⟨np_s_iconst hX dL_constrains_9 (by decide), List.forall_mem_cons.mpr ⟨np_S.mono (op := np_ibn (fun x y => x - x / y * y)) (np_s_irem hX dL_constrains_10) nq_ibn_le, List.forall_mem_cons.mpr ⟨np_S.mono (op := np_ist 2 4) (np_s_istore hX dL_constrains_11 (by decide)) nw_ist_le, List.forall_mem_cons.mpr ⟨np_s_iload_n hX dL_constrains_13 rfl, List.forall_mem_cons.mpr ⟨np_s_iconst hX dL_constrains_14 (by decide), List.forall_mem_cons.mpr ⟨np_S.mono (op := np_ibn (fun x y => x / y)) (np_s_idiv hX dL_constrains_15) nq_ibn_le, List.forall_mem_cons.mpr ⟨np_s_bipush hX dL_constrains_16 (by decide), List.forall_mem_cons.mpr ⟨np_S.mono (op := np_ibn (fun x y => x - x / y * y)) (np_s_irem hX dL_constrains_18) nq_ibn_le, List.forall_mem_cons.mpr ⟨np_S.mono (op := np_ist 2 5) (np_s_istore hX dL_constrains_19 (by decide)) nw_ist_le, List.forall_mem_cons.mpr ⟨np_s_iload hX dL_constrains_21, List.forall_mem_cons.mpr ⟨np_s_iconst hX dL_constrains_23 (by decide), List.forall_mem_cons.mpr ⟨np_S.mono (op := np_icne 36) (np_s_icmp_ne hX dL_constrains_24 (by decide)) nq_icne_le, List.forall_mem_cons.mpr ⟨np_s_iload_n hX dL_constrains_27 rfl, List.forall_mem_cons.mpr ⟨np_s_iconst hX dL_constrains_28 (by decide), List.forall_mem_cons.mpr ⟨np_S.mono (op := np_ibn (fun x y => x / y)) (np_s_idiv hX dL_constrains_29) nq_ibn_le, List.forall_mem_cons.mpr ⟨np_s_bipush hX dL_constrains_30 (by decide), List.forall_mem_cons.mpr ⟨np_S.mono (op := np_ibn (fun x y => x - x / y * y)) (np_s_irem hX dL_constrains_32) nq_ibn_le, List.forall_mem_cons.mpr ⟨np_s_goto hX dL_constrains_33 (by decide), List.forall_mem_cons.mpr ⟨np_s_iload hX dL_constrains_36, List.forall_mem_cons.mpr ⟨np_s_iconst hX dL_constrains_38 (by decide), List.forall_mem_cons.mpr ⟨np_S.mono (op := np_icne 52) (np_s_icmp_ne hX dL_constrains_39 (by decide)) nq_icne_le, List.forall_mem_cons.mpr ⟨np_s_iconst hX dL_constrains_42 (by decide), List.forall_mem_cons.mpr ⟨np_s_iload_n hX dL_constrains_43 rfl, List.forall_mem_cons.mpr ⟨np_s_iconst hX dL_constrains_44 (by decide), List.forall_mem_cons.mpr ⟨np_S.mono (op := np_ibn (fun x y => x / y)) (np_s_idiv hX dL_constrains_45) nq_ibn_le, List.forall_mem_cons.mpr ⟨np_s_iconst hX dL_constrains_46 (by decide), List.forall_mem_cons.mpr ⟨np_S.mono (op := np_ibn (fun x y => x - x / y * y)) (np_s_irem hX dL_constrains_47) nq_ibn_le, List.forall_mem_cons.mpr ⟨np_s_iadd hX dL_constrains_48, List.forall_mem_cons.mpr ⟨np_s_goto hX dL_constrains_49 (by decide), List.forall_mem_cons.mpr ⟨np_s_iload_n hX dL_constrains_52 rfl, List.forall_mem_cons.mpr ⟨np_s_iconst hX dL_constrains_53 (by decide), List.forall_mem_cons.mpr ⟨np_S.mono (op := np_ibn (fun x y => x / y)) (np_s_idiv hX dL_constrains_54) nq_ibn_le, List.forall_mem_cons.mpr ⟨np_s_bipush hX dL_constrains_55 (by decide), List.forall_mem_cons.mpr ⟨np_S.mono (op := np_ibn (fun x y => x - x / y * y)) (np_s_irem hX dL_constrains_57) nq_ibn_le, List.forall_mem_cons.mpr ⟨np_S.mono (op := np_ist 2 6) (np_s_istore hX dL_constrains_58 (by decide)) nw_ist_le, List.forall_mem_cons.mpr ⟨np_s_aload_n hX dL_constrains_60 rfl, List.forall_mem_cons.mpr ⟨np_s_iload_n hX dL_constrains_61 rfl, List.forall_mem_cons.mpr ⟨np_s_aload_n hX dL_constrains_62 rfl, List.forall_mem_cons.mpr ⟨np_s_iconst hX dL_constrains_63 (by decide), List.forall_mem_cons.mpr ⟨np_S.mono (op := np_ialdT .int) (np_s_iald hX dL_constrains_64) nw_ialdT_le, List.forall_mem_cons.mpr ⟨np_S.mono (op := np_ibn (fun x y => x - x / y * y)) (np_s_irem hX dL_constrains_65) nq_ibn_le, List.forall_mem_cons.mpr ⟨np_s_iload hX dL_constrains_66, List.forall_mem_cons.mpr ⟨np_s_iload hX dL_constrains_68, List.forall_mem_cons.mpr ⟨np_s_iload hX dL_constrains_70, List.forall_mem_cons.mpr ⟨np_s_iload hX dL_constrains_72, List.forall_mem_cons.mpr ⟨np_s_iconst hX dL_constrains_74 (by decide), List.forall_mem_cons.mpr ⟨np_S.mono (op := np_icne 88) (np_s_icmp_ne hX dL_constrains_75 (by decide)) nq_icne_le, List.forall_mem_cons.mpr ⟨np_s_iload_n hX dL_constrains_78 rfl, List.forall_mem_cons.mpr ⟨np_s_bipush hX dL_constrains_79 (by decide), List.forall_mem_cons.mpr ⟨np_S.mono (op := np_ibn (fun x y => x / y)) (np_s_idiv hX dL_constrains_81) nq_ibn_le, List.forall_mem_cons.mpr ⟨np_s_bipush hX dL_constrains_82 (by decide), List.forall_mem_cons.mpr ⟨np_S.mono (op := np_ibn (fun x y => x - x / y * y)) (np_s_irem hX dL_constrains_84) nq_ibn_le, List.forall_mem_cons.mpr ⟨np_s_goto hX dL_constrains_85 (by decide), List.forall_mem_cons.mpr ⟨np_s_iconst hX dL_constrains_88 (by decide), List.forall_mem_cons.mpr ⟨np_s_iconst hX dL_constrains_89 (by decide), List.forall_mem_cons.mpr ⟨np_s_iload_n hX dL_constrains_90 rfl, List.forall_mem_cons.mpr ⟨np_s_bipush hX dL_constrains_91 (by decide), List.forall_mem_cons.mpr ⟨np_S.mono (op := np_ibn (fun x y => x / y)) (np_s_idiv hX dL_constrains_93) nq_ibn_le, List.forall_mem_cons.mpr ⟨np_s_bipush hX dL_constrains_94 (by decide), List.forall_mem_cons.mpr ⟨np_S.mono (op := np_ibn (fun x y => x - x / y * y)) (np_s_irem hX dL_constrains_96) nq_ibn_le, List.forall_mem_cons.mpr ⟨np_s_iadd hX dL_constrains_97, List.forall_mem_cons.mpr ⟨np_S.mono (op := np_call 7 sp_L_rules 8 1 6 1 6) (np_s_callSW hX C_L_rules dL_constrains_98 gw1209 gw62 gw1207 gw1208 ⟨by decide, by decide, by decide⟩ (by decide) (by decide)) nq_call_le, List.forall_mem_cons.mpr ⟨np_S.mono (op := np_ist 2 7) (np_s_istore hX dL_constrains_101 (by decide)) nw_ist_le, List.forall_mem_cons.mpr ⟨np_s_iload hX dL_constrains_103, List.forall_mem_cons.mpr ⟨np_S.mono (op := np_if (fun x => x ≤ 0) 115) (np_s_if_le hX dL_constrains_105 (by decide)) nq_if_le, List.forall_mem_cons.mpr ⟨np_s_iload hX dL_constrains_108, List.forall_mem_cons.mpr ⟨np_s_bipush hX dL_constrains_110 (by decide), List.forall_mem_cons.mpr ⟨np_S.mono (op := np_ic (fun x y => x < y) 129) (np_s_icmp_lt hX dL_constrains_112 (by decide)) nq_ic_le, List.forall_mem_cons.mpr ⟨np_s_iload hX dL_constrains_115, List.forall_mem_cons.mpr ⟨np_s_ldc hX dL_constrains_117 gw1185, List.forall_mem_cons.mpr ⟨np_S.mono (op := np_ic (fun x y => x = y) 129) (np_s_icmp_eq hX dL_constrains_119 (by decide)) nq_ic_le, List.forall_mem_cons.mpr ⟨np_s_iload hX dL_constrains_122, List.forall_mem_cons.mpr ⟨np_s_ldc hX dL_constrains_124 gw633, List.forall_mem_cons.mpr ⟨np_S.mono (op := np_icne 133) (np_s_icmp_ne hX dL_constrains_126 (by decide)) nq_icne_le, List.forall_mem_cons.mpr ⟨np_s_iconst hX dL_constrains_129 (by decide), List.forall_mem_cons.mpr ⟨np_s_goto hX dL_constrains_130 (by decide), List.forall_mem_cons.mpr ⟨np_s_iconst hX dL_constrains_133 (by decide), List.forall_mem_cons.mpr ⟨np_S.mono (op := np_ret X.2.2.1) (np_s_ret hX dL_constrains_134) (nq_ret_le hR), fun _ h => nomatch h⟩⟩⟩⟩⟩⟩⟩⟩⟩⟩⟩⟩⟩⟩⟩⟩⟩⟩⟩⟩⟩⟩⟩⟩⟩⟩⟩⟩⟩⟩⟩⟩⟩⟩⟩⟩⟩⟩⟩⟩⟩⟩⟩⟩⟩⟩⟩⟩⟩⟩⟩⟩⟩⟩⟩⟩⟩⟩⟩⟩⟩⟩⟩⟩⟩⟩⟩⟩⟩⟩⟩⟩⟩⟩⟩⟩⟩⟩⟩⟩⟩⟩⟩⟩⟩
noncomputable def m_L_constrains_j58  (S : pw_S) (v0 : Nat) (v1 : Int32) (v2 : Int32) (va3 : Nat) (vi3 : Nat) (v4 : Int32) (v5 : Int32) (s0 : Int32) : pw_R Int32 :=
 pw_l (s0 : Int32) fun z1 =>
 pw_c (np_inb 0 (pw_len va3)) <|
 pw_c (!decide ((S va3 vi3 (0 : Int32).toNatClampNeg) = 0)) <|
 if v4 = 2 then
 (pw_b (m_L_rules S v0 (v1 - v1 / (S va3 vi3 (0 : Int32).toNatClampNeg) * (S va3 vi3 (0 : Int32).toNatClampNeg)) v4 v5 z1 ((v2 / 40) - (v2 / 40) / 6 * 6) (1 + ((v1 / 24) - (v1 / 24) / 99 * 99))) fun S2 r5 =>
 pw_l (r5 : Int32) fun z7 =>
 if z7 ≤ 0 then
 (if z7 = (-70008) then
 (some (S2, 1))
 else
 (if z7 = (-70009) then
 (some (S2, 1))
 else
 (some (S2, 0))))
 else
 (if z7 < 9 then
 (some (S2, 1))
 else
 (if z7 = (-70008) then
 (some (S2, 1))
 else
 (if z7 = (-70009) then
 (some (S2, 1))
 else
 (some (S2, 0))))))
 else
 (pw_b (m_L_rules S v0 (v1 - v1 / (S va3 vi3 (0 : Int32).toNatClampNeg) * (S va3 vi3 (0 : Int32).toNatClampNeg)) v4 v5 z1 0 (1 + ((v1 / 24) - (v1 / 24) / 99 * 99))) fun S8 r11 =>
 pw_l (r11 : Int32) fun z13 =>
 if z13 ≤ 0 then
 (if z13 = (-70008) then
 (some (S8, 1))
 else
 (if z13 = (-70009) then
 (some (S8, 1))
 else
 (some (S8, 0))))
 else
 (if z13 < 9 then
 (some (S8, 1))
 else
 (if z13 = (-70008) then
 (some (S8, 1))
 else
 (if z13 = (-70009) then
 (some (S8, 1))
 else
 (some (S8, 0))))))
set_option maxRecDepth 100000 in
set_option maxHeartbeats 8000000 in
theorem J_L_constrains_58 {X : np_Ctx} (hX : np_ok RL cL_constrains 8 8 188 1 6 .ireturn X) {Q : Option Value → np_W → Prop} {q : Nat} {n dc ds : Nat} (hR : ∀ st w ce sl, np_rt (some .boolean) 1 6 Q st w ce sl → X.2.2.1 st w ce sl) (S : pw_S) (v0 : Nat) (v1 : Int32) (v2 : Int32) (va3 : Nat) (vi3 : Nat) (v4 : Int32) (v5 : Int32) (s0 : Int32) (f : Nat → Option np_E) (ce sl : Nat) (hv0 : pw_ok q 61 v0 = true) (ha3 : pw_arr va3 = true) (hi3 : pw_ok q va3 vi3 = true) (hc : ce + 1 + dc ≤ 1) (hs : sl + 6 + ds ≤ 6) (hW : pw_W q (n, f) S) (h : pw_p (m_L_constrains_j58 S v0 v1 v2 va3 vi3 v4 v5 s0) (fun S' r => ∀ f', pw_W q (n, f') S' → Q (some (.int r)) (n, f'))) : np_G X 58 [(0, .ref (pw_pl 61 v0)), (1, .int v1), (2, .int v2), (3, .ref (pw_pl va3 vi3)), (4, .int v4), (5, .int v5)] [.int s0] (n, f) ce sl := by
  unfold m_L_constrains_j58 at h
  refine np_soundW (so_L_constrains hX hR) [58] 400 58 _ _ _ _ _ ?_
  conv => whnf
  refine pw_st h (fun z1 h => ?_)
  conv => whnf
  refine np_rd_i (hW.ga ha3 hi3) ?_
  conv => whnf
  refine pw_ck h (fun _ h => ?_)
  conv => whnf
  refine pw_ck h (fun _ h => ?_)
  conv => whnf
  refine pw_br h (fun _ h => ?_) (fun _ h => ?_)
  · conv => whnf
    refine np_chk_i (pw_and rfl (pw_and rfl (pw_and rfl ((pw_and (pw_le (by omega)) (pw_le (by omega))))))) ?_
    conv => whnf
    refine ⟨q, S, v0, (v1 - v1 / (S va3 vi3 (0 : Int32).toNatClampNeg) * (S va3 vi3 (0 : Int32).toNatClampNeg)), v4, v5, z1, ((v2 / 40) - (v2 / 40) / 6 * 6), (1 + ((v1 / 24) - (v1 / 24) / 99 * 99)), rfl, hv0, hW, pw_bd h (fun S2 r5 h f3 hW4 => ?_)⟩
    conv => whnf
    refine pw_st h (fun z7 h => ?_)
    conv => whnf
    refine pw_br h (fun _ h => ?_) (fun _ h => ?_)
    · conv => whnf
      refine pw_br h (fun _ h => ?_) (fun _ h => ?_)
      · conv => whnf
        exact ⟨(by omega), (by omega), ⟨_, rfl, by decide⟩, _, fun _ _ h9 => h9, pw_ps h _ hW4⟩
      · conv => whnf
        refine pw_br h (fun _ h => ?_) (fun _ h => ?_)
        · conv => whnf
          exact ⟨(by omega), (by omega), ⟨_, rfl, by decide⟩, _, fun _ _ h9 => h9, pw_ps h _ hW4⟩
        · conv => whnf
          exact ⟨(by omega), (by omega), ⟨_, rfl, by decide⟩, _, fun _ _ h9 => h9, pw_ps h _ hW4⟩
    · conv => whnf
      refine pw_br h (fun _ h => ?_) (fun _ h => ?_)
      · conv => whnf
        exact ⟨(by omega), (by omega), ⟨_, rfl, by decide⟩, _, fun _ _ h9 => h9, pw_ps h _ hW4⟩
      · conv => whnf
        refine pw_br h (fun _ h => ?_) (fun _ h => ?_)
        · conv => whnf
          exact ⟨(by omega), (by omega), ⟨_, rfl, by decide⟩, _, fun _ _ h9 => h9, pw_ps h _ hW4⟩
        · conv => whnf
          refine pw_br h (fun _ h => ?_) (fun _ h => ?_)
          · conv => whnf
            exact ⟨(by omega), (by omega), ⟨_, rfl, by decide⟩, _, fun _ _ h9 => h9, pw_ps h _ hW4⟩
          · conv => whnf
            exact ⟨(by omega), (by omega), ⟨_, rfl, by decide⟩, _, fun _ _ h9 => h9, pw_ps h _ hW4⟩
  · conv => whnf
    refine np_chk_i (pw_and rfl (pw_and rfl (pw_and rfl ((pw_and (pw_le (by omega)) (pw_le (by omega))))))) ?_
    conv => whnf
    refine ⟨q, S, v0, (v1 - v1 / (S va3 vi3 (0 : Int32).toNatClampNeg) * (S va3 vi3 (0 : Int32).toNatClampNeg)), v4, v5, z1, 0, (1 + ((v1 / 24) - (v1 / 24) / 99 * 99)), rfl, hv0, hW, pw_bd h (fun S8 r11 h f9 hW10 => ?_)⟩
    conv => whnf
    refine pw_st h (fun z13 h => ?_)
    conv => whnf
    refine pw_br h (fun _ h => ?_) (fun _ h => ?_)
    · conv => whnf
      refine pw_br h (fun _ h => ?_) (fun _ h => ?_)
      · conv => whnf
        exact ⟨(by omega), (by omega), ⟨_, rfl, by decide⟩, _, fun _ _ h9 => h9, pw_ps h _ hW10⟩
      · conv => whnf
        refine pw_br h (fun _ h => ?_) (fun _ h => ?_)
        · conv => whnf
          exact ⟨(by omega), (by omega), ⟨_, rfl, by decide⟩, _, fun _ _ h9 => h9, pw_ps h _ hW10⟩
        · conv => whnf
          exact ⟨(by omega), (by omega), ⟨_, rfl, by decide⟩, _, fun _ _ h9 => h9, pw_ps h _ hW10⟩
    · conv => whnf
      refine pw_br h (fun _ h => ?_) (fun _ h => ?_)
      · conv => whnf
        exact ⟨(by omega), (by omega), ⟨_, rfl, by decide⟩, _, fun _ _ h9 => h9, pw_ps h _ hW10⟩
      · conv => whnf
        refine pw_br h (fun _ h => ?_) (fun _ h => ?_)
        · conv => whnf
          exact ⟨(by omega), (by omega), ⟨_, rfl, by decide⟩, _, fun _ _ h9 => h9, pw_ps h _ hW10⟩
        · conv => whnf
          refine pw_br h (fun _ h => ?_) (fun _ h => ?_)
          · conv => whnf
            exact ⟨(by omega), (by omega), ⟨_, rfl, by decide⟩, _, fun _ _ h9 => h9, pw_ps h _ hW10⟩
          · conv => whnf
            exact ⟨(by omega), (by omega), ⟨_, rfl, by decide⟩, _, fun _ _ h9 => h9, pw_ps h _ hW10⟩
noncomputable def m_L_constrains (S : pw_S) (i0 : Nat) (x1 : Int32) (x2 : Int32) (a3 : Nat) (i3 : Nat) : pw_R Int32 :=
 pw_c (np_inb 0 (pw_len a3)) <|
 if (S a3 i3 (0 : Int32).toNatClampNeg) = 0 then
 (some (S, 1))
 else
 (pw_l ((x2 - x2 / 4 * 4) : Int32) fun z14 =>
 pw_l (((x1 / 4) - (x1 / 4) / 6 * 6) : Int32) fun z15 =>
 if z14 = 1 then
 (m_L_constrains_j58 S i0 x1 x2 a3 i3 z14 z15 ((x2 / 4) - (x2 / 4) / 10 * 10))
 else
 (if z14 = 3 then
 (m_L_constrains_j58 S i0 x1 x2 a3 i3 z14 z15 (1 + ((x2 / 4) - (x2 / 4) / 4 * 4)))
 else
 (m_L_constrains_j58 S i0 x1 x2 a3 i3 z14 z15 ((x2 / 4) - (x2 / 4) / 6 * 6))))
def sp_L_constrains : np_Sp := fun vs w Q => ∃ (q : Nat) (S : pw_S) (i0 : Nat) (x1 : Int32) (x2 : Int32) (a3 : Nat) (i3 : Nat), vs = [.ref (pw_pl 61 i0), .int x1, .int x2, .ref (pw_pl a3 i3)] ∧ pw_ok q 61 i0 = true ∧ pw_arr a3 = true ∧ pw_ok q a3 i3 = true ∧ pw_W q w S ∧ pw_p (m_L_constrains S i0 x1 x2 a3 i3) (fun S' r => ∀ f', pw_W q (w.1, f') S' → Q (some (.int r)) (w.1, f'))
set_option maxRecDepth 100000 in
set_option maxHeartbeats 8000000 in
theorem C_L_constrains : np_C yL_constrains cL_constrains 8 (some .boolean) 8 188 1 6 (sp_L_constrains) := by
  refine np_of (by decide) ?_
  intro X vs w Q hsp hX hmn hRt hlt
  obtain ⟨q, S, i0, x1, x2, a3, i3, rfl, hi0, ha3, hi3, hW, h⟩ := hsp
  obtain ⟨n, f⟩ := w
  unfold m_L_constrains at h
  have hR : ∀ st w ce sl, np_rt (some .boolean) 1 6 Q st w ce sl → X.2.2.1 st w ce sl := fun _ _ _ _ h => by rw [hRt]; exact h
  refine np_soundW (so_L_constrains hX hR) [58] 400 0 _ _ _ _ _ ?_
  conv => whnf
  refine np_rd_i (hW.ga ha3 hi3) ?_
  conv => whnf
  refine pw_ck h (fun _ h => ?_)
  conv => whnf
  refine pw_br h (fun _ h => ?_) (fun _ h => ?_)
  · conv => whnf
    exact ⟨Nat.le_of_ble_eq_true rfl, Nat.le_of_ble_eq_true rfl, ⟨_, rfl, by decide⟩, _, fun _ _ h9 => h9, pw_ps h _ hW⟩
  · conv => whnf
    refine pw_st h (fun z14 h => ?_)
    conv => whnf
    refine pw_st h (fun z15 h => ?_)
    conv => whnf
    refine pw_br h (fun _ h => ?_) (fun _ h => ?_)
    · conv => whnf
      refine np_gl (J_L_constrains_58 (dc := 0) (ds := 0) hX hR S i0 x1 x2 a3 i3 z14 z15 ((x2 / 4) - (x2 / 4) / 10 * 10) f _ _ hi0 ha3 hi3 (by omega) (by omega) hW h) ?_
      exact ⟨rfl, rfl, rfl, rfl, rfl, rfl, trivial⟩
    · conv => whnf
      refine pw_br h (fun _ h => ?_) (fun _ h => ?_)
      · conv => whnf
        refine np_gl (J_L_constrains_58 (dc := 0) (ds := 0) hX hR S i0 x1 x2 a3 i3 z14 z15 (1 + ((x2 / 4) - (x2 / 4) / 4 * 4)) f _ _ hi0 ha3 hi3 (by omega) (by omega) hW h) ?_
        exact ⟨rfl, rfl, rfl, rfl, rfl, rfl, trivial⟩
      · conv => whnf
        refine np_gl (J_L_constrains_58 (dc := 0) (ds := 0) hX hR S i0 x1 x2 a3 i3 z14 z15 ((x2 / 4) - (x2 / 4) / 6 * 6) f _ _ hi0 ha3 hi3 (by omega) (by omega) hW h) ?_
        exact ⟨rfl, rfl, rfl, rfl, rfl, rfl, trivial⟩
theorem dL_isReadBack_0 : decode cL_isReadBack 0 = .ok (.aload_n 0, 1) := by decide +kernel
theorem dL_isReadBack_1 : decode cL_isReadBack 1 = .ok (.iload_n 1, 1) := by decide +kernel
theorem dL_isReadBack_2 : decode cL_isReadBack 2 = .ok (.iload_n 2, 1) := by decide +kernel
theorem dL_isReadBack_3 : decode cL_isReadBack 3 = .ok (.iload_n 3, 1) := by decide +kernel
theorem dL_isReadBack_4 : decode cL_isReadBack 4 = .ok (.invokevirtual 79, 3) := by decide +kernel
theorem dL_isReadBack_7 : decode cL_isReadBack 7 = .ok (.istore 6, 2) := by decide +kernel
theorem dL_isReadBack_9 : decode cL_isReadBack 9 = .ok (.iload 6, 2) := by decide +kernel
theorem dL_isReadBack_11 : decode cL_isReadBack 11 = .ok (.aload_n 0, 1) := by decide +kernel
theorem dL_isReadBack_12 : decode cL_isReadBack 12 = .ok (.iload_n 1, 1) := by decide +kernel
theorem dL_isReadBack_13 : decode cL_isReadBack 13 = .ok (.iload_n 2, 1) := by decide +kernel
theorem dL_isReadBack_14 : decode cL_isReadBack 14 = .ok (.iload_n 3, 1) := by decide +kernel
theorem dL_isReadBack_15 : decode cL_isReadBack 15 = .ok (.invokevirtual 83, 3) := by decide +kernel
theorem dL_isReadBack_18 : decode cL_isReadBack 18 = .ok (.if_icmp .ne 7, 3) := by decide +kernel
theorem dL_isReadBack_21 : decode cL_isReadBack 21 = .ok (.iconst 1, 1) := by decide +kernel
theorem dL_isReadBack_22 : decode cL_isReadBack 22 = .ok (.goto 4, 3) := by decide +kernel
theorem dL_isReadBack_25 : decode cL_isReadBack 25 = .ok (.iconst 0, 1) := by decide +kernel
theorem dL_isReadBack_26 : decode cL_isReadBack 26 = .ok (.istore 7, 2) := by decide +kernel
theorem dL_isReadBack_28 : decode cL_isReadBack 28 = .ok (.iload 6, 2) := by decide +kernel
theorem dL_isReadBack_30 : decode cL_isReadBack 30 = .ok (.ifCond .ge 22, 3) := by decide +kernel
theorem dL_isReadBack_33 : decode cL_isReadBack 33 = .ok (.iload 7, 2) := by decide +kernel
theorem dL_isReadBack_35 : decode cL_isReadBack 35 = .ok (.ifCond .eq 15, 3) := by decide +kernel
theorem dL_isReadBack_38 : decode cL_isReadBack 38 = .ok (.aload_n 0, 1) := by decide +kernel
theorem dL_isReadBack_39 : decode cL_isReadBack 39 = .ok (.iload_n 1, 1) := by decide +kernel
theorem dL_isReadBack_40 : decode cL_isReadBack 40 = .ok (.invokevirtual 68, 3) := by decide +kernel
theorem dL_isReadBack_43 : decode cL_isReadBack 43 = .ok (.ifCond .lt 7, 3) := by decide +kernel
theorem dL_isReadBack_46 : decode cL_isReadBack 46 = .ok (.iconst 1, 1) := by decide +kernel
theorem dL_isReadBack_47 : decode cL_isReadBack 47 = .ok (.goto 4, 3) := by decide +kernel
theorem dL_isReadBack_50 : decode cL_isReadBack 50 = .ok (.iconst 0, 1) := by decide +kernel
theorem dL_isReadBack_51 : decode cL_isReadBack 51 = .ok (.ireturn, 1) := by decide +kernel
theorem dL_isReadBack_52 : decode cL_isReadBack 52 = .ok (.iconst 0, 1) := by decide +kernel
theorem dL_isReadBack_53 : decode cL_isReadBack 53 = .ok (.istore 8, 2) := by decide +kernel
theorem dL_isReadBack_55 : decode cL_isReadBack 55 = .ok (.iconst 0, 1) := by decide +kernel
theorem dL_isReadBack_56 : decode cL_isReadBack 56 = .ok (.istore 9, 2) := by decide +kernel
theorem dL_isReadBack_58 : decode cL_isReadBack 58 = .ok (.iload 9, 2) := by decide +kernel
theorem dL_isReadBack_60 : decode cL_isReadBack 60 = .ok (.iload 6, 2) := by decide +kernel
theorem dL_isReadBack_62 : decode cL_isReadBack 62 = .ok (.if_icmp .ge 72, 3) := by decide +kernel
theorem dL_isReadBack_65 : decode cL_isReadBack 65 = .ok (.iload 9, 2) := by decide +kernel
theorem dL_isReadBack_67 : decode cL_isReadBack 67 = .ok (.iconst 3, 1) := by decide +kernel
theorem dL_isReadBack_68 : decode cL_isReadBack 68 = .ok (.if_icmp .ge 66, 3) := by decide +kernel
theorem dL_isReadBack_71 : decode cL_isReadBack 71 = .ok (.iload 7, 2) := by decide +kernel
theorem dL_isReadBack_73 : decode cL_isReadBack 73 = .ok (.ifCond .eq 61, 3) := by decide +kernel
theorem dL_isReadBack_76 : decode cL_isReadBack 76 = .ok (.iload 8, 2) := by decide +kernel
theorem dL_isReadBack_78 : decode cL_isReadBack 78 = .ok (.ifCond .ne 56, 3) := by decide +kernel
theorem dL_isReadBack_81 : decode cL_isReadBack 81 = .ok (.aload_n 0, 1) := by decide +kernel
theorem dL_isReadBack_82 : decode cL_isReadBack 82 = .ok (.iload_n 1, 1) := by decide +kernel
theorem dL_isReadBack_83 : decode cL_isReadBack 83 = .ok (.iload_n 2, 1) := by decide +kernel
theorem dL_isReadBack_84 : decode cL_isReadBack 84 = .ok (.iload_n 3, 1) := by decide +kernel
theorem dL_isReadBack_85 : decode cL_isReadBack 85 = .ok (.iload 9, 2) := by decide +kernel
theorem dL_isReadBack_87 : decode cL_isReadBack 87 = .ok (.invokestatic 86, 3) := by decide +kernel
theorem dL_isReadBack_90 : decode cL_isReadBack 90 = .ok (.istore 10, 2) := by decide +kernel
theorem dL_isReadBack_92 : decode cL_isReadBack 92 = .ok (.iload 10, 2) := by decide +kernel
theorem dL_isReadBack_94 : decode cL_isReadBack 94 = .ok (.iload_n 3, 1) := by decide +kernel
theorem dL_isReadBack_95 : decode cL_isReadBack 95 = .ok (.if_icmp .le 7, 3) := by decide +kernel
theorem dL_isReadBack_98 : decode cL_isReadBack 98 = .ok (.iconst 1, 1) := by decide +kernel
theorem dL_isReadBack_99 : decode cL_isReadBack 99 = .ok (.goto 4, 3) := by decide +kernel
theorem dL_isReadBack_102 : decode cL_isReadBack 102 = .ok (.iconst 0, 1) := by decide +kernel
theorem dL_isReadBack_103 : decode cL_isReadBack 103 = .ok (.istore 7, 2) := by decide +kernel
theorem dL_isReadBack_105 : decode cL_isReadBack 105 = .ok (.iload 10, 2) := by decide +kernel
theorem dL_isReadBack_107 : decode cL_isReadBack 107 = .ok (.iload 4, 2) := by decide +kernel
theorem dL_isReadBack_109 : decode cL_isReadBack 109 = .ok (.if_icmp .ne 16, 3) := by decide +kernel
theorem dL_isReadBack_112 : decode cL_isReadBack 112 = .ok (.aload_n 0, 1) := by decide +kernel
theorem dL_isReadBack_113 : decode cL_isReadBack 113 = .ok (.aload 5, 2) := by decide +kernel
theorem dL_isReadBack_115 : decode cL_isReadBack 115 = .ok (.invokestatic 89, 3) := by decide +kernel
theorem dL_isReadBack_118 : decode cL_isReadBack 118 = .ok (.ifCond .eq 7, 3) := by decide +kernel
theorem dL_isReadBack_121 : decode cL_isReadBack 121 = .ok (.iconst 1, 1) := by decide +kernel
theorem dL_isReadBack_122 : decode cL_isReadBack 122 = .ok (.goto 4, 3) := by decide +kernel
theorem dL_isReadBack_125 : decode cL_isReadBack 125 = .ok (.iconst 0, 1) := by decide +kernel
theorem dL_isReadBack_126 : decode cL_isReadBack 126 = .ok (.istore 8, 2) := by decide +kernel
theorem dL_isReadBack_128 : decode cL_isReadBack 128 = .ok (.iinc 9 1, 3) := by decide +kernel
theorem dL_isReadBack_131 : decode cL_isReadBack 131 = .ok (.goto (-73), 3) := by decide +kernel
theorem dL_isReadBack_134 : decode cL_isReadBack 134 = .ok (.iload 7, 2) := by decide +kernel
theorem dL_isReadBack_136 : decode cL_isReadBack 136 = .ok (.ifCond .eq 53, 3) := by decide +kernel
theorem dL_isReadBack_139 : decode cL_isReadBack 139 = .ok (.iload 8, 2) := by decide +kernel
theorem dL_isReadBack_141 : decode cL_isReadBack 141 = .ok (.ifCond .ne 9, 3) := by decide +kernel
theorem dL_isReadBack_144 : decode cL_isReadBack 144 = .ok (.iload 6, 2) := by decide +kernel
theorem dL_isReadBack_146 : decode cL_isReadBack 146 = .ok (.iconst 3, 1) := by decide +kernel
theorem dL_isReadBack_147 : decode cL_isReadBack 147 = .ok (.if_icmp .le 42, 3) := by decide +kernel
theorem dL_isReadBack_150 : decode cL_isReadBack 150 = .ok (.aload_n 0, 1) := by decide +kernel
theorem dL_isReadBack_151 : decode cL_isReadBack 151 = .ok (.iload_n 1, 1) := by decide +kernel
theorem dL_isReadBack_152 : decode cL_isReadBack 152 = .ok (.invokevirtual 68, 3) := by decide +kernel
theorem dL_isReadBack_155 : decode cL_isReadBack 155 = .ok (.ifCond .ge 9, 3) := by decide +kernel
theorem dL_isReadBack_158 : decode cL_isReadBack 158 = .ok (.iload 6, 2) := by decide +kernel
theorem dL_isReadBack_160 : decode cL_isReadBack 160 = .ok (.iconst 1, 1) := by decide +kernel
theorem dL_isReadBack_161 : decode cL_isReadBack 161 = .ok (.if_icmp .ne 28, 3) := by decide +kernel
theorem dL_isReadBack_164 : decode cL_isReadBack 164 = .ok (.iload 6, 2) := by decide +kernel
theorem dL_isReadBack_166 : decode cL_isReadBack 166 = .ok (.bipush 99, 2) := by decide +kernel
theorem dL_isReadBack_168 : decode cL_isReadBack 168 = .ok (.if_icmp .eq 17, 3) := by decide +kernel
theorem dL_isReadBack_171 : decode cL_isReadBack 171 = .ok (.aload_n 0, 1) := by decide +kernel
theorem dL_isReadBack_172 : decode cL_isReadBack 172 = .ok (.iload_n 1, 1) := by decide +kernel
theorem dL_isReadBack_173 : decode cL_isReadBack 173 = .ok (.iload_n 2, 1) := by decide +kernel
theorem dL_isReadBack_174 : decode cL_isReadBack 174 = .ok (.iload_n 3, 1) := by decide +kernel
theorem dL_isReadBack_175 : decode cL_isReadBack 175 = .ok (.iload 6, 2) := by decide +kernel
theorem dL_isReadBack_177 : decode cL_isReadBack 177 = .ok (.invokestatic 86, 3) := by decide +kernel
theorem dL_isReadBack_180 : decode cL_isReadBack 180 = .ok (.ldc 39, 2) := by decide +kernel
theorem dL_isReadBack_182 : decode cL_isReadBack 182 = .ok (.if_icmp .ne 7, 3) := by decide +kernel
theorem dL_isReadBack_185 : decode cL_isReadBack 185 = .ok (.iconst 1, 1) := by decide +kernel
theorem dL_isReadBack_186 : decode cL_isReadBack 186 = .ok (.goto 4, 3) := by decide +kernel
theorem dL_isReadBack_189 : decode cL_isReadBack 189 = .ok (.iconst 0, 1) := by decide +kernel
theorem dL_isReadBack_190 : decode cL_isReadBack 190 = .ok (.ireturn, 1) := by decide +kernel
def is_L_isReadBack (Rt : np_Rt) : List (Nat × np_Op) := [(0, np_ald 1 0), (1, np_ild 1 1), (2, np_ild 1 2), (3, np_ild 1 3), (4, nw_callVX 11 4 sp_X11_readings 8 1 6 108 648 []), (7, nw_ist 2 6), (9, np_ild 2 6), (11, np_ald 1 0), (12, np_ild 1 1), (13, np_ild 1 2), (14, np_ild 1 3), (15, nw_callVX 11 4 sp_X11_readingsAnew 6 1 6 108 648 []), (18, nq_icne 25), (21, np_push 1 (.int 1)), (22, np_goto 26), (25, np_push 1 (.int 0)), (26, nw_ist 2 7), (28, np_ild 2 6), (30, nq_if (fun x => 0 ≤ x) 52), (33, np_ild 2 7), (35, nq_if (fun x => x = 0) 50), (38, np_ald 1 0), (39, np_ild 1 1), (40, nw_callVX 11 2 sp_X11_sure 3 1 6 108 648 []), (43, nq_if (fun x => x < 0) 50), (46, np_push 1 (.int 1)), (47, np_goto 51), (50, np_push 1 (.int 0)), (51, np_ret Rt), (52, np_push 1 (.int 0)), (53, nw_ist 2 8), (55, np_push 1 (.int 0)), (56, nw_ist 2 9), (58, np_ild 2 9), (60, np_ild 2 6), (62, nq_ic (fun x y => y ≤ x) 134), (65, np_ild 2 9), (67, np_push 1 (.int 3)), (68, nq_ic (fun x y => y ≤ x) 134), (71, np_ild 2 7), (73, nq_if (fun x => x = 0) 134), (76, np_ild 2 8), (78, nq_ifne 134), (81, np_ald 1 0), (82, np_ild 1 1), (83, np_ild 1 2), (84, np_ild 1 3), (85, np_ild 2 9), (87, nq_call 5 sp_L_readsAt 6 1 6 108 648), (90, nw_ist 2 10), (92, np_ild 2 10), (94, np_ild 1 3), (95, nq_ic (fun x y => x ≤ y) 102), (98, np_push 1 (.int 1)), (99, np_goto 103), (102, np_push 1 (.int 0)), (103, nw_ist 2 7), (105, np_ild 2 10), (107, np_ild 2 4), (109, nq_icne 125), (112, np_ald 1 0), (113, np_ald 2 5), (115, nq_call 2 sp_L_isNoted 4 25 150 108 648), (118, nq_if (fun x => x = 0) 125), (121, np_push 1 (.int 1)), (122, np_goto 126), (125, np_push 1 (.int 0)), (126, nw_ist 2 8), (128, nw_iinc 9 1), (131, np_goto 58), (134, np_ild 2 7), (136, nq_if (fun x => x = 0) 189), (139, np_ild 2 8), (141, nq_ifne 150), (144, np_ild 2 6), (146, np_push 1 (.int 3)), (147, nq_ic (fun x y => x ≤ y) 189), (150, np_ald 1 0), (151, np_ild 1 1), (152, nw_callVX 11 2 sp_X11_sure 3 1 6 108 648 []), (155, nq_if (fun x => 0 ≤ x) 164), (158, np_ild 2 6), (160, np_push 1 (.int 1)), (161, nq_icne 189), (164, np_ild 2 6), (166, np_push 2 (.int 99)), (168, nq_ic (fun x y => x = y) 185), (171, np_ald 1 0), (172, np_ild 1 1), (173, np_ild 1 2), (174, np_ild 1 3), (175, np_ild 2 6), (177, nq_call 5 sp_L_readsAt 6 1 6 108 648), (180, np_push 2 (.int (-70007))), (182, nq_icne 189), (185, np_push 1 (.int 1)), (186, np_goto 190), (189, np_push 1 (.int 0)), (190, np_ret Rt)]
set_option maxRecDepth 20000 in
theorem so_L_isReadBack {X : np_Ctx} {Rt : np_Rt} (hX : np_ok RL cL_isReadBack 11 9 250 108 648 .ireturn X) (hR : ∀ st w ce sl, Rt st w ce sl → X.2.2.1 st w ce sl) : ∀ q ∈ is_L_isReadBack Rt, np_S X q.1 q.2 :=
  List.forall_mem_cons.mpr ⟨np_s_aload_n hX dL_isReadBack_0 rfl, List.forall_mem_cons.mpr ⟨np_s_iload_n hX dL_isReadBack_1 rfl, List.forall_mem_cons.mpr ⟨np_s_iload_n hX dL_isReadBack_2 rfl, List.forall_mem_cons.mpr ⟨np_s_iload_n hX dL_isReadBack_3 rfl, List.forall_mem_cons.mpr ⟨np_S.mono (op := np_callVX 11 4 sp_X11_readings 8 1 6 108 648 []) (np_s_callVX hX C_X11_readings dL_isReadBack_4 (q := (RX11, TX11, 14)) rfl rfl gw1192 gw63 gw1189 gw1190 gw1191 ⟨by decide, by decide, by decide⟩ (by decide) (by decide) (fun _ h => nomatch h)) (nw_callVX_le2 (ci := 11) (n := 4) (sp := sp_X11_readings) (maxL := 8) (mc := 1) (ms := 6) (RC := 108) (RS := 648) (hs := [])), List.forall_mem_cons.mpr ⟨np_S.mono (op := np_ist 2 6) (np_s_istore hX dL_isReadBack_7 (by decide)) nw_ist_le, List.forall_mem_cons.mpr ⟨np_s_iload hX dL_isReadBack_9, List.forall_mem_cons.mpr ⟨np_s_aload_n hX dL_isReadBack_11 rfl, List.forall_mem_cons.mpr ⟨np_s_iload_n hX dL_isReadBack_12 rfl, List.forall_mem_cons.mpr ⟨np_s_iload_n hX dL_isReadBack_13 rfl, List.forall_mem_cons.mpr ⟨np_s_iload_n hX dL_isReadBack_14 rfl, List.forall_mem_cons.mpr ⟨np_S.mono (op := np_callVX 11 4 sp_X11_readingsAnew 6 1 6 108 648 []) (np_s_callVX hX C_X11_readingsAnew dL_isReadBack_15 (q := (RX11, TX11, 14)) rfl rfl gw1196 gw63 gw1193 gw1194 gw1195 ⟨by decide, by decide, by decide⟩ (by decide) (by decide) (fun _ h => nomatch h)) (nw_callVX_le2 (ci := 11) (n := 4) (sp := sp_X11_readingsAnew) (maxL := 6) (mc := 1) (ms := 6) (RC := 108) (RS := 648) (hs := [])), List.forall_mem_cons.mpr ⟨np_S.mono (op := np_icne 25) (np_s_icmp_ne hX dL_isReadBack_18 (by decide)) nq_icne_le, List.forall_mem_cons.mpr ⟨np_s_iconst hX dL_isReadBack_21 (by decide), List.forall_mem_cons.mpr ⟨np_s_goto hX dL_isReadBack_22 (by decide), List.forall_mem_cons.mpr ⟨np_s_iconst hX dL_isReadBack_25 (by decide), List.forall_mem_cons.mpr ⟨np_S.mono (op := np_ist 2 7) (np_s_istore hX dL_isReadBack_26 (by decide)) nw_ist_le, List.forall_mem_cons.mpr ⟨np_s_iload hX dL_isReadBack_28, List.forall_mem_cons.mpr ⟨np_S.mono (op := np_if (fun x => 0 ≤ x) 52) (np_s_if_ge hX dL_isReadBack_30 (by decide)) nq_if_le, List.forall_mem_cons.mpr ⟨np_s_iload hX dL_isReadBack_33, List.forall_mem_cons.mpr ⟨np_S.mono (op := np_if (fun x => x = 0) 50) (np_s_if_eq hX dL_isReadBack_35 (by decide)) nq_if_le, List.forall_mem_cons.mpr ⟨np_s_aload_n hX dL_isReadBack_38 rfl, List.forall_mem_cons.mpr ⟨np_s_iload_n hX dL_isReadBack_39 rfl, List.forall_mem_cons.mpr ⟨np_S.mono (op := np_callVX 11 2 sp_X11_sure 3 1 6 108 648 []) (np_s_callVX hX C_X11_sure dL_isReadBack_40 (q := (RX11, TX11, 14)) rfl rfl gw695 gw63 gw692 gw693 gw694 ⟨by decide, by decide, by decide⟩ (by decide) (by decide) (fun _ h => nomatch h)) (nw_callVX_le2 (ci := 11) (n := 2) (sp := sp_X11_sure) (maxL := 3) (mc := 1) (ms := 6) (RC := 108) (RS := 648) (hs := [])), List.forall_mem_cons.mpr ⟨np_S.mono (op := np_if (fun x => x < 0) 50) (np_s_if_lt hX dL_isReadBack_43 (by decide)) nq_if_le, List.forall_mem_cons.mpr ⟨np_s_iconst hX dL_isReadBack_46 (by decide), List.forall_mem_cons.mpr ⟨np_s_goto hX dL_isReadBack_47 (by decide), List.forall_mem_cons.mpr ⟨np_s_iconst hX dL_isReadBack_50 (by decide), List.forall_mem_cons.mpr ⟨np_S.mono (op := np_ret X.2.2.1) (np_s_ret hX dL_isReadBack_51) (nq_ret_le hR), List.forall_mem_cons.mpr ⟨np_s_iconst hX dL_isReadBack_52 (by decide), List.forall_mem_cons.mpr ⟨np_S.mono (op := np_ist 2 8) (np_s_istore hX dL_isReadBack_53 (by decide)) nw_ist_le, List.forall_mem_cons.mpr ⟨np_s_iconst hX dL_isReadBack_55 (by decide), List.forall_mem_cons.mpr ⟨np_S.mono (op := np_ist 2 9) (np_s_istore hX dL_isReadBack_56 (by decide)) nw_ist_le, List.forall_mem_cons.mpr ⟨np_s_iload hX dL_isReadBack_58, List.forall_mem_cons.mpr ⟨np_s_iload hX dL_isReadBack_60, List.forall_mem_cons.mpr ⟨np_S.mono (op := np_ic (fun x y => y ≤ x) 134) (np_s_icmp_ge hX dL_isReadBack_62 (by decide)) nq_ic_le, List.forall_mem_cons.mpr ⟨np_s_iload hX dL_isReadBack_65, List.forall_mem_cons.mpr ⟨np_s_iconst hX dL_isReadBack_67 (by decide), List.forall_mem_cons.mpr ⟨np_S.mono (op := np_ic (fun x y => y ≤ x) 134) (np_s_icmp_ge hX dL_isReadBack_68 (by decide)) nq_ic_le, List.forall_mem_cons.mpr ⟨np_s_iload hX dL_isReadBack_71, List.forall_mem_cons.mpr ⟨np_S.mono (op := np_if (fun x => x = 0) 134) (np_s_if_eq hX dL_isReadBack_73 (by decide)) nq_if_le, List.forall_mem_cons.mpr ⟨np_s_iload hX dL_isReadBack_76, List.forall_mem_cons.mpr ⟨np_S.mono (op := np_ifne 134) (np_s_if_ne hX dL_isReadBack_78 (by decide)) nq_ifne_le, List.forall_mem_cons.mpr ⟨np_s_aload_n hX dL_isReadBack_81 rfl, List.forall_mem_cons.mpr ⟨np_s_iload_n hX dL_isReadBack_82 rfl, List.forall_mem_cons.mpr ⟨np_s_iload_n hX dL_isReadBack_83 rfl, List.forall_mem_cons.mpr ⟨np_s_iload_n hX dL_isReadBack_84 rfl, List.forall_mem_cons.mpr ⟨np_s_iload hX dL_isReadBack_85, List.forall_mem_cons.mpr ⟨np_S.mono (op := np_call 5 sp_L_readsAt 6 1 6 108 648) (np_s_callSW hX C_L_readsAt dL_isReadBack_87 gw1203 gw62 gw1201 gw1202 ⟨by decide, by decide, by decide⟩ (by decide) (by decide)) nq_call_le, List.forall_mem_cons.mpr ⟨np_S.mono (op := np_ist 2 10) (np_s_istore hX dL_isReadBack_90 (by decide)) nw_ist_le, List.forall_mem_cons.mpr ⟨np_s_iload hX dL_isReadBack_92, List.forall_mem_cons.mpr ⟨np_s_iload_n hX dL_isReadBack_94 rfl, List.forall_mem_cons.mpr ⟨np_S.mono (op := np_ic (fun x y => x ≤ y) 102) (np_s_icmp_le hX dL_isReadBack_95 (by decide)) nq_ic_le, List.forall_mem_cons.mpr ⟨np_s_iconst hX dL_isReadBack_98 (by decide), List.forall_mem_cons.mpr ⟨np_s_goto hX dL_isReadBack_99 (by decide), List.forall_mem_cons.mpr ⟨np_s_iconst hX dL_isReadBack_102 (by decide), List.forall_mem_cons.mpr ⟨np_S.mono (op := np_ist 2 7) (np_s_istore hX dL_isReadBack_103 (by decide)) nw_ist_le, List.forall_mem_cons.mpr ⟨np_s_iload hX dL_isReadBack_105, List.forall_mem_cons.mpr ⟨np_s_iload hX dL_isReadBack_107, List.forall_mem_cons.mpr ⟨np_S.mono (op := np_icne 125) (np_s_icmp_ne hX dL_isReadBack_109 (by decide)) nq_icne_le, List.forall_mem_cons.mpr ⟨np_s_aload_n hX dL_isReadBack_112 rfl, List.forall_mem_cons.mpr ⟨np_s_aload hX dL_isReadBack_113, List.forall_mem_cons.mpr ⟨np_S.mono (op := np_call 2 sp_L_isNoted 4 25 150 108 648) (np_s_callS hX C_L_isNoted dL_isReadBack_115 gw920 gw62 gw918 gw919 ⟨by decide, by decide, by decide⟩ (by decide) (by decide)) nq_call_le, List.forall_mem_cons.mpr ⟨np_S.mono (op := np_if (fun x => x = 0) 125) (np_s_if_eq hX dL_isReadBack_118 (by decide)) nq_if_le, List.forall_mem_cons.mpr ⟨np_s_iconst hX dL_isReadBack_121 (by decide), List.forall_mem_cons.mpr ⟨np_s_goto hX dL_isReadBack_122 (by decide), List.forall_mem_cons.mpr ⟨np_s_iconst hX dL_isReadBack_125 (by decide), List.forall_mem_cons.mpr ⟨np_S.mono (op := np_ist 2 8) (np_s_istore hX dL_isReadBack_126 (by decide)) nw_ist_le, List.forall_mem_cons.mpr ⟨np_S.mono (op := np_iinc 9 1) (np_s_iinc hX dL_isReadBack_128 (by decide)) nw_iinc_le, List.forall_mem_cons.mpr ⟨np_s_goto hX dL_isReadBack_131 (by decide), List.forall_mem_cons.mpr ⟨np_s_iload hX dL_isReadBack_134, List.forall_mem_cons.mpr ⟨np_S.mono (op := np_if (fun x => x = 0) 189) (np_s_if_eq hX dL_isReadBack_136 (by decide)) nq_if_le, List.forall_mem_cons.mpr ⟨np_s_iload hX dL_isReadBack_139, List.forall_mem_cons.mpr ⟨np_S.mono (op := np_ifne 150) (np_s_if_ne hX dL_isReadBack_141 (by decide)) nq_ifne_le, List.forall_mem_cons.mpr ⟨np_s_iload hX dL_isReadBack_144, List.forall_mem_cons.mpr ⟨np_s_iconst hX dL_isReadBack_146 (by decide), List.forall_mem_cons.mpr ⟨np_S.mono (op := np_ic (fun x y => x ≤ y) 189) (np_s_icmp_le hX dL_isReadBack_147 (by decide)) nq_ic_le, List.forall_mem_cons.mpr ⟨np_s_aload_n hX dL_isReadBack_150 rfl, List.forall_mem_cons.mpr ⟨np_s_iload_n hX dL_isReadBack_151 rfl, List.forall_mem_cons.mpr ⟨np_S.mono (op := np_callVX 11 2 sp_X11_sure 3 1 6 108 648 []) (np_s_callVX hX C_X11_sure dL_isReadBack_152 (q := (RX11, TX11, 14)) rfl rfl gw695 gw63 gw692 gw693 gw694 ⟨by decide, by decide, by decide⟩ (by decide) (by decide) (fun _ h => nomatch h)) (nw_callVX_le2 (ci := 11) (n := 2) (sp := sp_X11_sure) (maxL := 3) (mc := 1) (ms := 6) (RC := 108) (RS := 648) (hs := [])), List.forall_mem_cons.mpr ⟨np_S.mono (op := np_if (fun x => 0 ≤ x) 164) (np_s_if_ge hX dL_isReadBack_155 (by decide)) nq_if_le, List.forall_mem_cons.mpr ⟨np_s_iload hX dL_isReadBack_158, List.forall_mem_cons.mpr ⟨np_s_iconst hX dL_isReadBack_160 (by decide), List.forall_mem_cons.mpr ⟨np_S.mono (op := np_icne 189) (np_s_icmp_ne hX dL_isReadBack_161 (by decide)) nq_icne_le, List.forall_mem_cons.mpr ⟨np_s_iload hX dL_isReadBack_164, List.forall_mem_cons.mpr ⟨np_s_bipush hX dL_isReadBack_166 (by decide), List.forall_mem_cons.mpr ⟨np_S.mono (op := np_ic (fun x y => x = y) 185) (np_s_icmp_eq hX dL_isReadBack_168 (by decide)) nq_ic_le, List.forall_mem_cons.mpr ⟨np_s_aload_n hX dL_isReadBack_171 rfl, List.forall_mem_cons.mpr ⟨np_s_iload_n hX dL_isReadBack_172 rfl, List.forall_mem_cons.mpr ⟨np_s_iload_n hX dL_isReadBack_173 rfl, List.forall_mem_cons.mpr ⟨np_s_iload_n hX dL_isReadBack_174 rfl, List.forall_mem_cons.mpr ⟨np_s_iload hX dL_isReadBack_175, List.forall_mem_cons.mpr ⟨np_S.mono (op := np_call 5 sp_L_readsAt 6 1 6 108 648) (np_s_callSW hX C_L_readsAt dL_isReadBack_177 gw1203 gw62 gw1201 gw1202 ⟨by decide, by decide, by decide⟩ (by decide) (by decide)) nq_call_le, List.forall_mem_cons.mpr ⟨np_s_ldc hX dL_isReadBack_180 gw1184, List.forall_mem_cons.mpr ⟨np_S.mono (op := np_icne 189) (np_s_icmp_ne hX dL_isReadBack_182 (by decide)) nq_icne_le, List.forall_mem_cons.mpr ⟨np_s_iconst hX dL_isReadBack_185 (by decide), List.forall_mem_cons.mpr ⟨np_s_goto hX dL_isReadBack_186 (by decide), List.forall_mem_cons.mpr ⟨np_s_iconst hX dL_isReadBack_189 (by decide), List.forall_mem_cons.mpr ⟨np_S.mono (op := np_ret X.2.2.1) (np_s_ret hX dL_isReadBack_190) (nq_ret_le hR), fun _ h => nomatch h⟩⟩⟩⟩⟩⟩⟩⟩⟩⟩⟩⟩⟩⟩⟩⟩⟩⟩⟩⟩⟩⟩⟩⟩⟩⟩⟩⟩⟩⟩⟩⟩⟩⟩⟩⟩⟩⟩⟩⟩⟩⟩⟩⟩⟩⟩⟩⟩⟩⟩⟩⟩⟩⟩⟩⟩⟩⟩⟩⟩⟩⟩⟩⟩⟩⟩⟩⟩⟩⟩⟩⟩⟩⟩⟩⟩⟩⟩⟩⟩⟩⟩⟩⟩⟩⟩⟩⟩⟩⟩⟩⟩⟩⟩⟩⟩⟩⟩⟩
noncomputable def m_L_isReadBack_58 (k134 : pw_S → Nat → Int32 → Int32 → Int32 → Int32 → Int32 → Int32 → pw_R Int32) : Nat → pw_S → Nat → Int32 → Int32 → Int32 → Int32 → Nat → Nat → Int32 → Int32 → Int32 → Int32 → pw_R Int32
| 0, _, _, _, _, _, _, _, _, _, _, _, _ => none
| N + 1, S, v0, v1, v2, v3, v4, va5, vi5, v6, v7, v8, v9 =>
 if v6 ≤ v9 then
 (k134 S v0 v1 v2 v3 v6 v7 v8)
 else
 (if 3 ≤ v9 then
 (k134 S v0 v1 v2 v3 v6 v7 v8)
 else
 (if v7 = 0 then
 (k134 S v0 v1 v2 v3 v6 v7 v8)
 else
 (if v8 = 0 then
 (pw_b (m_L_readsAt S v0 v1 v2 v3 v9) fun S1 r4 =>
 pw_l (r4 : Int32) fun z6 =>
 if z6 ≤ v3 then
 (pw_l (0 : Int32) fun z7 =>
 if z6 = v4 then
 (pw_b (m_L_isNoted S1 v0 va5 vi5) fun S8 r11 =>
 if r11 = 0 then
 (pw_l (0 : Int32) fun z13 =>
 pw_l (v9 + 1 : Int32) fun z14 =>
 m_L_isReadBack_58 k134 N S8 v0 v1 v2 v3 v4 va5 vi5 v6 z7 z13 z14)
 else
 (pw_l (1 : Int32) fun z15 =>
 pw_l (v9 + 1 : Int32) fun z16 =>
 m_L_isReadBack_58 k134 N S8 v0 v1 v2 v3 v4 va5 vi5 v6 z7 z15 z16))
 else
 (pw_l (0 : Int32) fun z17 =>
 pw_l (v9 + 1 : Int32) fun z18 =>
 m_L_isReadBack_58 k134 N S1 v0 v1 v2 v3 v4 va5 vi5 v6 z7 z17 z18))
 else
 (pw_l (1 : Int32) fun z19 =>
 if z6 = v4 then
 (pw_b (m_L_isNoted S1 v0 va5 vi5) fun S20 r23 =>
 if r23 = 0 then
 (pw_l (0 : Int32) fun z25 =>
 pw_l (v9 + 1 : Int32) fun z26 =>
 m_L_isReadBack_58 k134 N S20 v0 v1 v2 v3 v4 va5 vi5 v6 z19 z25 z26)
 else
 (pw_l (1 : Int32) fun z27 =>
 pw_l (v9 + 1 : Int32) fun z28 =>
 m_L_isReadBack_58 k134 N S20 v0 v1 v2 v3 v4 va5 vi5 v6 z19 z27 z28))
 else
 (pw_l (0 : Int32) fun z29 =>
 pw_l (v9 + 1 : Int32) fun z30 =>
 m_L_isReadBack_58 k134 N S1 v0 v1 v2 v3 v4 va5 vi5 v6 z19 z29 z30)))
 else
 (k134 S v0 v1 v2 v3 v6 v7 v8))))
set_option maxRecDepth 100000 in
set_option maxHeartbeats 8000000 in
theorem L_L_isReadBack_58 {X : np_Ctx} (hX : np_ok RL cL_isReadBack 11 9 250 108 648 .ireturn X) {Q : Option Value → np_W → Prop} {q : Nat} {n dc ds : Nat} (hR : ∀ st w ce sl, np_rt (some .boolean) 108 648 Q st w ce sl → X.2.2.1 st w ce sl) {k134 : pw_S → Nat → Int32 → Int32 → Int32 → Int32 → Int32 → Int32 → pw_R Int32} (hk134 : ∀ (S : pw_S) (v0 : Nat) (v1 : Int32) (v2 : Int32) (v3 : Int32) (v6 : Int32) (v7 : Int32) (v8 : Int32) (f : Nat → Option np_E) (ce sl : Nat) (hv0 : pw_ok q 61 v0 = true), ce + dc ≤ 108 → sl + ds ≤ 648 → pw_W q (n, f) S → pw_p (k134 S v0 v1 v2 v3 v6 v7 v8) (fun S' r => ∀ f', pw_W q (n, f') S' → Q (some (.int r)) (n, f')) → np_G X 134 [(0, .ref (pw_pl 61 v0)), (1, .int v1), (2, .int v2), (3, .int v3), (6, .int v6), (7, .int v7), (8, .int v8)] [] (n, f) ce sl) : ∀ (N : Nat) (S : pw_S) (v0 : Nat) (v1 : Int32) (v2 : Int32) (v3 : Int32) (v4 : Int32) (va5 : Nat) (vi5 : Nat) (v6 : Int32) (v7 : Int32) (v8 : Int32) (v9 : Int32) (f : Nat → Option np_E) (ce sl : Nat) (hv0 : pw_ok q 61 v0 = true) (ha5 : pw_arr va5 = true) (hi5 : pw_ok q va5 vi5 = true), ce + N * 26 + dc ≤ 108 → sl + N * 156 + ds ≤ 648 → pw_W q (n, f) S → pw_p (m_L_isReadBack_58 k134 N S v0 v1 v2 v3 v4 va5 vi5 v6 v7 v8 v9) (fun S' r => ∀ f', pw_W q (n, f') S' → Q (some (.int r)) (n, f')) → np_G X 58 [(0, .ref (pw_pl 61 v0)), (1, .int v1), (2, .int v2), (3, .int v3), (4, .int v4), (5, .ref (pw_pl va5 vi5)), (6, .int v6), (7, .int v7), (8, .int v8), (9, .int v9)] [] (n, f) ce sl := by
  intro N
  induction N with
  | zero =>
    intro S v0 v1 v2 v3 v4 va5 vi5 v6 v7 v8 v9 f ce sl hv0 ha5 hi5 hc hs hW h
    exact (pw_pn h).elim
  | succ N ih =>
    intro S v0 v1 v2 v3 v4 va5 vi5 v6 v7 v8 v9 f ce sl hv0 ha5 hi5 hc hs hW h
    unfold m_L_isReadBack_58 at h
    refine np_soundW (so_L_isReadBack hX hR) [58, 134, 150] 400 58 _ _ _ _ _ ?_
    conv => whnf
    refine pw_br h (fun _ h => ?_) (fun _ h => ?_)
    · conv => whnf
      exact np_gl (hk134 S v0 v1 v2 v3 v6 v7 v8 f _ _ hv0 (by omega) (by omega) hW h) ⟨rfl, rfl, rfl, rfl, rfl, rfl, rfl, trivial⟩
    · conv => whnf
      refine pw_br h (fun _ h => ?_) (fun _ h => ?_)
      · conv => whnf
        exact np_gl (hk134 S v0 v1 v2 v3 v6 v7 v8 f _ _ hv0 (by omega) (by omega) hW h) ⟨rfl, rfl, rfl, rfl, rfl, rfl, rfl, trivial⟩
      · conv => whnf
        refine pw_br h (fun _ h => ?_) (fun _ h => ?_)
        · conv => whnf
          exact np_gl (hk134 S v0 v1 v2 v3 v6 v7 v8 f _ _ hv0 (by omega) (by omega) hW h) ⟨rfl, rfl, rfl, rfl, rfl, rfl, rfl, trivial⟩
        · conv => whnf
          refine pw_br h (fun _ h => ?_) (fun _ h => ?_)
          · conv => whnf
            refine np_chk_i (pw_and rfl (pw_and rfl (pw_and rfl ((pw_and (pw_le (by omega)) (pw_le (by omega))))))) ?_
            conv => whnf
            refine ⟨q, S, v0, v1, v2, v3, v9, rfl, hv0, hW, pw_bd h (fun S1 r4 h f2 hW3 => ?_)⟩
            conv => whnf
            refine pw_st h (fun z6 h => ?_)
            conv => whnf
            refine pw_br h (fun _ h => ?_) (fun _ h => ?_)
            · conv => whnf
              refine pw_st h (fun z7 h => ?_)
              conv => whnf
              refine pw_br h (fun _ h => ?_) (fun _ h => ?_)
              · conv => whnf
                refine np_chk_i (pw_and rfl (pw_and rfl (pw_and rfl ((pw_and (pw_le (by omega)) (pw_le (by omega))))))) ?_
                conv => whnf
                refine ⟨q, S1, v0, va5, vi5, rfl, hv0, ha5, hi5, hW3, pw_bd h (fun S8 r11 h f9 hW10 => ?_)⟩
                conv => whnf
                refine pw_br h (fun _ h => ?_) (fun _ h => ?_)
                · conv => whnf
                  refine pw_st h (fun z13 h => ?_)
                  conv => whnf
                  refine pw_st h (fun z14 h => ?_)
                  conv => whnf
                  exact np_gl (ih S8 v0 v1 v2 v3 v4 va5 vi5 v6 z7 z13 z14 f9 _ _ hv0 ha5 hi5 (by omega) (by omega) hW10 h) ⟨rfl, rfl, rfl, rfl, rfl, rfl, rfl, rfl, rfl, rfl, trivial⟩
                · conv => whnf
                  refine pw_st h (fun z15 h => ?_)
                  conv => whnf
                  refine pw_st h (fun z16 h => ?_)
                  conv => whnf
                  exact np_gl (ih S8 v0 v1 v2 v3 v4 va5 vi5 v6 z7 z15 z16 f9 _ _ hv0 ha5 hi5 (by omega) (by omega) hW10 h) ⟨rfl, rfl, rfl, rfl, rfl, rfl, rfl, rfl, rfl, rfl, trivial⟩
              · conv => whnf
                refine pw_st h (fun z17 h => ?_)
                conv => whnf
                refine pw_st h (fun z18 h => ?_)
                conv => whnf
                exact np_gl (ih S1 v0 v1 v2 v3 v4 va5 vi5 v6 z7 z17 z18 f2 _ _ hv0 ha5 hi5 (by omega) (by omega) hW3 h) ⟨rfl, rfl, rfl, rfl, rfl, rfl, rfl, rfl, rfl, rfl, trivial⟩
            · conv => whnf
              refine pw_st h (fun z19 h => ?_)
              conv => whnf
              refine pw_br h (fun _ h => ?_) (fun _ h => ?_)
              · conv => whnf
                refine np_chk_i (pw_and rfl (pw_and rfl (pw_and rfl ((pw_and (pw_le (by omega)) (pw_le (by omega))))))) ?_
                conv => whnf
                refine ⟨q, S1, v0, va5, vi5, rfl, hv0, ha5, hi5, hW3, pw_bd h (fun S20 r23 h f21 hW22 => ?_)⟩
                conv => whnf
                refine pw_br h (fun _ h => ?_) (fun _ h => ?_)
                · conv => whnf
                  refine pw_st h (fun z25 h => ?_)
                  conv => whnf
                  refine pw_st h (fun z26 h => ?_)
                  conv => whnf
                  exact np_gl (ih S20 v0 v1 v2 v3 v4 va5 vi5 v6 z19 z25 z26 f21 _ _ hv0 ha5 hi5 (by omega) (by omega) hW22 h) ⟨rfl, rfl, rfl, rfl, rfl, rfl, rfl, rfl, rfl, rfl, trivial⟩
                · conv => whnf
                  refine pw_st h (fun z27 h => ?_)
                  conv => whnf
                  refine pw_st h (fun z28 h => ?_)
                  conv => whnf
                  exact np_gl (ih S20 v0 v1 v2 v3 v4 va5 vi5 v6 z19 z27 z28 f21 _ _ hv0 ha5 hi5 (by omega) (by omega) hW22 h) ⟨rfl, rfl, rfl, rfl, rfl, rfl, rfl, rfl, rfl, rfl, trivial⟩
              · conv => whnf
                refine pw_st h (fun z29 h => ?_)
                conv => whnf
                refine pw_st h (fun z30 h => ?_)
                conv => whnf
                exact np_gl (ih S1 v0 v1 v2 v3 v4 va5 vi5 v6 z19 z29 z30 f2 _ _ hv0 ha5 hi5 (by omega) (by omega) hW3 h) ⟨rfl, rfl, rfl, rfl, rfl, rfl, rfl, rfl, rfl, rfl, trivial⟩
          · conv => whnf
            exact np_gl (hk134 S v0 v1 v2 v3 v6 v7 v8 f _ _ hv0 (by omega) (by omega) hW h) ⟨rfl, rfl, rfl, rfl, rfl, rfl, rfl, trivial⟩
noncomputable def m_L_isReadBack_j150  (S : pw_S) (v0 : Nat) (v1 : Int32) (v2 : Int32) (v3 : Int32) (v6 : Int32) : pw_R Int32 :=
 pw_b (m_X11_sure S v0 v1) fun S31 r34 =>
 pw_e r34 (fun r36 =>
 (if 0 ≤ r36 then
 (if v6 = 99 then
 (some (S31, 1))
 else
 (pw_b (m_L_readsAt S31 v0 v1 v2 v3 v6) fun S38 r41 =>
 if r41 = (-70007) then
 (some (S38, 1))
 else
 (some (S38, 0))))
 else
 (if v6 = 1 then
 (if v6 = 99 then
 (some (S31, 1))
 else
 (pw_b (m_L_readsAt S31 v0 v1 v2 v3 v6) fun S43 r46 =>
 if r46 = (-70007) then
 (some (S43, 1))
 else
 (some (S43, 0))))
 else
 (some (S31, 0))))) (fun _ => none)
set_option maxRecDepth 100000 in
set_option maxHeartbeats 8000000 in
theorem J_L_isReadBack_150 {X : np_Ctx} (hX : np_ok RL cL_isReadBack 11 9 250 108 648 .ireturn X) {Q : Option Value → np_W → Prop} {q : Nat} {n dc ds : Nat} (hR : ∀ st w ce sl, np_rt (some .boolean) 108 648 Q st w ce sl → X.2.2.1 st w ce sl) (S : pw_S) (v0 : Nat) (v1 : Int32) (v2 : Int32) (v3 : Int32) (v6 : Int32) (f : Nat → Option np_E) (ce sl : Nat) (hv0 : pw_ok q 61 v0 = true) (hc : ce + 2 + dc ≤ 108) (hs : sl + 12 + ds ≤ 648) (hW : pw_W q (n, f) S) (h : pw_p (m_L_isReadBack_j150 S v0 v1 v2 v3 v6) (fun S' r => ∀ f', pw_W q (n, f') S' → Q (some (.int r)) (n, f'))) : np_G X 150 [(0, .ref (pw_pl 61 v0)), (1, .int v1), (2, .int v2), (3, .int v3), (6, .int v6)] [] (n, f) ce sl := by
  unfold m_L_isReadBack_j150 at h
  refine np_soundW (so_L_isReadBack hX hR) [58, 150] 400 150 _ _ _ _ _ ?_
  conv => whnf
  refine np_rd_i (hW.g hv0) ?_
  conv => whnf
  refine np_chk_i (pw_and rfl (pw_and rfl (pw_and rfl (pw_and rfl ((pw_and (pw_le (by omega)) (pw_le (by omega)))))))) ?_
  conv => whnf
  refine ⟨q, S, v0, v1, rfl, hv0, hW, pw_bd h (fun S31 r34 h f32 hW33 => ?_)⟩
  rcases r34 with r36 | e37
  · replace h := pw_ei h
    conv => whnf
    refine pw_br h (fun _ h => ?_) (fun _ h => ?_)
    · conv => whnf
      refine pw_br h (fun _ h => ?_) (fun _ h => ?_)
      · conv => whnf
        exact ⟨(by omega), (by omega), ⟨_, rfl, by decide⟩, _, fun _ _ h9 => h9, pw_ps h _ hW33⟩
      · conv => whnf
        refine np_chk_i (pw_and rfl (pw_and rfl (pw_and rfl ((pw_and (pw_le (by omega)) (pw_le (by omega))))))) ?_
        conv => whnf
        refine ⟨q, S31, v0, v1, v2, v3, v6, rfl, hv0, hW33, pw_bd h (fun S38 r41 h f39 hW40 => ?_)⟩
        conv => whnf
        refine pw_br h (fun _ h => ?_) (fun _ h => ?_)
        · conv => whnf
          exact ⟨(by omega), (by omega), ⟨_, rfl, by decide⟩, _, fun _ _ h9 => h9, pw_ps h _ hW40⟩
        · conv => whnf
          exact ⟨(by omega), (by omega), ⟨_, rfl, by decide⟩, _, fun _ _ h9 => h9, pw_ps h _ hW40⟩
    · conv => whnf
      refine pw_br h (fun _ h => ?_) (fun _ h => ?_)
      · conv => whnf
        refine pw_br h (fun _ h => ?_) (fun _ h => ?_)
        · conv => whnf
          exact ⟨(by omega), (by omega), ⟨_, rfl, by decide⟩, _, fun _ _ h9 => h9, pw_ps h _ hW33⟩
        · conv => whnf
          refine np_chk_i (pw_and rfl (pw_and rfl (pw_and rfl ((pw_and (pw_le (by omega)) (pw_le (by omega))))))) ?_
          conv => whnf
          refine ⟨q, S31, v0, v1, v2, v3, v6, rfl, hv0, hW33, pw_bd h (fun S43 r46 h f44 hW45 => ?_)⟩
          conv => whnf
          refine pw_br h (fun _ h => ?_) (fun _ h => ?_)
          · conv => whnf
            exact ⟨(by omega), (by omega), ⟨_, rfl, by decide⟩, _, fun _ _ h9 => h9, pw_ps h _ hW45⟩
          · conv => whnf
            exact ⟨(by omega), (by omega), ⟨_, rfl, by decide⟩, _, fun _ _ h9 => h9, pw_ps h _ hW45⟩
      · conv => whnf
        exact ⟨(by omega), (by omega), ⟨_, rfl, by decide⟩, _, fun _ _ h9 => h9, pw_ps h _ hW33⟩
  · exact (pw_pn h).elim
noncomputable def m_L_isReadBack (S : pw_S) (i0 : Nat) (x1 : Int32) (x2 : Int32) (x3 : Int32) (x4 : Int32) (a5 : Nat) (i5 : Nat) : pw_R Int32 :=
 pw_b (m_X11_readings S i0 x1 x2 x3) fun S48 r51 =>
 pw_e r51 (fun r53 =>
 (pw_l (r53 : Int32) fun z55 =>
 pw_b (m_X11_readingsAnew S48 i0 x1 x2 x3) fun S56 r59 =>
 pw_e r59 (fun r61 =>
 (if z55 = r61 then
 (pw_l (1 : Int32) fun z63 =>
 if 0 ≤ z55 then
 (pw_l (0 : Int32) fun z64 =>
 pw_l (0 : Int32) fun z65 =>
 m_L_isReadBack_58
 (fun S74 u66 u68 u69 u70 u71 u72 u73 =>
 (if u72 = 0 then
 (some (S74, 0))
 else
 (if u73 = 0 then
 (if u71 ≤ 3 then
 (some (S74, 0))
 else
 (m_L_isReadBack_j150 S74 u66 u68 u69 u70 u71))
 else
 (m_L_isReadBack_j150 S74 u66 u68 u69 u70 u71)))) (pw_F 4) S56 i0 x1 x2 x3 x4 a5 i5 z55 z63 z64 z65)
 else
 (if z63 = 0 then
 (some (S56, 0))
 else
 (pw_b (m_X11_sure S56 i0 x1) fun S81 r84 =>
 pw_e r84 (fun r86 =>
 (if r86 < 0 then
 (some (S81, 0))
 else
 (some (S81, 1)))) (fun _ => none))))
 else
 (pw_l (0 : Int32) fun z88 =>
 if 0 ≤ z55 then
 (pw_l (0 : Int32) fun z89 =>
 pw_l (0 : Int32) fun z90 =>
 m_L_isReadBack_58
 (fun S99 u91 u93 u94 u95 u96 u97 u98 =>
 (if u97 = 0 then
 (some (S99, 0))
 else
 (if u98 = 0 then
 (if u96 ≤ 3 then
 (some (S99, 0))
 else
 (m_L_isReadBack_j150 S99 u91 u93 u94 u95 u96))
 else
 (m_L_isReadBack_j150 S99 u91 u93 u94 u95 u96)))) (pw_F 4) S56 i0 x1 x2 x3 x4 a5 i5 z55 z88 z89 z90)
 else
 (if z88 = 0 then
 (some (S56, 0))
 else
 (pw_b (m_X11_sure S56 i0 x1) fun S106 r109 =>
 pw_e r109 (fun r111 =>
 (if r111 < 0 then
 (some (S106, 0))
 else
 (some (S106, 1)))) (fun _ => none)))))) (fun _ => none))) (fun _ => none)
def sp_L_isReadBack : np_Sp := fun vs w Q => ∃ (q : Nat) (S : pw_S) (i0 : Nat) (x1 : Int32) (x2 : Int32) (x3 : Int32) (x4 : Int32) (a5 : Nat) (i5 : Nat), vs = [.ref (pw_pl 61 i0), .int x1, .int x2, .int x3, .int x4, .ref (pw_pl a5 i5)] ∧ pw_ok q 61 i0 = true ∧ pw_arr a5 = true ∧ pw_ok q a5 i5 = true ∧ pw_W q w S ∧ pw_p (m_L_isReadBack S i0 x1 x2 x3 x4 a5 i5) (fun S' r => ∀ f', pw_W q (w.1, f') S' → Q (some (.int r)) (w.1, f'))
set_option maxRecDepth 100000 in
set_option maxHeartbeats 8000000 in
theorem C_L_isReadBack : np_C yL_isReadBack cL_isReadBack 11 (some .boolean) 9 250 108 648 (sp_L_isReadBack) := by
  refine np_of (by decide) ?_
  intro X vs w Q hsp hX hmn hRt hlt
  obtain ⟨q, S, i0, x1, x2, x3, x4, a5, i5, rfl, hi0, ha5, hi5, hW, h⟩ := hsp
  obtain ⟨n, f⟩ := w
  unfold m_L_isReadBack at h
  have hR : ∀ st w ce sl, np_rt (some .boolean) 108 648 Q st w ce sl → X.2.2.1 st w ce sl := fun _ _ _ _ h => by rw [hRt]; exact h
  refine np_soundW (so_L_isReadBack hX hR) [58, 150] 400 0 _ _ _ _ _ ?_
  conv => whnf
  refine np_rd_i (hW.g hi0) ?_
  conv => whnf
  refine ⟨q, S, i0, x1, x2, x3, rfl, hi0, hW, pw_bd h (fun S48 r51 h f49 hW50 => ?_)⟩
  rcases r51 with r53 | e54
  · replace h := pw_ei h
    conv => whnf
    refine pw_st h (fun z55 h => ?_)
    conv => whnf
    refine np_rd_i (hW50.g hi0) ?_
    conv => whnf
    refine ⟨q, S48, i0, x1, x2, x3, rfl, hi0, hW50, pw_bd h (fun S56 r59 h f57 hW58 => ?_)⟩
    rcases r59 with r61 | e62
    · replace h := pw_ei h
      conv => whnf
      refine pw_br h (fun _ h => ?_) (fun _ h => ?_)
      · conv => whnf
        refine pw_st h (fun z63 h => ?_)
        conv => whnf
        refine pw_br h (fun _ h => ?_) (fun _ h => ?_)
        · conv => whnf
          refine pw_st h (fun z64 h => ?_)
          conv => whnf
          refine pw_st h (fun z65 h => ?_)
          conv => whnf
          refine np_gl (L_L_isReadBack_58 (dc := 2) (ds := 12) hX hR (fun S74 u66 u68 u69 u70 u71 u72 u73 f75 ce77 sl78 ho67 hc79 hs80 hW76 h => ?_) (pw_F 4) S56 i0 x1 x2 x3 x4 a5 i5 z55 z63 z64 z65 f57 _ _ hi0 ha5 hi5 (by rw [pw_F_eq]; omega) (by rw [pw_F_eq]; omega) hW58 h) ⟨rfl, rfl, rfl, rfl, rfl, rfl, rfl, rfl, rfl, rfl, trivial⟩
          · refine np_soundW (so_L_isReadBack hX hR) [58, 150] 400 134 _ _ _ _ _ ?_
            conv => whnf
            refine pw_br h (fun _ h => ?_) (fun _ h => ?_)
            · conv => whnf
              exact ⟨(by omega), (by omega), ⟨_, rfl, by decide⟩, _, fun _ _ h9 => h9, pw_ps h _ hW76⟩
            · conv => whnf
              refine pw_br h (fun _ h => ?_) (fun _ h => ?_)
              · conv => whnf
                refine pw_br h (fun _ h => ?_) (fun _ h => ?_)
                · conv => whnf
                  exact ⟨(by omega), (by omega), ⟨_, rfl, by decide⟩, _, fun _ _ h9 => h9, pw_ps h _ hW76⟩
                · conv => whnf
                  refine np_gl (J_L_isReadBack_150 (dc := 0) (ds := 0) hX hR S74 u66 u68 u69 u70 u71 f75 _ _ ho67 (by omega) (by omega) hW76 h) ?_
                  exact ⟨rfl, rfl, rfl, rfl, rfl, trivial⟩
              · conv => whnf
                refine np_gl (J_L_isReadBack_150 (dc := 0) (ds := 0) hX hR S74 u66 u68 u69 u70 u71 f75 _ _ ho67 (by omega) (by omega) hW76 h) ?_
                exact ⟨rfl, rfl, rfl, rfl, rfl, trivial⟩
        · conv => whnf
          refine pw_br h (fun _ h => ?_) (fun _ h => ?_)
          · conv => whnf
            exact ⟨Nat.le_of_ble_eq_true rfl, Nat.le_of_ble_eq_true rfl, ⟨_, rfl, by decide⟩, _, fun _ _ h9 => h9, pw_ps h _ hW58⟩
          · conv => whnf
            refine np_rd_i (hW58.g hi0) ?_
            conv => whnf
            refine ⟨q, S56, i0, x1, rfl, hi0, hW58, pw_bd h (fun S81 r84 h f82 hW83 => ?_)⟩
            rcases r84 with r86 | e87
            · replace h := pw_ei h
              conv => whnf
              refine pw_br h (fun _ h => ?_) (fun _ h => ?_)
              · conv => whnf
                exact ⟨Nat.le_of_ble_eq_true rfl, Nat.le_of_ble_eq_true rfl, ⟨_, rfl, by decide⟩, _, fun _ _ h9 => h9, pw_ps h _ hW83⟩
              · conv => whnf
                exact ⟨Nat.le_of_ble_eq_true rfl, Nat.le_of_ble_eq_true rfl, ⟨_, rfl, by decide⟩, _, fun _ _ h9 => h9, pw_ps h _ hW83⟩
            · exact (pw_pn h).elim
      · conv => whnf
        refine pw_st h (fun z88 h => ?_)
        conv => whnf
        refine pw_br h (fun _ h => ?_) (fun _ h => ?_)
        · conv => whnf
          refine pw_st h (fun z89 h => ?_)
          conv => whnf
          refine pw_st h (fun z90 h => ?_)
          conv => whnf
          refine np_gl (L_L_isReadBack_58 (dc := 2) (ds := 12) hX hR (fun S99 u91 u93 u94 u95 u96 u97 u98 f100 ce102 sl103 ho92 hc104 hs105 hW101 h => ?_) (pw_F 4) S56 i0 x1 x2 x3 x4 a5 i5 z55 z88 z89 z90 f57 _ _ hi0 ha5 hi5 (by rw [pw_F_eq]; omega) (by rw [pw_F_eq]; omega) hW58 h) ⟨rfl, rfl, rfl, rfl, rfl, rfl, rfl, rfl, rfl, rfl, trivial⟩
          · refine np_soundW (so_L_isReadBack hX hR) [58, 150] 400 134 _ _ _ _ _ ?_
            conv => whnf
            refine pw_br h (fun _ h => ?_) (fun _ h => ?_)
            · conv => whnf
              exact ⟨(by omega), (by omega), ⟨_, rfl, by decide⟩, _, fun _ _ h9 => h9, pw_ps h _ hW101⟩
            · conv => whnf
              refine pw_br h (fun _ h => ?_) (fun _ h => ?_)
              · conv => whnf
                refine pw_br h (fun _ h => ?_) (fun _ h => ?_)
                · conv => whnf
                  exact ⟨(by omega), (by omega), ⟨_, rfl, by decide⟩, _, fun _ _ h9 => h9, pw_ps h _ hW101⟩
                · conv => whnf
                  refine np_gl (J_L_isReadBack_150 (dc := 0) (ds := 0) hX hR S99 u91 u93 u94 u95 u96 f100 _ _ ho92 (by omega) (by omega) hW101 h) ?_
                  exact ⟨rfl, rfl, rfl, rfl, rfl, trivial⟩
              · conv => whnf
                refine np_gl (J_L_isReadBack_150 (dc := 0) (ds := 0) hX hR S99 u91 u93 u94 u95 u96 f100 _ _ ho92 (by omega) (by omega) hW101 h) ?_
                exact ⟨rfl, rfl, rfl, rfl, rfl, trivial⟩
        · conv => whnf
          refine pw_br h (fun _ h => ?_) (fun _ h => ?_)
          · conv => whnf
            exact ⟨Nat.le_of_ble_eq_true rfl, Nat.le_of_ble_eq_true rfl, ⟨_, rfl, by decide⟩, _, fun _ _ h9 => h9, pw_ps h _ hW58⟩
          · conv => whnf
            refine np_rd_i (hW58.g hi0) ?_
            conv => whnf
            refine ⟨q, S56, i0, x1, rfl, hi0, hW58, pw_bd h (fun S106 r109 h f107 hW108 => ?_)⟩
            rcases r109 with r111 | e112
            · replace h := pw_ei h
              conv => whnf
              refine pw_br h (fun _ h => ?_) (fun _ h => ?_)
              · conv => whnf
                exact ⟨Nat.le_of_ble_eq_true rfl, Nat.le_of_ble_eq_true rfl, ⟨_, rfl, by decide⟩, _, fun _ _ h9 => h9, pw_ps h _ hW108⟩
              · conv => whnf
                exact ⟨Nat.le_of_ble_eq_true rfl, Nat.le_of_ble_eq_true rfl, ⟨_, rfl, by decide⟩, _, fun _ _ h9 => h9, pw_ps h _ hW108⟩
            · exact (pw_pn h).elim
    · exact (pw_pn h).elim
  · exact (pw_pn h).elim
