theorem dL_steps_0 : decode cL_steps 0 = .ok (.iconst 3, 1) := by decide +kernel
theorem dL_steps_1 : decode cL_steps 1 = .ok (.bipush 6, 2) := by decide +kernel
theorem dL_steps_3 : decode cL_steps 3 = .ok (.iload_n 1, 1) := by decide +kernel
theorem dL_steps_4 : decode cL_steps 4 = .ok (.imul, 1) := by decide +kernel
theorem dL_steps_5 : decode cL_steps 5 = .ok (.iadd, 1) := by decide +kernel
theorem dL_steps_6 : decode cL_steps 6 = .ok (.istore_n 3, 1) := by decide +kernel
theorem dL_steps_7 : decode cL_steps 7 = .ok (.aload_n 0, 1) := by decide +kernel
theorem dL_steps_8 : decode cL_steps 8 = .ok (.iload_n 1, 1) := by decide +kernel
theorem dL_steps_9 : decode cL_steps 9 = .ok (.invokestatic 105, 3) := by decide +kernel
theorem dL_steps_12 : decode cL_steps 12 = .ok (.istore 4, 2) := by decide +kernel
theorem dL_steps_14 : decode cL_steps 14 = .ok (.aload_n 2, 1) := by decide +kernel
theorem dL_steps_15 : decode cL_steps 15 = .ok (.iload_n 3, 1) := by decide +kernel
theorem dL_steps_16 : decode cL_steps 16 = .ok (.iconst 1, 1) := by decide +kernel
theorem dL_steps_17 : decode cL_steps 17 = .ok (.iadd, 1) := by decide +kernel
theorem dL_steps_18 : decode cL_steps 18 = .ok (.iaload, 1) := by decide +kernel
theorem dL_steps_19 : decode cL_steps 19 = .ok (.istore 5, 2) := by decide +kernel
theorem dL_steps_21 : decode cL_steps 21 = .ok (.iload 5, 2) := by decide +kernel
theorem dL_steps_23 : decode cL_steps 23 = .ok (.iload 4, 2) := by decide +kernel
theorem dL_steps_25 : decode cL_steps 25 = .ok (.if_icmp .ge 21, 3) := by decide +kernel
theorem dL_steps_28 : decode cL_steps 28 = .ok (.aload_n 0, 1) := by decide +kernel
theorem dL_steps_29 : decode cL_steps 29 = .ok (.iload_n 1, 1) := by decide +kernel
theorem dL_steps_30 : decode cL_steps 30 = .ok (.iload 5, 2) := by decide +kernel
theorem dL_steps_32 : decode cL_steps 32 = .ok (.invokevirtual 33, 3) := by decide +kernel
theorem dL_steps_35 : decode cL_steps 35 = .ok (.bipush 10, 2) := by decide +kernel
theorem dL_steps_37 : decode cL_steps 37 = .ok (.if_icmp .eq 9, 3) := by decide +kernel
theorem dL_steps_40 : decode cL_steps 40 = .ok (.iinc 5 1, 3) := by decide +kernel
theorem dL_steps_43 : decode cL_steps 43 = .ok (.goto (-22), 3) := by decide +kernel
theorem dL_steps_46 : decode cL_steps 46 = .ok (.aload_n 0, 1) := by decide +kernel
theorem dL_steps_47 : decode cL_steps 47 = .ok (.iconst 2, 1) := by decide +kernel
theorem dL_steps_48 : decode cL_steps 48 = .ok (.iload_n 1, 1) := by decide +kernel
theorem dL_steps_49 : decode cL_steps 49 = .ok (.iconst 0, 1) := by decide +kernel
theorem dL_steps_50 : decode cL_steps 50 = .ok (.iconst 0, 1) := by decide +kernel
theorem dL_steps_51 : decode cL_steps 51 = .ok (.invokestatic 52, 3) := by decide +kernel
theorem dL_steps_54 : decode cL_steps 54 = .ok (.istore 6, 2) := by decide +kernel
theorem dL_steps_56 : decode cL_steps 56 = .ok (.aload_n 2, 1) := by decide +kernel
theorem dL_steps_57 : decode cL_steps 57 = .ok (.iload_n 3, 1) := by decide +kernel
theorem dL_steps_58 : decode cL_steps 58 = .ok (.iaload, 1) := by decide +kernel
theorem dL_steps_59 : decode cL_steps 59 = .ok (.ifCond .ne 24, 3) := by decide +kernel
theorem dL_steps_62 : decode cL_steps 62 = .ok (.iload 6, 2) := by decide +kernel
theorem dL_steps_64 : decode cL_steps 64 = .ok (.ldc 42, 2) := by decide +kernel
theorem dL_steps_66 : decode cL_steps 66 = .ok (.if_icmp .ne 15, 3) := by decide +kernel
theorem dL_steps_69 : decode cL_steps 69 = .ok (.aload_n 0, 1) := by decide +kernel
theorem dL_steps_70 : decode cL_steps 70 = .ok (.iload_n 1, 1) := by decide +kernel
theorem dL_steps_71 : decode cL_steps 71 = .ok (.invokevirtual 120, 3) := by decide +kernel
theorem dL_steps_74 : decode cL_steps 74 = .ok (.ifCond .ne 7, 3) := by decide +kernel
theorem dL_steps_77 : decode cL_steps 77 = .ok (.iconst 1, 1) := by decide +kernel
theorem dL_steps_78 : decode cL_steps 78 = .ok (.goto 4, 3) := by decide +kernel
theorem dL_steps_81 : decode cL_steps 81 = .ok (.iconst 0, 1) := by decide +kernel
theorem dL_steps_82 : decode cL_steps 82 = .ok (.ireturn, 1) := by decide +kernel
theorem dL_steps_83 : decode cL_steps 83 = .ok (.aload_n 2, 1) := by decide +kernel
theorem dL_steps_84 : decode cL_steps 84 = .ok (.iload_n 3, 1) := by decide +kernel
theorem dL_steps_85 : decode cL_steps 85 = .ok (.iconst 5, 1) := by decide +kernel
theorem dL_steps_86 : decode cL_steps 86 = .ok (.iadd, 1) := by decide +kernel
theorem dL_steps_87 : decode cL_steps 87 = .ok (.iaload, 1) := by decide +kernel
theorem dL_steps_88 : decode cL_steps 88 = .ok (.ifCond .ne 7, 3) := by decide +kernel
theorem dL_steps_91 : decode cL_steps 91 = .ok (.iconst 1, 1) := by decide +kernel
theorem dL_steps_92 : decode cL_steps 92 = .ok (.goto 4, 3) := by decide +kernel
theorem dL_steps_95 : decode cL_steps 95 = .ok (.iconst 0, 1) := by decide +kernel
theorem dL_steps_96 : decode cL_steps 96 = .ok (.istore 7, 2) := by decide +kernel
theorem dL_steps_98 : decode cL_steps 98 = .ok (.iload 5, 2) := by decide +kernel
theorem dL_steps_100 : decode cL_steps 100 = .ok (.iload 4, 2) := by decide +kernel
theorem dL_steps_102 : decode cL_steps 102 = .ok (.if_icmp .ne 88, 3) := by decide +kernel
theorem dL_steps_105 : decode cL_steps 105 = .ok (.iload 7, 2) := by decide +kernel
theorem dL_steps_107 : decode cL_steps 107 = .ok (.ifCond .ne 13, 3) := by decide +kernel
theorem dL_steps_110 : decode cL_steps 110 = .ok (.aload_n 2, 1) := by decide +kernel
theorem dL_steps_111 : decode cL_steps 111 = .ok (.iload_n 3, 1) := by decide +kernel
theorem dL_steps_112 : decode cL_steps 112 = .ok (.iconst 1, 1) := by decide +kernel
theorem dL_steps_113 : decode cL_steps 113 = .ok (.iadd, 1) := by decide +kernel
theorem dL_steps_114 : decode cL_steps 114 = .ok (.iaload, 1) := by decide +kernel
theorem dL_steps_115 : decode cL_steps 115 = .ok (.iload 4, 2) := by decide +kernel
theorem dL_steps_117 : decode cL_steps 117 = .ok (.if_icmp .ne 73, 3) := by decide +kernel
theorem dL_steps_120 : decode cL_steps 120 = .ok (.iload 6, 2) := by decide +kernel
theorem dL_steps_122 : decode cL_steps 122 = .ok (.iload 7, 2) := by decide +kernel
theorem dL_steps_124 : decode cL_steps 124 = .ok (.ifCond .eq 7, 3) := by decide +kernel
theorem dL_steps_127 : decode cL_steps 127 = .ok (.iconst (-1), 1) := by decide +kernel
theorem dL_steps_128 : decode cL_steps 128 = .ok (.goto 5, 3) := by decide +kernel
theorem dL_steps_131 : decode cL_steps 131 = .ok (.bipush (-2), 2) := by decide +kernel
theorem dL_steps_133 : decode cL_steps 133 = .ok (.if_icmp .ne 55, 3) := by decide +kernel
theorem dL_steps_136 : decode cL_steps 136 = .ok (.aload_n 0, 1) := by decide +kernel
theorem dL_steps_137 : decode cL_steps 137 = .ok (.iload_n 1, 1) := by decide +kernel
theorem dL_steps_138 : decode cL_steps 138 = .ok (.invokevirtual 120, 3) := by decide +kernel
theorem dL_steps_141 : decode cL_steps 141 = .ok (.sipush 10000, 3) := by decide +kernel
theorem dL_steps_144 : decode cL_steps 144 = .ok (.aload_n 2, 1) := by decide +kernel
theorem dL_steps_145 : decode cL_steps 145 = .ok (.iload_n 3, 1) := by decide +kernel
theorem dL_steps_146 : decode cL_steps 146 = .ok (.iconst 2, 1) := by decide +kernel
theorem dL_steps_147 : decode cL_steps 147 = .ok (.iadd, 1) := by decide +kernel
theorem dL_steps_148 : decode cL_steps 148 = .ok (.iaload, 1) := by decide +kernel
theorem dL_steps_149 : decode cL_steps 149 = .ok (.imul, 1) := by decide +kernel
theorem dL_steps_150 : decode cL_steps 150 = .ok (.sipush 1000, 3) := by decide +kernel
theorem dL_steps_153 : decode cL_steps 153 = .ok (.aload_n 2, 1) := by decide +kernel
theorem dL_steps_154 : decode cL_steps 154 = .ok (.iload_n 3, 1) := by decide +kernel
theorem dL_steps_155 : decode cL_steps 155 = .ok (.iconst 3, 1) := by decide +kernel
theorem dL_steps_156 : decode cL_steps 156 = .ok (.iadd, 1) := by decide +kernel
theorem dL_steps_157 : decode cL_steps 157 = .ok (.iaload, 1) := by decide +kernel
theorem dL_steps_158 : decode cL_steps 158 = .ok (.bipush 9, 2) := by decide +kernel
theorem dL_steps_160 : decode cL_steps 160 = .ok (.if_icmp .ge 11, 3) := by decide +kernel
theorem dL_steps_163 : decode cL_steps 163 = .ok (.aload_n 2, 1) := by decide +kernel
theorem dL_steps_164 : decode cL_steps 164 = .ok (.iload_n 3, 1) := by decide +kernel
theorem dL_steps_165 : decode cL_steps 165 = .ok (.iconst 3, 1) := by decide +kernel
theorem dL_steps_166 : decode cL_steps 166 = .ok (.iadd, 1) := by decide +kernel
theorem dL_steps_167 : decode cL_steps 167 = .ok (.iaload, 1) := by decide +kernel
theorem dL_steps_168 : decode cL_steps 168 = .ok (.goto 5, 3) := by decide +kernel
theorem dL_steps_171 : decode cL_steps 171 = .ok (.bipush 9, 2) := by decide +kernel
theorem dL_steps_173 : decode cL_steps 173 = .ok (.imul, 1) := by decide +kernel
theorem dL_steps_174 : decode cL_steps 174 = .ok (.iadd, 1) := by decide +kernel
theorem dL_steps_175 : decode cL_steps 175 = .ok (.aload_n 2, 1) := by decide +kernel
theorem dL_steps_176 : decode cL_steps 176 = .ok (.iload_n 3, 1) := by decide +kernel
theorem dL_steps_177 : decode cL_steps 177 = .ok (.iconst 1, 1) := by decide +kernel
theorem dL_steps_178 : decode cL_steps 178 = .ok (.iadd, 1) := by decide +kernel
theorem dL_steps_179 : decode cL_steps 179 = .ok (.iaload, 1) := by decide +kernel
theorem dL_steps_180 : decode cL_steps 180 = .ok (.iadd, 1) := by decide +kernel
theorem dL_steps_181 : decode cL_steps 181 = .ok (.if_icmp .ne 7, 3) := by decide +kernel
theorem dL_steps_184 : decode cL_steps 184 = .ok (.iconst 1, 1) := by decide +kernel
theorem dL_steps_185 : decode cL_steps 185 = .ok (.goto 4, 3) := by decide +kernel
theorem dL_steps_188 : decode cL_steps 188 = .ok (.iconst 0, 1) := by decide +kernel
theorem dL_steps_189 : decode cL_steps 189 = .ok (.ireturn, 1) := by decide +kernel
theorem dL_steps_190 : decode cL_steps 190 = .ok (.aload_n 2, 1) := by decide +kernel
theorem dL_steps_191 : decode cL_steps 191 = .ok (.iload_n 3, 1) := by decide +kernel
theorem dL_steps_192 : decode cL_steps 192 = .ok (.iconst 2, 1) := by decide +kernel
theorem dL_steps_193 : decode cL_steps 193 = .ok (.iadd, 1) := by decide +kernel
theorem dL_steps_194 : decode cL_steps 194 = .ok (.iaload, 1) := by decide +kernel
theorem dL_steps_195 : decode cL_steps 195 = .ok (.bipush 24, 2) := by decide +kernel
theorem dL_steps_197 : decode cL_steps 197 = .ok (.if_icmp .ne 16, 3) := by decide +kernel
theorem dL_steps_200 : decode cL_steps 200 = .ok (.iload 6, 2) := by decide +kernel
theorem dL_steps_202 : decode cL_steps 202 = .ok (.ldc 42, 2) := by decide +kernel
theorem dL_steps_204 : decode cL_steps 204 = .ok (.if_icmp .ne 7, 3) := by decide +kernel
theorem dL_steps_207 : decode cL_steps 207 = .ok (.iconst 1, 1) := by decide +kernel
theorem dL_steps_208 : decode cL_steps 208 = .ok (.goto 4, 3) := by decide +kernel
theorem dL_steps_211 : decode cL_steps 211 = .ok (.iconst 0, 1) := by decide +kernel
theorem dL_steps_212 : decode cL_steps 212 = .ok (.ireturn, 1) := by decide +kernel
theorem dL_steps_213 : decode cL_steps 213 = .ok (.aload_n 2, 1) := by decide +kernel
theorem dL_steps_214 : decode cL_steps 214 = .ok (.iload_n 3, 1) := by decide +kernel
theorem dL_steps_215 : decode cL_steps 215 = .ok (.iconst 1, 1) := by decide +kernel
theorem dL_steps_216 : decode cL_steps 216 = .ok (.iadd, 1) := by decide +kernel
theorem dL_steps_217 : decode cL_steps 217 = .ok (.iaload, 1) := by decide +kernel
theorem dL_steps_218 : decode cL_steps 218 = .ok (.istore 8, 2) := by decide +kernel
theorem dL_steps_220 : decode cL_steps 220 = .ok (.aload_n 2, 1) := by decide +kernel
theorem dL_steps_221 : decode cL_steps 221 = .ok (.iload_n 3, 1) := by decide +kernel
theorem dL_steps_222 : decode cL_steps 222 = .ok (.iconst 1, 1) := by decide +kernel
theorem dL_steps_223 : decode cL_steps 223 = .ok (.iadd, 1) := by decide +kernel
theorem dL_steps_224 : decode cL_steps 224 = .ok (.iload 5, 2) := by decide +kernel
theorem dL_steps_226 : decode cL_steps 226 = .ok (.iload 4, 2) := by decide +kernel
theorem dL_steps_228 : decode cL_steps 228 = .ok (.if_icmp .ge 10, 3) := by decide +kernel
theorem dL_steps_231 : decode cL_steps 231 = .ok (.iload 5, 2) := by decide +kernel
theorem dL_steps_233 : decode cL_steps 233 = .ok (.iconst 1, 1) := by decide +kernel
theorem dL_steps_234 : decode cL_steps 234 = .ok (.iadd, 1) := by decide +kernel
theorem dL_steps_235 : decode cL_steps 235 = .ok (.goto 5, 3) := by decide +kernel
theorem dL_steps_238 : decode cL_steps 238 = .ok (.iload 5, 2) := by decide +kernel
theorem dL_steps_240 : decode cL_steps 240 = .ok (.iastore, 1) := by decide +kernel
theorem dL_steps_241 : decode cL_steps 241 = .ok (.iload 6, 2) := by decide +kernel
theorem dL_steps_243 : decode cL_steps 243 = .ok (.iconst 1, 1) := by decide +kernel
theorem dL_steps_244 : decode cL_steps 244 = .ok (.if_icmp .ne 133, 3) := by decide +kernel
theorem dL_steps_247 : decode cL_steps 247 = .ok (.aload_n 2, 1) := by decide +kernel
theorem dL_steps_248 : decode cL_steps 248 = .ok (.iload_n 3, 1) := by decide +kernel
theorem dL_steps_249 : decode cL_steps 249 = .ok (.iconst 2, 1) := by decide +kernel
theorem dL_steps_250 : decode cL_steps 250 = .ok (.iadd, 1) := by decide +kernel
theorem dL_steps_251 : decode cL_steps 251 = .ok (.dup2, 1) := by decide +kernel
theorem dL_steps_252 : decode cL_steps 252 = .ok (.iaload, 1) := by decide +kernel
theorem dL_steps_253 : decode cL_steps 253 = .ok (.iconst 1, 1) := by decide +kernel
theorem dL_steps_254 : decode cL_steps 254 = .ok (.iadd, 1) := by decide +kernel
theorem dL_steps_255 : decode cL_steps 255 = .ok (.iastore, 1) := by decide +kernel
theorem dL_steps_256 : decode cL_steps 256 = .ok (.aload_n 0, 1) := by decide +kernel
theorem dL_steps_257 : decode cL_steps 257 = .ok (.iload_n 1, 1) := by decide +kernel
theorem dL_steps_258 : decode cL_steps 258 = .ok (.invokevirtual 120, 3) := by decide +kernel
theorem dL_steps_261 : decode cL_steps 261 = .ok (.sipush 1000, 3) := by decide +kernel
theorem dL_steps_264 : decode cL_steps 264 = .ok (.idiv, 1) := by decide +kernel
theorem dL_steps_265 : decode cL_steps 265 = .ok (.bipush 10, 2) := by decide +kernel
theorem dL_steps_267 : decode cL_steps 267 = .ok (.irem, 1) := by decide +kernel
theorem dL_steps_268 : decode cL_steps 268 = .ok (.istore 9, 2) := by decide +kernel
theorem dL_steps_270 : decode cL_steps 270 = .ok (.iload 9, 2) := by decide +kernel
theorem dL_steps_272 : decode cL_steps 272 = .ok (.aload_n 2, 1) := by decide +kernel
theorem dL_steps_273 : decode cL_steps 273 = .ok (.iload_n 3, 1) := by decide +kernel
theorem dL_steps_274 : decode cL_steps 274 = .ok (.iconst 3, 1) := by decide +kernel
theorem dL_steps_275 : decode cL_steps 275 = .ok (.iadd, 1) := by decide +kernel
theorem dL_steps_276 : decode cL_steps 276 = .ok (.iaload, 1) := by decide +kernel
theorem dL_steps_277 : decode cL_steps 277 = .ok (.if_icmp .eq 27, 3) := by decide +kernel
theorem dL_steps_280 : decode cL_steps 280 = .ok (.iload 9, 2) := by decide +kernel
theorem dL_steps_282 : decode cL_steps 282 = .ok (.aload_n 2, 1) := by decide +kernel
theorem dL_steps_283 : decode cL_steps 283 = .ok (.iload_n 3, 1) := by decide +kernel
theorem dL_steps_284 : decode cL_steps 284 = .ok (.iconst 3, 1) := by decide +kernel
theorem dL_steps_285 : decode cL_steps 285 = .ok (.iadd, 1) := by decide +kernel
theorem dL_steps_286 : decode cL_steps 286 = .ok (.iaload, 1) := by decide +kernel
theorem dL_steps_287 : decode cL_steps 287 = .ok (.iconst 1, 1) := by decide +kernel
theorem dL_steps_288 : decode cL_steps 288 = .ok (.iadd, 1) := by decide +kernel
theorem dL_steps_289 : decode cL_steps 289 = .ok (.if_icmp .ne 19, 3) := by decide +kernel
theorem dL_steps_292 : decode cL_steps 292 = .ok (.aload_n 0, 1) := by decide +kernel
theorem dL_steps_293 : decode cL_steps 293 = .ok (.aload_n 2, 1) := by decide +kernel
theorem dL_steps_294 : decode cL_steps 294 = .ok (.iload_n 3, 1) := by decide +kernel
theorem dL_steps_295 : decode cL_steps 295 = .ok (.iaload, 1) := by decide +kernel
theorem dL_steps_296 : decode cL_steps 296 = .ok (.iconst 1, 1) := by decide +kernel
theorem dL_steps_297 : decode cL_steps 297 = .ok (.isub, 1) := by decide +kernel
theorem dL_steps_298 : decode cL_steps 298 = .ok (.invokevirtual 68, 3) := by decide +kernel
theorem dL_steps_301 : decode cL_steps 301 = .ok (.ifCond .lt 7, 3) := by decide +kernel
theorem dL_steps_304 : decode cL_steps 304 = .ok (.iconst 1, 1) := by decide +kernel
theorem dL_steps_305 : decode cL_steps 305 = .ok (.goto 4, 3) := by decide +kernel
theorem dL_steps_308 : decode cL_steps 308 = .ok (.iconst 0, 1) := by decide +kernel
theorem dL_steps_309 : decode cL_steps 309 = .ok (.istore 10, 2) := by decide +kernel
theorem dL_steps_311 : decode cL_steps 311 = .ok (.aload_n 2, 1) := by decide +kernel
theorem dL_steps_312 : decode cL_steps 312 = .ok (.iload_n 3, 1) := by decide +kernel
theorem dL_steps_313 : decode cL_steps 313 = .ok (.iconst 3, 1) := by decide +kernel
theorem dL_steps_314 : decode cL_steps 314 = .ok (.iadd, 1) := by decide +kernel
theorem dL_steps_315 : decode cL_steps 315 = .ok (.iload 9, 2) := by decide +kernel
theorem dL_steps_317 : decode cL_steps 317 = .ok (.iastore, 1) := by decide +kernel
theorem dL_steps_318 : decode cL_steps 318 = .ok (.iload 10, 2) := by decide +kernel
theorem dL_steps_320 : decode cL_steps 320 = .ok (.ifCond .eq 55, 3) := by decide +kernel
theorem dL_steps_323 : decode cL_steps 323 = .ok (.aload_n 0, 1) := by decide +kernel
theorem dL_steps_324 : decode cL_steps 324 = .ok (.iload_n 1, 1) := by decide +kernel
theorem dL_steps_325 : decode cL_steps 325 = .ok (.invokevirtual 120, 3) := by decide +kernel
theorem dL_steps_328 : decode cL_steps 328 = .ok (.sipush 10000, 3) := by decide +kernel
theorem dL_steps_331 : decode cL_steps 331 = .ok (.aload_n 2, 1) := by decide +kernel
theorem dL_steps_332 : decode cL_steps 332 = .ok (.iload_n 3, 1) := by decide +kernel
theorem dL_steps_333 : decode cL_steps 333 = .ok (.iconst 2, 1) := by decide +kernel
theorem dL_steps_334 : decode cL_steps 334 = .ok (.iadd, 1) := by decide +kernel
theorem dL_steps_335 : decode cL_steps 335 = .ok (.iaload, 1) := by decide +kernel
theorem dL_steps_336 : decode cL_steps 336 = .ok (.imul, 1) := by decide +kernel
theorem dL_steps_337 : decode cL_steps 337 = .ok (.sipush 1000, 3) := by decide +kernel
theorem dL_steps_340 : decode cL_steps 340 = .ok (.iload 9, 2) := by decide +kernel
theorem dL_steps_342 : decode cL_steps 342 = .ok (.imul, 1) := by decide +kernel
theorem dL_steps_343 : decode cL_steps 343 = .ok (.iadd, 1) := by decide +kernel
theorem dL_steps_344 : decode cL_steps 344 = .ok (.aload_n 2, 1) := by decide +kernel
theorem dL_steps_345 : decode cL_steps 345 = .ok (.iload_n 3, 1) := by decide +kernel
theorem dL_steps_346 : decode cL_steps 346 = .ok (.iconst 1, 1) := by decide +kernel
theorem dL_steps_347 : decode cL_steps 347 = .ok (.iadd, 1) := by decide +kernel
theorem dL_steps_348 : decode cL_steps 348 = .ok (.iaload, 1) := by decide +kernel
theorem dL_steps_349 : decode cL_steps 349 = .ok (.iadd, 1) := by decide +kernel
theorem dL_steps_350 : decode cL_steps 350 = .ok (.if_icmp .ne 25, 3) := by decide +kernel
theorem dL_steps_353 : decode cL_steps 353 = .ok (.aload_n 0, 1) := by decide +kernel
theorem dL_steps_354 : decode cL_steps 354 = .ok (.aload_n 2, 1) := by decide +kernel
theorem dL_steps_355 : decode cL_steps 355 = .ok (.iload_n 3, 1) := by decide +kernel
theorem dL_steps_356 : decode cL_steps 356 = .ok (.iaload, 1) := by decide +kernel
theorem dL_steps_357 : decode cL_steps 357 = .ok (.iconst 1, 1) := by decide +kernel
theorem dL_steps_358 : decode cL_steps 358 = .ok (.isub, 1) := by decide +kernel
theorem dL_steps_359 : decode cL_steps 359 = .ok (.iload_n 1, 1) := by decide +kernel
theorem dL_steps_360 : decode cL_steps 360 = .ok (.iload 8, 2) := by decide +kernel
theorem dL_steps_362 : decode cL_steps 362 = .ok (.iload 5, 2) := by decide +kernel
theorem dL_steps_364 : decode cL_steps 364 = .ok (.aload_n 2, 1) := by decide +kernel
theorem dL_steps_365 : decode cL_steps 365 = .ok (.invokestatic 123, 3) := by decide +kernel
theorem dL_steps_368 : decode cL_steps 368 = .ok (.ifCond .eq 7, 3) := by decide +kernel
theorem dL_steps_371 : decode cL_steps 371 = .ok (.iconst 1, 1) := by decide +kernel
theorem dL_steps_372 : decode cL_steps 372 = .ok (.goto 4, 3) := by decide +kernel
theorem dL_steps_375 : decode cL_steps 375 = .ok (.iconst 0, 1) := by decide +kernel
theorem dL_steps_376 : decode cL_steps 376 = .ok (.ireturn, 1) := by decide +kernel
theorem dL_steps_377 : decode cL_steps 377 = .ok (.aload_n 0, 1) := by decide +kernel
theorem dL_steps_378 : decode cL_steps 378 = .ok (.iconst 4, 1) := by decide +kernel
theorem dL_steps_379 : decode cL_steps 379 = .ok (.iload_n 1, 1) := by decide +kernel
theorem dL_steps_380 : decode cL_steps 380 = .ok (.aload_n 2, 1) := by decide +kernel
theorem dL_steps_381 : decode cL_steps 381 = .ok (.iload_n 3, 1) := by decide +kernel
theorem dL_steps_382 : decode cL_steps 382 = .ok (.iconst 4, 1) := by decide +kernel
theorem dL_steps_383 : decode cL_steps 383 = .ok (.iadd, 1) := by decide +kernel
theorem dL_steps_384 : decode cL_steps 384 = .ok (.iaload, 1) := by decide +kernel
theorem dL_steps_385 : decode cL_steps 385 = .ok (.iconst 0, 1) := by decide +kernel
theorem dL_steps_386 : decode cL_steps 386 = .ok (.invokestatic 52, 3) := by decide +kernel
theorem dL_steps_389 : decode cL_steps 389 = .ok (.istore 9, 2) := by decide +kernel
theorem dL_steps_391 : decode cL_steps 391 = .ok (.aload_n 2, 1) := by decide +kernel
theorem dL_steps_392 : decode cL_steps 392 = .ok (.iload_n 3, 1) := by decide +kernel
theorem dL_steps_393 : decode cL_steps 393 = .ok (.iconst 4, 1) := by decide +kernel
theorem dL_steps_394 : decode cL_steps 394 = .ok (.iadd, 1) := by decide +kernel
theorem dL_steps_395 : decode cL_steps 395 = .ok (.dup2, 1) := by decide +kernel
theorem dL_steps_396 : decode cL_steps 396 = .ok (.iaload, 1) := by decide +kernel
theorem dL_steps_397 : decode cL_steps 397 = .ok (.iconst 1, 1) := by decide +kernel
theorem dL_steps_398 : decode cL_steps 398 = .ok (.iadd, 1) := by decide +kernel
theorem dL_steps_399 : decode cL_steps 399 = .ok (.iastore, 1) := by decide +kernel
theorem dL_steps_400 : decode cL_steps 400 = .ok (.iload 6, 2) := by decide +kernel
theorem dL_steps_402 : decode cL_steps 402 = .ok (.ifCond .ne 54, 3) := by decide +kernel
theorem dL_steps_405 : decode cL_steps 405 = .ok (.iload 9, 2) := by decide +kernel
theorem dL_steps_407 : decode cL_steps 407 = .ok (.ldc 126, 2) := by decide +kernel
theorem dL_steps_409 : decode cL_steps 409 = .ok (.idiv, 1) := by decide +kernel
theorem dL_steps_410 : decode cL_steps 410 = .ok (.bipush 100, 2) := by decide +kernel
theorem dL_steps_412 : decode cL_steps 412 = .ok (.if_icmp .gt 44, 3) := by decide +kernel
theorem dL_steps_415 : decode cL_steps 415 = .ok (.iload 9, 2) := by decide +kernel
theorem dL_steps_417 : decode cL_steps 417 = .ok (.ldc 126, 2) := by decide +kernel
theorem dL_steps_419 : decode cL_steps 419 = .ok (.irem, 1) := by decide +kernel
theorem dL_steps_420 : decode cL_steps 420 = .ok (.sipush 1000, 3) := by decide +kernel
theorem dL_steps_423 : decode cL_steps 423 = .ok (.iload 8, 2) := by decide +kernel
theorem dL_steps_425 : decode cL_steps 425 = .ok (.imul, 1) := by decide +kernel
theorem dL_steps_426 : decode cL_steps 426 = .ok (.aload_n 2, 1) := by decide +kernel
theorem dL_steps_427 : decode cL_steps 427 = .ok (.iload_n 3, 1) := by decide +kernel
theorem dL_steps_428 : decode cL_steps 428 = .ok (.iconst 1, 1) := by decide +kernel
theorem dL_steps_429 : decode cL_steps 429 = .ok (.iadd, 1) := by decide +kernel
theorem dL_steps_430 : decode cL_steps 430 = .ok (.iaload, 1) := by decide +kernel
theorem dL_steps_431 : decode cL_steps 431 = .ok (.iadd, 1) := by decide +kernel
theorem dL_steps_432 : decode cL_steps 432 = .ok (.if_icmp .ne 24, 3) := by decide +kernel
theorem dL_steps_435 : decode cL_steps 435 = .ok (.aload_n 0, 1) := by decide +kernel
theorem dL_steps_436 : decode cL_steps 436 = .ok (.iconst 4, 1) := by decide +kernel
theorem dL_steps_437 : decode cL_steps 437 = .ok (.iload_n 1, 1) := by decide +kernel
theorem dL_steps_438 : decode cL_steps 438 = .ok (.aload_n 2, 1) := by decide +kernel
theorem dL_steps_439 : decode cL_steps 439 = .ok (.iload_n 3, 1) := by decide +kernel
theorem dL_steps_440 : decode cL_steps 440 = .ok (.iconst 4, 1) := by decide +kernel
theorem dL_steps_441 : decode cL_steps 441 = .ok (.iadd, 1) := by decide +kernel
theorem dL_steps_442 : decode cL_steps 442 = .ok (.iaload, 1) := by decide +kernel
theorem dL_steps_443 : decode cL_steps 443 = .ok (.iconst 0, 1) := by decide +kernel
theorem dL_steps_444 : decode cL_steps 444 = .ok (.invokestatic 52, 3) := by decide +kernel
theorem dL_steps_447 : decode cL_steps 447 = .ok (.ldc 39, 2) := by decide +kernel
theorem dL_steps_449 : decode cL_steps 449 = .ok (.if_icmp .ne 7, 3) := by decide +kernel
theorem dL_steps_452 : decode cL_steps 452 = .ok (.iconst 1, 1) := by decide +kernel
theorem dL_steps_453 : decode cL_steps 453 = .ok (.goto 4, 3) := by decide +kernel
theorem dL_steps_456 : decode cL_steps 456 = .ok (.iconst 0, 1) := by decide +kernel
theorem dL_steps_457 : decode cL_steps 457 = .ok (.ireturn, 1) := by decide +kernel
def is_L_steps (Rt : np_Rt) : List (Nat × np_Op) := [(0, np_push 1 (.int 3)), (1, np_push 2 (.int 6)), (3, np_ild 1 1), (4, np_ib (fun x y => x * y)), (5, np_ib (fun x y => x + y)), (6, nw_ist 1 3), (7, np_ald 1 0), (8, np_ild 1 1), (9, nq_call 2 sp_L_units 3 302 1812 1109 6654), (12, nw_ist 2 4), (14, np_ald 1 2), (15, np_ild 1 3), (16, np_push 1 (.int 1)), (17, np_ib (fun x y => x + y)), (18, nw_ialdT .int), (19, nw_ist 2 5), (21, np_ild 2 5), (23, np_ild 2 4), (25, nq_ic (fun x y => y ≤ x) 46), (28, np_ald 1 0), (29, np_ild 1 1), (30, np_ild 2 5), (32, nw_callVX 11 3 sp_X11_unit 5 1 6 1109 6654 []), (35, np_push 2 (.int 10)), (37, nq_ic (fun x y => x = y) 46), (40, nw_iinc 5 1), (43, np_goto 21), (46, np_ald 1 0), (47, np_push 1 (.int 2)), (48, np_ild 1 1), (49, np_push 1 (.int 0)), (50, np_push 1 (.int 0)), (51, nq_call 5 sp_L_asks 6 1 6 1109 6654), (54, nw_ist 2 6), (56, np_ald 1 2), (57, np_ild 1 3), (58, nw_ialdT .int), (59, nq_ifne 83), (62, np_ild 2 6), (64, np_push 2 (.int (-70008))), (66, nq_icne 81), (69, np_ald 1 0), (70, np_ild 1 1), (71, nw_callVX 11 2 sp_X11_progress 3 1 6 1109 6654 []), (74, nq_ifne 81), (77, np_push 1 (.int 1)), (78, np_goto 82), (81, np_push 1 (.int 0)), (82, np_ret Rt), (83, np_ald 1 2), (84, np_ild 1 3), (85, np_push 1 (.int 5)), (86, np_ib (fun x y => x + y)), (87, nw_ialdT .int), (88, nq_ifne 95), (91, np_push 1 (.int 1)), (92, np_goto 96), (95, np_push 1 (.int 0)), (96, nw_ist 2 7), (98, np_ild 2 5), (100, np_ild 2 4), (102, nq_icne 190), (105, np_ild 2 7), (107, nq_ifne 120), (110, np_ald 1 2), (111, np_ild 1 3), (112, np_push 1 (.int 1)), (113, np_ib (fun x y => x + y)), (114, nw_ialdT .int), (115, np_ild 2 4), (117, nq_icne 190), (120, np_ild 2 6), (122, np_ild 2 7), (124, nq_if (fun x => x = 0) 131), (127, np_push 1 (.int (-1))), (128, np_goto 133), (131, np_push 2 (.int (-2))), (133, nq_icne 188), (136, np_ald 1 0), (137, np_ild 1 1), (138, nw_callVX 11 2 sp_X11_progress 3 1 6 1109 6654 []), (141, np_push 3 (.int 10000)), (144, np_ald 1 2), (145, np_ild 1 3), (146, np_push 1 (.int 2)), (147, np_ib (fun x y => x + y)), (148, nw_ialdT .int), (149, np_ib (fun x y => x * y)), (150, np_push 3 (.int 1000)), (153, np_ald 1 2), (154, np_ild 1 3), (155, np_push 1 (.int 3)), (156, np_ib (fun x y => x + y)), (157, nw_ialdT .int), (158, np_push 2 (.int 9)), (160, nq_ic (fun x y => y ≤ x) 171), (163, np_ald 1 2), (164, np_ild 1 3), (165, np_push 1 (.int 3)), (166, np_ib (fun x y => x + y)), (167, nw_ialdT .int), (168, np_goto 173), (171, np_push 2 (.int 9)), (173, np_ib (fun x y => x * y)), (174, np_ib (fun x y => x + y)), (175, np_ald 1 2), (176, np_ild 1 3), (177, np_push 1 (.int 1)), (178, np_ib (fun x y => x + y)), (179, nw_ialdT .int), (180, np_ib (fun x y => x + y)), (181, nq_icne 188), (184, np_push 1 (.int 1)), (185, np_goto 189), (188, np_push 1 (.int 0)), (189, np_ret Rt), (190, np_ald 1 2), (191, np_ild 1 3), (192, np_push 1 (.int 2)), (193, np_ib (fun x y => x + y)), (194, nw_ialdT .int), (195, np_push 2 (.int 24)), (197, nq_icne 213), (200, np_ild 2 6), (202, np_push 2 (.int (-70008))), (204, nq_icne 211), (207, np_push 1 (.int 1)), (208, np_goto 212), (211, np_push 1 (.int 0)), (212, np_ret Rt), (213, np_ald 1 2), (214, np_ild 1 3), (215, np_push 1 (.int 1)), (216, np_ib (fun x y => x + y)), (217, nw_ialdT .int), (218, nw_ist 2 8), (220, np_ald 1 2), (221, np_ild 1 3), (222, np_push 1 (.int 1)), (223, np_ib (fun x y => x + y)), (224, np_ild 2 5), (226, np_ild 2 4), (228, nq_ic (fun x y => y ≤ x) 238), (231, np_ild 2 5), (233, np_push 1 (.int 1)), (234, np_ib (fun x y => x + y)), (235, np_goto 240), (238, np_ild 2 5), (240, nw_iastT .int), (241, np_ild 2 6), (243, np_push 1 (.int 1)), (244, nq_icne 377), (247, np_ald 1 2), (248, np_ild 1 3), (249, np_push 1 (.int 2)), (250, np_ib (fun x y => x + y)), (251, nq_dup2), (252, nw_ialdT .int), (253, np_push 1 (.int 1)), (254, np_ib (fun x y => x + y)), (255, nw_iastT .int), (256, np_ald 1 0), (257, np_ild 1 1), (258, nw_callVX 11 2 sp_X11_progress 3 1 6 1109 6654 []), (261, np_push 3 (.int 1000)), (264, nq_ibn (fun x y => x / y)), (265, np_push 2 (.int 10)), (267, nq_ibn (fun x y => x - x / y * y)), (268, nw_ist 2 9), (270, np_ild 2 9), (272, np_ald 1 2), (273, np_ild 1 3), (274, np_push 1 (.int 3)), (275, np_ib (fun x y => x + y)), (276, nw_ialdT .int), (277, nq_ic (fun x y => x = y) 304), (280, np_ild 2 9), (282, np_ald 1 2), (283, np_ild 1 3), (284, np_push 1 (.int 3)), (285, np_ib (fun x y => x + y)), (286, nw_ialdT .int), (287, np_push 1 (.int 1)), (288, np_ib (fun x y => x + y)), (289, nq_icne 308), (292, np_ald 1 0), (293, np_ald 1 2), (294, np_ild 1 3), (295, nw_ialdT .int), (296, np_push 1 (.int 1)), (297, np_ib (fun x y => x - y)), (298, nw_callVX 11 2 sp_X11_sure 3 1 6 1109 6654 []), (301, nq_if (fun x => x < 0) 308), (304, np_push 1 (.int 1)), (305, np_goto 309), (308, np_push 1 (.int 0)), (309, nw_ist 2 10), (311, np_ald 1 2), (312, np_ild 1 3), (313, np_push 1 (.int 3)), (314, np_ib (fun x y => x + y)), (315, np_ild 2 9), (317, nw_iastT .int), (318, np_ild 2 10), (320, nq_if (fun x => x = 0) 375), (323, np_ald 1 0), (324, np_ild 1 1), (325, nw_callVX 11 2 sp_X11_progress 3 1 6 1109 6654 []), (328, np_push 3 (.int 10000)), (331, np_ald 1 2), (332, np_ild 1 3), (333, np_push 1 (.int 2)), (334, np_ib (fun x y => x + y)), (335, nw_ialdT .int), (336, np_ib (fun x y => x * y)), (337, np_push 3 (.int 1000)), (340, np_ild 2 9), (342, np_ib (fun x y => x * y)), (343, np_ib (fun x y => x + y)), (344, np_ald 1 2), (345, np_ild 1 3), (346, np_push 1 (.int 1)), (347, np_ib (fun x y => x + y)), (348, nw_ialdT .int), (349, np_ib (fun x y => x + y)), (350, nq_icne 375), (353, np_ald 1 0), (354, np_ald 1 2), (355, np_ild 1 3), (356, nw_ialdT .int), (357, np_push 1 (.int 1)), (358, np_ib (fun x y => x - y)), (359, np_ild 1 1), (360, np_ild 2 8), (362, np_ild 2 5), (364, np_ald 1 2), (365, nq_call 6 sp_L_isLine 13 501 3006 1109 6654), (368, nq_if (fun x => x = 0) 375), (371, np_push 1 (.int 1)), (372, np_goto 376), (375, np_push 1 (.int 0)), (376, np_ret Rt), (377, np_ald 1 0), (378, np_push 1 (.int 4)), (379, np_ild 1 1), (380, np_ald 1 2), (381, np_ild 1 3), (382, np_push 1 (.int 4)), (383, np_ib (fun x y => x + y)), (384, nw_ialdT .int), (385, np_push 1 (.int 0)), (386, nq_call 5 sp_L_asks 6 1 6 1109 6654), (389, nw_ist 2 9), (391, np_ald 1 2), (392, np_ild 1 3), (393, np_push 1 (.int 4)), (394, np_ib (fun x y => x + y)), (395, nq_dup2), (396, nw_ialdT .int), (397, np_push 1 (.int 1)), (398, np_ib (fun x y => x + y)), (399, nw_iastT .int), (400, np_ild 2 6), (402, nq_ifne 456), (405, np_ild 2 9), (407, np_push 2 (.int 1000000)), (409, nq_ibn (fun x y => x / y)), (410, np_push 2 (.int 100)), (412, nq_ic (fun x y => y < x) 456), (415, np_ild 2 9), (417, np_push 2 (.int 1000000)), (419, nq_ibn (fun x y => x - x / y * y)), (420, np_push 3 (.int 1000)), (423, np_ild 2 8), (425, np_ib (fun x y => x * y)), (426, np_ald 1 2), (427, np_ild 1 3), (428, np_push 1 (.int 1)), (429, np_ib (fun x y => x + y)), (430, nw_ialdT .int), (431, np_ib (fun x y => x + y)), (432, nq_icne 456), (435, np_ald 1 0), (436, np_push 1 (.int 4)), (437, np_ild 1 1), (438, np_ald 1 2), (439, np_ild 1 3), (440, np_push 1 (.int 4)), (441, np_ib (fun x y => x + y)), (442, nw_ialdT .int), (443, np_push 1 (.int 0)), (444, nq_call 5 sp_L_asks 6 1 6 1109 6654), (447, np_push 2 (.int (-70007))), (449, nq_icne 456), (452, np_push 1 (.int 1)), (453, np_goto 457), (456, np_push 1 (.int 0)), (457, np_ret Rt)]
set_option maxRecDepth 20000 in
theorem so_L_steps {X : np_Ctx} {Rt : np_Rt} (hX : np_ok RL cL_steps 11 11 304 1109 6654 .ireturn X) (hR : ∀ st w ce sl, Rt st w ce sl → X.2.2.1 st w ce sl) : ∀ q ∈ is_L_steps Rt, np_S X q.1 q.2 :=
  List.forall_mem_cons.mpr ⟨np_s_iconst hX dL_steps_0 (by decide), List.forall_mem_cons.mpr ⟨np_s_bipush hX dL_steps_1 (by decide), List.forall_mem_cons.mpr ⟨np_s_iload_n hX dL_steps_3 rfl, List.forall_mem_cons.mpr ⟨np_s_imul hX dL_steps_4, List.forall_mem_cons.mpr ⟨np_s_iadd hX dL_steps_5, List.forall_mem_cons.mpr ⟨np_S.mono (op := np_ist 1 3) (np_s_istore_n hX dL_steps_6 rfl (by decide)) nw_ist_le, List.forall_mem_cons.mpr ⟨np_s_aload_n hX dL_steps_7 rfl, List.forall_mem_cons.mpr ⟨np_s_iload_n hX dL_steps_8 rfl, List.forall_mem_cons.mpr ⟨np_S.mono (op := np_call 2 sp_L_units 3 302 1812 1109 6654) (np_s_callS hX C_L_units dL_steps_9 gw928 gw62 gw926 gw927 ⟨by decide, by decide, by decide⟩ (by decide) (by decide)) nq_call_le, List.forall_mem_cons.mpr ⟨np_S.mono (op := np_ist 2 4) (np_s_istore hX dL_steps_12 (by decide)) nw_ist_le, List.forall_mem_cons.mpr ⟨np_s_aload_n hX dL_steps_14 rfl, List.forall_mem_cons.mpr ⟨np_s_iload_n hX dL_steps_15 rfl, List.forall_mem_cons.mpr ⟨np_s_iconst hX dL_steps_16 (by decide), List.forall_mem_cons.mpr ⟨np_s_iadd hX dL_steps_17, List.forall_mem_cons.mpr ⟨np_S.mono (op := np_ialdT .int) (np_s_iald hX dL_steps_18) nw_ialdT_le, List.forall_mem_cons.mpr ⟨np_S.mono (op := np_ist 2 5) (np_s_istore hX dL_steps_19 (by decide)) nw_ist_le, List.forall_mem_cons.mpr ⟨np_s_iload hX dL_steps_21, List.forall_mem_cons.mpr ⟨np_s_iload hX dL_steps_23, List.forall_mem_cons.mpr ⟨np_S.mono (op := np_ic (fun x y => y ≤ x) 46) (np_s_icmp_ge hX dL_steps_25 (by decide)) nq_ic_le, List.forall_mem_cons.mpr ⟨np_s_aload_n hX dL_steps_28 rfl, List.forall_mem_cons.mpr ⟨np_s_iload_n hX dL_steps_29 rfl, List.forall_mem_cons.mpr ⟨np_s_iload hX dL_steps_30, List.forall_mem_cons.mpr ⟨np_S.mono (op := np_callVX 11 3 sp_X11_unit 5 1 6 1109 6654 []) (np_s_callVX hX C_X11_unit dL_steps_32 (q := (RX11, TX11, 14)) rfl rfl gw1181 gw63 gw1178 gw1179 gw1180 ⟨by decide, by decide, by decide⟩ (by decide) (by decide) (fun _ h => nomatch h)) (nw_callVX_le2 (ci := 11) (n := 3) (sp := sp_X11_unit) (maxL := 5) (mc := 1) (ms := 6) (RC := 1109) (RS := 6654) (hs := [])), List.forall_mem_cons.mpr ⟨np_s_bipush hX dL_steps_35 (by decide), List.forall_mem_cons.mpr ⟨np_S.mono (op := np_ic (fun x y => x = y) 46) (np_s_icmp_eq hX dL_steps_37 (by decide)) nq_ic_le, List.forall_mem_cons.mpr ⟨np_S.mono (op := np_iinc 5 1) (np_s_iinc hX dL_steps_40 (by decide)) nw_iinc_le, List.forall_mem_cons.mpr ⟨np_s_goto hX dL_steps_43 (by decide), List.forall_mem_cons.mpr ⟨np_s_aload_n hX dL_steps_46 rfl, List.forall_mem_cons.mpr ⟨np_s_iconst hX dL_steps_47 (by decide), List.forall_mem_cons.mpr ⟨np_s_iload_n hX dL_steps_48 rfl, List.forall_mem_cons.mpr ⟨np_s_iconst hX dL_steps_49 (by decide), List.forall_mem_cons.mpr ⟨np_s_iconst hX dL_steps_50 (by decide), List.forall_mem_cons.mpr ⟨np_S.mono (op := np_call 5 sp_L_asks 6 1 6 1109 6654) (np_s_callSW hX C_L_asks dL_steps_51 gw931 gw62 gw929 gw930 ⟨by decide, by decide, by decide⟩ (by decide) (by decide)) nq_call_le, List.forall_mem_cons.mpr ⟨np_S.mono (op := np_ist 2 6) (np_s_istore hX dL_steps_54 (by decide)) nw_ist_le, List.forall_mem_cons.mpr ⟨np_s_aload_n hX dL_steps_56 rfl, List.forall_mem_cons.mpr ⟨np_s_iload_n hX dL_steps_57 rfl, List.forall_mem_cons.mpr ⟨np_S.mono (op := np_ialdT .int) (np_s_iald hX dL_steps_58) nw_ialdT_le, List.forall_mem_cons.mpr ⟨np_S.mono (op := np_ifne 83) (np_s_if_ne hX dL_steps_59 (by decide)) nq_ifne_le, List.forall_mem_cons.mpr ⟨np_s_iload hX dL_steps_62, List.forall_mem_cons.mpr ⟨np_s_ldc hX dL_steps_64 gw1185, List.forall_mem_cons.mpr ⟨np_S.mono (op := np_icne 81) (np_s_icmp_ne hX dL_steps_66 (by decide)) nq_icne_le, List.forall_mem_cons.mpr ⟨np_s_aload_n hX dL_steps_69 rfl, List.forall_mem_cons.mpr ⟨np_s_iload_n hX dL_steps_70 rfl, List.forall_mem_cons.mpr ⟨np_S.mono (op := np_callVX 11 2 sp_X11_progress 3 1 6 1109 6654 []) (np_s_callVX hX C_X11_progress dL_steps_71 (q := (RX11, TX11, 14)) rfl rfl gw1251 gw63 gw1248 gw1249 gw1250 ⟨by decide, by decide, by decide⟩ (by decide) (by decide) (fun _ h => nomatch h)) (nw_callVX_le2 (ci := 11) (n := 2) (sp := sp_X11_progress) (maxL := 3) (mc := 1) (ms := 6) (RC := 1109) (RS := 6654) (hs := [])), List.forall_mem_cons.mpr ⟨np_S.mono (op := np_ifne 81) (np_s_if_ne hX dL_steps_74 (by decide)) nq_ifne_le, List.forall_mem_cons.mpr ⟨np_s_iconst hX dL_steps_77 (by decide), List.forall_mem_cons.mpr ⟨np_s_goto hX dL_steps_78 (by decide), List.forall_mem_cons.mpr ⟨np_s_iconst hX dL_steps_81 (by decide), List.forall_mem_cons.mpr ⟨np_S.mono (op := np_ret X.2.2.1) (np_s_ret hX dL_steps_82) (nq_ret_le hR), List.forall_mem_cons.mpr ⟨np_s_aload_n hX dL_steps_83 rfl, List.forall_mem_cons.mpr ⟨np_s_iload_n hX dL_steps_84 rfl, List.forall_mem_cons.mpr ⟨np_s_iconst hX dL_steps_85 (by decide), List.forall_mem_cons.mpr ⟨np_s_iadd hX dL_steps_86, List.forall_mem_cons.mpr ⟨np_S.mono (op := np_ialdT .int) (np_s_iald hX dL_steps_87) nw_ialdT_le, List.forall_mem_cons.mpr ⟨np_S.mono (op := np_ifne 95) (np_s_if_ne hX dL_steps_88 (by decide)) nq_ifne_le, List.forall_mem_cons.mpr ⟨np_s_iconst hX dL_steps_91 (by decide), List.forall_mem_cons.mpr ⟨np_s_goto hX dL_steps_92 (by decide), List.forall_mem_cons.mpr ⟨np_s_iconst hX dL_steps_95 (by decide), List.forall_mem_cons.mpr ⟨np_S.mono (op := np_ist 2 7) (np_s_istore hX dL_steps_96 (by decide)) nw_ist_le, List.forall_mem_cons.mpr ⟨np_s_iload hX dL_steps_98, List.forall_mem_cons.mpr ⟨np_s_iload hX dL_steps_100, List.forall_mem_cons.mpr ⟨np_S.mono (op := np_icne 190) (np_s_icmp_ne hX dL_steps_102 (by decide)) nq_icne_le, List.forall_mem_cons.mpr ⟨np_s_iload hX dL_steps_105, List.forall_mem_cons.mpr ⟨np_S.mono (op := np_ifne 120) (np_s_if_ne hX dL_steps_107 (by decide)) nq_ifne_le, List.forall_mem_cons.mpr ⟨np_s_aload_n hX dL_steps_110 rfl, List.forall_mem_cons.mpr ⟨np_s_iload_n hX dL_steps_111 rfl, List.forall_mem_cons.mpr ⟨np_s_iconst hX dL_steps_112 (by decide), List.forall_mem_cons.mpr ⟨np_s_iadd hX dL_steps_113, List.forall_mem_cons.mpr ⟨np_S.mono (op := np_ialdT .int) (np_s_iald hX dL_steps_114) nw_ialdT_le, List.forall_mem_cons.mpr ⟨np_s_iload hX dL_steps_115, List.forall_mem_cons.mpr ⟨np_S.mono (op := np_icne 190) (np_s_icmp_ne hX dL_steps_117 (by decide)) nq_icne_le, List.forall_mem_cons.mpr ⟨np_s_iload hX dL_steps_120, List.forall_mem_cons.mpr ⟨np_s_iload hX dL_steps_122, List.forall_mem_cons.mpr ⟨np_S.mono (op := np_if (fun x => x = 0) 131) (np_s_if_eq hX dL_steps_124 (by decide)) nq_if_le, List.forall_mem_cons.mpr ⟨np_s_iconst hX dL_steps_127 (by decide), List.forall_mem_cons.mpr ⟨np_s_goto hX dL_steps_128 (by decide), List.forall_mem_cons.mpr ⟨np_s_bipush hX dL_steps_131 (by decide), List.forall_mem_cons.mpr ⟨np_S.mono (op := np_icne 188) (np_s_icmp_ne hX dL_steps_133 (by decide)) nq_icne_le, List.forall_mem_cons.mpr ⟨np_s_aload_n hX dL_steps_136 rfl, List.forall_mem_cons.mpr ⟨np_s_iload_n hX dL_steps_137 rfl, List.forall_mem_cons.mpr ⟨np_S.mono (op := np_callVX 11 2 sp_X11_progress 3 1 6 1109 6654 []) (np_s_callVX hX C_X11_progress dL_steps_138 (q := (RX11, TX11, 14)) rfl rfl gw1251 gw63 gw1248 gw1249 gw1250 ⟨by decide, by decide, by decide⟩ (by decide) (by decide) (fun _ h => nomatch h)) (nw_callVX_le2 (ci := 11) (n := 2) (sp := sp_X11_progress) (maxL := 3) (mc := 1) (ms := 6) (RC := 1109) (RS := 6654) (hs := [])), List.forall_mem_cons.mpr ⟨np_s_sipush hX dL_steps_141 (by decide), List.forall_mem_cons.mpr ⟨np_s_aload_n hX dL_steps_144 rfl, List.forall_mem_cons.mpr ⟨np_s_iload_n hX dL_steps_145 rfl, List.forall_mem_cons.mpr ⟨np_s_iconst hX dL_steps_146 (by decide), List.forall_mem_cons.mpr ⟨np_s_iadd hX dL_steps_147, List.forall_mem_cons.mpr ⟨np_S.mono (op := np_ialdT .int) (np_s_iald hX dL_steps_148) nw_ialdT_le, List.forall_mem_cons.mpr ⟨np_s_imul hX dL_steps_149, List.forall_mem_cons.mpr ⟨np_s_sipush hX dL_steps_150 (by decide), List.forall_mem_cons.mpr ⟨np_s_aload_n hX dL_steps_153 rfl, List.forall_mem_cons.mpr ⟨np_s_iload_n hX dL_steps_154 rfl, List.forall_mem_cons.mpr ⟨np_s_iconst hX dL_steps_155 (by decide), List.forall_mem_cons.mpr ⟨np_s_iadd hX dL_steps_156, List.forall_mem_cons.mpr ⟨np_S.mono (op := np_ialdT .int) (np_s_iald hX dL_steps_157) nw_ialdT_le, List.forall_mem_cons.mpr ⟨np_s_bipush hX dL_steps_158 (by decide), List.forall_mem_cons.mpr ⟨np_S.mono (op := np_ic (fun x y => y ≤ x) 171) (np_s_icmp_ge hX dL_steps_160 (by decide)) nq_ic_le, List.forall_mem_cons.mpr ⟨np_s_aload_n hX dL_steps_163 rfl, List.forall_mem_cons.mpr ⟨np_s_iload_n hX dL_steps_164 rfl, List.forall_mem_cons.mpr ⟨np_s_iconst hX dL_steps_165 (by decide), List.forall_mem_cons.mpr ⟨np_s_iadd hX dL_steps_166, List.forall_mem_cons.mpr ⟨np_S.mono (op := np_ialdT .int) (np_s_iald hX dL_steps_167) nw_ialdT_le, List.forall_mem_cons.mpr ⟨np_s_goto hX dL_steps_168 (by decide), List.forall_mem_cons.mpr ⟨np_s_bipush hX dL_steps_171 (by decide), List.forall_mem_cons.mpr ⟨np_s_imul hX dL_steps_173, List.forall_mem_cons.mpr ⟨np_s_iadd hX dL_steps_174, List.forall_mem_cons.mpr ⟨np_s_aload_n hX dL_steps_175 rfl, List.forall_mem_cons.mpr ⟨np_s_iload_n hX dL_steps_176 rfl, List.forall_mem_cons.mpr ⟨np_s_iconst hX dL_steps_177 (by decide), List.forall_mem_cons.mpr ⟨np_s_iadd hX dL_steps_178, List.forall_mem_cons.mpr ⟨np_S.mono (op := np_ialdT .int) (np_s_iald hX dL_steps_179) nw_ialdT_le, List.forall_mem_cons.mpr ⟨np_s_iadd hX dL_steps_180, List.forall_mem_cons.mpr ⟨np_S.mono (op := np_icne 188) (np_s_icmp_ne hX dL_steps_181 (by decide)) nq_icne_le, List.forall_mem_cons.mpr ⟨np_s_iconst hX dL_steps_184 (by decide), List.forall_mem_cons.mpr ⟨np_s_goto hX dL_steps_185 (by decide), List.forall_mem_cons.mpr ⟨np_s_iconst hX dL_steps_188 (by decide), List.forall_mem_cons.mpr ⟨np_S.mono (op := np_ret X.2.2.1) (np_s_ret hX dL_steps_189) (nq_ret_le hR), List.forall_mem_cons.mpr ⟨np_s_aload_n hX dL_steps_190 rfl, List.forall_mem_cons.mpr ⟨np_s_iload_n hX dL_steps_191 rfl, List.forall_mem_cons.mpr ⟨np_s_iconst hX dL_steps_192 (by decide), List.forall_mem_cons.mpr ⟨np_s_iadd hX dL_steps_193, List.forall_mem_cons.mpr ⟨np_S.mono (op := np_ialdT .int) (np_s_iald hX dL_steps_194) nw_ialdT_le, List.forall_mem_cons.mpr ⟨np_s_bipush hX dL_steps_195 (by decide), List.forall_mem_cons.mpr ⟨np_S.mono (op := np_icne 213) (np_s_icmp_ne hX dL_steps_197 (by decide)) nq_icne_le, List.forall_mem_cons.mpr ⟨np_s_iload hX dL_steps_200, List.forall_mem_cons.mpr ⟨np_s_ldc hX dL_steps_202 gw1185, List.forall_mem_cons.mpr ⟨np_S.mono (op := np_icne 211) (np_s_icmp_ne hX dL_steps_204 (by decide)) nq_icne_le, List.forall_mem_cons.mpr ⟨np_s_iconst hX dL_steps_207 (by decide), List.forall_mem_cons.mpr ⟨np_s_goto hX dL_steps_208 (by decide), List.forall_mem_cons.mpr ⟨np_s_iconst hX dL_steps_211 (by decide), List.forall_mem_cons.mpr ⟨np_S.mono (op := np_ret X.2.2.1) (np_s_ret hX dL_steps_212) (nq_ret_le hR), List.forall_mem_cons.mpr ⟨np_s_aload_n hX dL_steps_213 rfl, List.forall_mem_cons.mpr ⟨np_s_iload_n hX dL_steps_214 rfl, List.forall_mem_cons.mpr ⟨np_s_iconst hX dL_steps_215 (by decide), List.forall_mem_cons.mpr ⟨np_s_iadd hX dL_steps_216, List.forall_mem_cons.mpr ⟨np_S.mono (op := np_ialdT .int) (np_s_iald hX dL_steps_217) nw_ialdT_le, List.forall_mem_cons.mpr ⟨np_S.mono (op := np_ist 2 8) (np_s_istore hX dL_steps_218 (by decide)) nw_ist_le, List.forall_mem_cons.mpr ⟨np_s_aload_n hX dL_steps_220 rfl, List.forall_mem_cons.mpr ⟨np_s_iload_n hX dL_steps_221 rfl, List.forall_mem_cons.mpr ⟨np_s_iconst hX dL_steps_222 (by decide), List.forall_mem_cons.mpr ⟨np_s_iadd hX dL_steps_223, List.forall_mem_cons.mpr ⟨np_s_iload hX dL_steps_224, List.forall_mem_cons.mpr ⟨np_s_iload hX dL_steps_226, List.forall_mem_cons.mpr ⟨np_S.mono (op := np_ic (fun x y => y ≤ x) 238) (np_s_icmp_ge hX dL_steps_228 (by decide)) nq_ic_le, List.forall_mem_cons.mpr ⟨np_s_iload hX dL_steps_231, List.forall_mem_cons.mpr ⟨np_s_iconst hX dL_steps_233 (by decide), List.forall_mem_cons.mpr ⟨np_s_iadd hX dL_steps_234, List.forall_mem_cons.mpr ⟨np_s_goto hX dL_steps_235 (by decide), List.forall_mem_cons.mpr ⟨np_s_iload hX dL_steps_238, List.forall_mem_cons.mpr ⟨np_S.mono (op := np_iastT .int) (np_s_iast hX dL_steps_240) nw_iastT_le, List.forall_mem_cons.mpr ⟨np_s_iload hX dL_steps_241, List.forall_mem_cons.mpr ⟨np_s_iconst hX dL_steps_243 (by decide), List.forall_mem_cons.mpr ⟨np_S.mono (op := np_icne 377) (np_s_icmp_ne hX dL_steps_244 (by decide)) nq_icne_le, List.forall_mem_cons.mpr ⟨np_s_aload_n hX dL_steps_247 rfl, List.forall_mem_cons.mpr ⟨np_s_iload_n hX dL_steps_248 rfl, List.forall_mem_cons.mpr ⟨np_s_iconst hX dL_steps_249 (by decide), List.forall_mem_cons.mpr ⟨np_s_iadd hX dL_steps_250, List.forall_mem_cons.mpr ⟨np_S.mono (op := np_dup2) (np_s_dup2 hX dL_steps_251) nq_dup2_le, List.forall_mem_cons.mpr ⟨np_S.mono (op := np_ialdT .int) (np_s_iald hX dL_steps_252) nw_ialdT_le, List.forall_mem_cons.mpr ⟨np_s_iconst hX dL_steps_253 (by decide), List.forall_mem_cons.mpr ⟨np_s_iadd hX dL_steps_254, List.forall_mem_cons.mpr ⟨np_S.mono (op := np_iastT .int) (np_s_iast hX dL_steps_255) nw_iastT_le, List.forall_mem_cons.mpr ⟨np_s_aload_n hX dL_steps_256 rfl, List.forall_mem_cons.mpr ⟨np_s_iload_n hX dL_steps_257 rfl, List.forall_mem_cons.mpr ⟨np_S.mono (op := np_callVX 11 2 sp_X11_progress 3 1 6 1109 6654 []) (np_s_callVX hX C_X11_progress dL_steps_258 (q := (RX11, TX11, 14)) rfl rfl gw1251 gw63 gw1248 gw1249 gw1250 ⟨by decide, by decide, by decide⟩ (by decide) (by decide) (fun _ h => nomatch h)) (nw_callVX_le2 (ci := 11) (n := 2) (sp := sp_X11_progress) (maxL := 3) (mc := 1) (ms := 6) (RC := 1109) (RS := 6654) (hs := [])), List.forall_mem_cons.mpr ⟨np_s_sipush hX dL_steps_261 (by decide), List.forall_mem_cons.mpr ⟨np_S.mono (op := np_ibn (fun x y => x / y)) (np_s_idiv hX dL_steps_264) nq_ibn_le, List.forall_mem_cons.mpr ⟨np_s_bipush hX dL_steps_265 (by decide), List.forall_mem_cons.mpr ⟨np_S.mono (op := np_ibn (fun x y => x - x / y * y)) (np_s_irem hX dL_steps_267) nq_ibn_le, List.forall_mem_cons.mpr ⟨np_S.mono (op := np_ist 2 9) (np_s_istore hX dL_steps_268 (by decide)) nw_ist_le, List.forall_mem_cons.mpr ⟨np_s_iload hX dL_steps_270, List.forall_mem_cons.mpr ⟨np_s_aload_n hX dL_steps_272 rfl, List.forall_mem_cons.mpr ⟨np_s_iload_n hX dL_steps_273 rfl, List.forall_mem_cons.mpr ⟨np_s_iconst hX dL_steps_274 (by decide), List.forall_mem_cons.mpr ⟨np_s_iadd hX dL_steps_275, List.forall_mem_cons.mpr ⟨np_S.mono (op := np_ialdT .int) (np_s_iald hX dL_steps_276) nw_ialdT_le, List.forall_mem_cons.mpr ⟨np_S.mono (op := np_ic (fun x y => x = y) 304) (np_s_icmp_eq hX dL_steps_277 (by decide)) nq_ic_le, List.forall_mem_cons.mpr ⟨np_s_iload hX dL_steps_280, List.forall_mem_cons.mpr ⟨np_s_aload_n hX dL_steps_282 rfl, List.forall_mem_cons.mpr ⟨np_s_iload_n hX dL_steps_283 rfl, List.forall_mem_cons.mpr ⟨np_s_iconst hX dL_steps_284 (by decide), List.forall_mem_cons.mpr ⟨np_s_iadd hX dL_steps_285, List.forall_mem_cons.mpr ⟨np_S.mono (op := np_ialdT .int) (np_s_iald hX dL_steps_286) nw_ialdT_le, List.forall_mem_cons.mpr ⟨np_s_iconst hX dL_steps_287 (by decide), List.forall_mem_cons.mpr ⟨np_s_iadd hX dL_steps_288, List.forall_mem_cons.mpr ⟨np_S.mono (op := np_icne 308) (np_s_icmp_ne hX dL_steps_289 (by decide)) nq_icne_le, List.forall_mem_cons.mpr ⟨np_s_aload_n hX dL_steps_292 rfl, List.forall_mem_cons.mpr ⟨np_s_aload_n hX dL_steps_293 rfl, List.forall_mem_cons.mpr ⟨np_s_iload_n hX dL_steps_294 rfl, List.forall_mem_cons.mpr ⟨np_S.mono (op := np_ialdT .int) (np_s_iald hX dL_steps_295) nw_ialdT_le, List.forall_mem_cons.mpr ⟨np_s_iconst hX dL_steps_296 (by decide), List.forall_mem_cons.mpr ⟨np_s_isub hX dL_steps_297, List.forall_mem_cons.mpr ⟨np_S.mono (op := np_callVX 11 2 sp_X11_sure 3 1 6 1109 6654 []) (np_s_callVX hX C_X11_sure dL_steps_298 (q := (RX11, TX11, 14)) rfl rfl gw695 gw63 gw692 gw693 gw694 ⟨by decide, by decide, by decide⟩ (by decide) (by decide) (fun _ h => nomatch h)) (nw_callVX_le2 (ci := 11) (n := 2) (sp := sp_X11_sure) (maxL := 3) (mc := 1) (ms := 6) (RC := 1109) (RS := 6654) (hs := [])), List.forall_mem_cons.mpr ⟨np_S.mono (op := np_if (fun x => x < 0) 308) (np_s_if_lt hX dL_steps_301 (by decide)) nq_if_le, List.forall_mem_cons.mpr ⟨np_s_iconst hX dL_steps_304 (by decide), List.forall_mem_cons.mpr ⟨np_s_goto hX dL_steps_305 (by decide), List.forall_mem_cons.mpr ⟨np_s_iconst hX dL_steps_308 (by decide), List.forall_mem_cons.mpr ⟨np_S.mono (op := np_ist 2 10) (np_s_istore hX dL_steps_309 (by decide)) nw_ist_le, List.forall_mem_cons.mpr ⟨np_s_aload_n hX dL_steps_311 rfl, List.forall_mem_cons.mpr ⟨np_s_iload_n hX dL_steps_312 rfl, List.forall_mem_cons.mpr ⟨np_s_iconst hX dL_steps_313 (by decide), List.forall_mem_cons.mpr ⟨np_s_iadd hX dL_steps_314, List.forall_mem_cons.mpr ⟨np_s_iload hX dL_steps_315, List.forall_mem_cons.mpr ⟨np_S.mono (op := np_iastT .int) (np_s_iast hX dL_steps_317) nw_iastT_le, List.forall_mem_cons.mpr ⟨np_s_iload hX dL_steps_318, List.forall_mem_cons.mpr ⟨np_S.mono (op := np_if (fun x => x = 0) 375) (np_s_if_eq hX dL_steps_320 (by decide)) nq_if_le, List.forall_mem_cons.mpr ⟨np_s_aload_n hX dL_steps_323 rfl, List.forall_mem_cons.mpr ⟨np_s_iload_n hX dL_steps_324 rfl, List.forall_mem_cons.mpr ⟨np_S.mono (op := np_callVX 11 2 sp_X11_progress 3 1 6 1109 6654 []) (np_s_callVX hX C_X11_progress dL_steps_325 (q := (RX11, TX11, 14)) rfl rfl gw1251 gw63 gw1248 gw1249 gw1250 ⟨by decide, by decide, by decide⟩ (by decide) (by decide) (fun _ h => nomatch h)) (nw_callVX_le2 (ci := 11) (n := 2) (sp := sp_X11_progress) (maxL := 3) (mc := 1) (ms := 6) (RC := 1109) (RS := 6654) (hs := [])), List.forall_mem_cons.mpr ⟨np_s_sipush hX dL_steps_328 (by decide), List.forall_mem_cons.mpr ⟨np_s_aload_n hX dL_steps_331 rfl, List.forall_mem_cons.mpr ⟨np_s_iload_n hX dL_steps_332 rfl, List.forall_mem_cons.mpr ⟨np_s_iconst hX dL_steps_333 (by decide), List.forall_mem_cons.mpr ⟨np_s_iadd hX dL_steps_334, List.forall_mem_cons.mpr ⟨np_S.mono (op := np_ialdT .int) (np_s_iald hX dL_steps_335) nw_ialdT_le, List.forall_mem_cons.mpr ⟨np_s_imul hX dL_steps_336, List.forall_mem_cons.mpr ⟨np_s_sipush hX dL_steps_337 (by decide), List.forall_mem_cons.mpr ⟨np_s_iload hX dL_steps_340, List.forall_mem_cons.mpr ⟨np_s_imul hX dL_steps_342, List.forall_mem_cons.mpr ⟨np_s_iadd hX dL_steps_343, List.forall_mem_cons.mpr ⟨np_s_aload_n hX dL_steps_344 rfl, List.forall_mem_cons.mpr ⟨np_s_iload_n hX dL_steps_345 rfl, List.forall_mem_cons.mpr ⟨np_s_iconst hX dL_steps_346 (by decide), List.forall_mem_cons.mpr ⟨np_s_iadd hX dL_steps_347, List.forall_mem_cons.mpr ⟨np_S.mono (op := np_ialdT .int) (np_s_iald hX dL_steps_348) nw_ialdT_le, List.forall_mem_cons.mpr ⟨np_s_iadd hX dL_steps_349, List.forall_mem_cons.mpr ⟨np_S.mono (op := np_icne 375) (np_s_icmp_ne hX dL_steps_350 (by decide)) nq_icne_le, List.forall_mem_cons.mpr ⟨np_s_aload_n hX dL_steps_353 rfl, List.forall_mem_cons.mpr ⟨np_s_aload_n hX dL_steps_354 rfl, List.forall_mem_cons.mpr ⟨np_s_iload_n hX dL_steps_355 rfl, List.forall_mem_cons.mpr ⟨np_S.mono (op := np_ialdT .int) (np_s_iald hX dL_steps_356) nw_ialdT_le, List.forall_mem_cons.mpr ⟨np_s_iconst hX dL_steps_357 (by decide), List.forall_mem_cons.mpr ⟨np_s_isub hX dL_steps_358, List.forall_mem_cons.mpr ⟨np_s_iload_n hX dL_steps_359 rfl, List.forall_mem_cons.mpr ⟨np_s_iload hX dL_steps_360, List.forall_mem_cons.mpr ⟨np_s_iload hX dL_steps_362, List.forall_mem_cons.mpr ⟨np_s_aload_n hX dL_steps_364 rfl, List.forall_mem_cons.mpr ⟨np_S.mono (op := np_call 6 sp_L_isLine 13 501 3006 1109 6654) (np_s_callS hX C_L_isLine dL_steps_365 gw1254 gw62 gw1252 gw1253 ⟨by decide, by decide, by decide⟩ (by decide) (by decide)) nq_call_le, List.forall_mem_cons.mpr ⟨np_S.mono (op := np_if (fun x => x = 0) 375) (np_s_if_eq hX dL_steps_368 (by decide)) nq_if_le, List.forall_mem_cons.mpr ⟨np_s_iconst hX dL_steps_371 (by decide), List.forall_mem_cons.mpr ⟨np_s_goto hX dL_steps_372 (by decide), List.forall_mem_cons.mpr ⟨np_s_iconst hX dL_steps_375 (by decide), List.forall_mem_cons.mpr ⟨np_S.mono (op := np_ret X.2.2.1) (np_s_ret hX dL_steps_376) (nq_ret_le hR), List.forall_mem_cons.mpr ⟨np_s_aload_n hX dL_steps_377 rfl, List.forall_mem_cons.mpr ⟨np_s_iconst hX dL_steps_378 (by decide), List.forall_mem_cons.mpr ⟨np_s_iload_n hX dL_steps_379 rfl, List.forall_mem_cons.mpr ⟨np_s_aload_n hX dL_steps_380 rfl, List.forall_mem_cons.mpr ⟨np_s_iload_n hX dL_steps_381 rfl, List.forall_mem_cons.mpr ⟨np_s_iconst hX dL_steps_382 (by decide), List.forall_mem_cons.mpr ⟨np_s_iadd hX dL_steps_383, List.forall_mem_cons.mpr ⟨np_S.mono (op := np_ialdT .int) (np_s_iald hX dL_steps_384) nw_ialdT_le, List.forall_mem_cons.mpr ⟨np_s_iconst hX dL_steps_385 (by decide), List.forall_mem_cons.mpr ⟨np_S.mono (op := np_call 5 sp_L_asks 6 1 6 1109 6654) (np_s_callSW hX C_L_asks dL_steps_386 gw931 gw62 gw929 gw930 ⟨by decide, by decide, by decide⟩ (by decide) (by decide)) nq_call_le, List.forall_mem_cons.mpr ⟨np_S.mono (op := np_ist 2 9) (np_s_istore hX dL_steps_389 (by decide)) nw_ist_le, List.forall_mem_cons.mpr ⟨np_s_aload_n hX dL_steps_391 rfl, List.forall_mem_cons.mpr ⟨np_s_iload_n hX dL_steps_392 rfl, List.forall_mem_cons.mpr ⟨np_s_iconst hX dL_steps_393 (by decide), List.forall_mem_cons.mpr ⟨np_s_iadd hX dL_steps_394, List.forall_mem_cons.mpr ⟨np_S.mono (op := np_dup2) (np_s_dup2 hX dL_steps_395) nq_dup2_le, List.forall_mem_cons.mpr ⟨np_S.mono (op := np_ialdT .int) (np_s_iald hX dL_steps_396) nw_ialdT_le, List.forall_mem_cons.mpr ⟨np_s_iconst hX dL_steps_397 (by decide), List.forall_mem_cons.mpr ⟨np_s_iadd hX dL_steps_398, List.forall_mem_cons.mpr ⟨np_S.mono (op := np_iastT .int) (np_s_iast hX dL_steps_399) nw_iastT_le, List.forall_mem_cons.mpr ⟨np_s_iload hX dL_steps_400, List.forall_mem_cons.mpr ⟨np_S.mono (op := np_ifne 456) (np_s_if_ne hX dL_steps_402 (by decide)) nq_ifne_le, List.forall_mem_cons.mpr ⟨np_s_iload hX dL_steps_405, List.forall_mem_cons.mpr ⟨np_s_ldc hX dL_steps_407 gw1267, List.forall_mem_cons.mpr ⟨np_S.mono (op := np_ibn (fun x y => x / y)) (np_s_idiv hX dL_steps_409) nq_ibn_le, List.forall_mem_cons.mpr ⟨np_s_bipush hX dL_steps_410 (by decide), List.forall_mem_cons.mpr ⟨np_S.mono (op := np_ic (fun x y => y < x) 456) (np_s_icmp_gt hX dL_steps_412 (by decide)) nq_ic_le, List.forall_mem_cons.mpr ⟨np_s_iload hX dL_steps_415, List.forall_mem_cons.mpr ⟨np_s_ldc hX dL_steps_417 gw1267, List.forall_mem_cons.mpr ⟨np_S.mono (op := np_ibn (fun x y => x - x / y * y)) (np_s_irem hX dL_steps_419) nq_ibn_le, List.forall_mem_cons.mpr ⟨np_s_sipush hX dL_steps_420 (by decide), List.forall_mem_cons.mpr ⟨np_s_iload hX dL_steps_423, List.forall_mem_cons.mpr ⟨np_s_imul hX dL_steps_425, List.forall_mem_cons.mpr ⟨np_s_aload_n hX dL_steps_426 rfl, List.forall_mem_cons.mpr ⟨np_s_iload_n hX dL_steps_427 rfl, List.forall_mem_cons.mpr ⟨np_s_iconst hX dL_steps_428 (by decide), List.forall_mem_cons.mpr ⟨np_s_iadd hX dL_steps_429, List.forall_mem_cons.mpr ⟨np_S.mono (op := np_ialdT .int) (np_s_iald hX dL_steps_430) nw_ialdT_le, List.forall_mem_cons.mpr ⟨np_s_iadd hX dL_steps_431, List.forall_mem_cons.mpr ⟨np_S.mono (op := np_icne 456) (np_s_icmp_ne hX dL_steps_432 (by decide)) nq_icne_le, List.forall_mem_cons.mpr ⟨np_s_aload_n hX dL_steps_435 rfl, List.forall_mem_cons.mpr ⟨np_s_iconst hX dL_steps_436 (by decide), List.forall_mem_cons.mpr ⟨np_s_iload_n hX dL_steps_437 rfl, List.forall_mem_cons.mpr ⟨np_s_aload_n hX dL_steps_438 rfl, List.forall_mem_cons.mpr ⟨np_s_iload_n hX dL_steps_439 rfl, List.forall_mem_cons.mpr ⟨np_s_iconst hX dL_steps_440 (by decide), List.forall_mem_cons.mpr ⟨np_s_iadd hX dL_steps_441, List.forall_mem_cons.mpr ⟨np_S.mono (op := np_ialdT .int) (np_s_iald hX dL_steps_442) nw_ialdT_le, List.forall_mem_cons.mpr ⟨np_s_iconst hX dL_steps_443 (by decide), List.forall_mem_cons.mpr ⟨np_S.mono (op := np_call 5 sp_L_asks 6 1 6 1109 6654) (np_s_callSW hX C_L_asks dL_steps_444 gw931 gw62 gw929 gw930 ⟨by decide, by decide, by decide⟩ (by decide) (by decide)) nq_call_le, List.forall_mem_cons.mpr ⟨np_s_ldc hX dL_steps_447 gw1184, List.forall_mem_cons.mpr ⟨np_S.mono (op := np_icne 456) (np_s_icmp_ne hX dL_steps_449 (by decide)) nq_icne_le, List.forall_mem_cons.mpr ⟨np_s_iconst hX dL_steps_452 (by decide), List.forall_mem_cons.mpr ⟨np_s_goto hX dL_steps_453 (by decide), List.forall_mem_cons.mpr ⟨np_s_iconst hX dL_steps_456 (by decide), List.forall_mem_cons.mpr ⟨np_S.mono (op := np_ret X.2.2.1) (np_s_ret hX dL_steps_457) (nq_ret_le hR), fun _ h => nomatch h⟩⟩⟩⟩⟩⟩⟩⟩⟩⟩⟩⟩⟩⟩⟩⟩⟩⟩⟩⟩⟩⟩⟩⟩⟩⟩⟩⟩⟩⟩⟩⟩⟩⟩⟩⟩⟩⟩⟩⟩⟩⟩⟩⟩⟩⟩⟩⟩⟩⟩⟩⟩⟩⟩⟩⟩⟩⟩⟩⟩⟩⟩⟩⟩⟩⟩⟩⟩⟩⟩⟩⟩⟩⟩⟩⟩⟩⟩⟩⟩⟩⟩⟩⟩⟩⟩⟩⟩⟩⟩⟩⟩⟩⟩⟩⟩⟩⟩⟩⟩⟩⟩⟩⟩⟩⟩⟩⟩⟩⟩⟩⟩⟩⟩⟩⟩⟩⟩⟩⟩⟩⟩⟩⟩⟩⟩⟩⟩⟩⟩⟩⟩⟩⟩⟩⟩⟩⟩⟩⟩⟩⟩⟩⟩⟩⟩⟩⟩⟩⟩⟩⟩⟩⟩⟩⟩⟩⟩⟩⟩⟩⟩⟩⟩⟩⟩⟩⟩⟩⟩⟩⟩⟩⟩⟩⟩⟩⟩⟩⟩⟩⟩⟩⟩⟩⟩⟩⟩⟩⟩⟩⟩⟩⟩⟩⟩⟩⟩⟩⟩⟩⟩⟩⟩⟩⟩⟩⟩⟩⟩⟩⟩⟩⟩⟩⟩⟩⟩⟩⟩⟩⟩⟩⟩⟩⟩⟩⟩⟩⟩⟩⟩⟩⟩⟩⟩⟩⟩⟩⟩⟩⟩⟩⟩⟩⟩⟩⟩⟩⟩⟩⟩⟩⟩⟩⟩⟩⟩⟩⟩⟩⟩⟩⟩⟩⟩⟩⟩⟩⟩⟩⟩⟩⟩⟩⟩⟩⟩⟩⟩⟩⟩⟩⟩⟩⟩⟩⟩⟩⟩⟩⟩⟩⟩⟩⟩⟩⟩
noncomputable def m_L_steps_21 (k46 : pw_S → Nat → Int32 → Nat → Nat → Int32 → Int32 → Int32 → pw_R Int32) : Nat → pw_S → Nat → Int32 → Nat → Nat → Int32 → Int32 → Int32 → pw_R Int32
| 0, _, _, _, _, _, _, _, _ => none
| N + 1, S, v0, v1, va2, vi2, v3, v4, v5 =>
 if v4 ≤ v5 then
 (k46 S v0 v1 va2 vi2 v3 v4 v5)
 else
 (pw_b (m_X11_unit S v0 v1 v5) fun S1 r4 =>
 pw_e r4 (fun r6 =>
 (if r6 = 10 then
 (k46 S1 v0 v1 va2 vi2 v3 v4 v5)
 else
 (pw_l (v5 + 1 : Int32) fun z8 =>
 m_L_steps_21 k46 N S1 v0 v1 va2 vi2 v3 v4 z8))) (fun _ => none))
set_option maxRecDepth 100000 in
set_option maxHeartbeats 8000000 in
theorem L_L_steps_21 {X : np_Ctx} (hX : np_ok RL cL_steps 11 11 304 1109 6654 .ireturn X) {Q : Option Value → np_W → Prop} {q : Nat} {n dc ds : Nat} (hR : ∀ st w ce sl, np_rt (some .boolean) 1109 6654 Q st w ce sl → X.2.2.1 st w ce sl) {k46 : pw_S → Nat → Int32 → Nat → Nat → Int32 → Int32 → Int32 → pw_R Int32} (hk46 : ∀ (S : pw_S) (v0 : Nat) (v1 : Int32) (va2 : Nat) (vi2 : Nat) (v3 : Int32) (v4 : Int32) (v5 : Int32) (f : Nat → Option np_E) (ce sl : Nat) (hv0 : pw_ok q 61 v0 = true) (ha2 : pw_arr va2 = true) (hi2 : pw_ok q va2 vi2 = true), ce + dc ≤ 1109 → sl + ds ≤ 6654 → pw_W q (n, f) S → pw_p (k46 S v0 v1 va2 vi2 v3 v4 v5) (fun S' r => ∀ f', pw_W q (n, f') S' → Q (some (.int r)) (n, f')) → np_G X 46 [(0, .ref (pw_pl 61 v0)), (1, .int v1), (2, .ref (pw_pl va2 vi2)), (3, .int v3), (4, .int v4), (5, .int v5)] [] (n, f) ce sl) : ∀ (N : Nat) (S : pw_S) (v0 : Nat) (v1 : Int32) (va2 : Nat) (vi2 : Nat) (v3 : Int32) (v4 : Int32) (v5 : Int32) (f : Nat → Option np_E) (ce sl : Nat) (hv0 : pw_ok q 61 v0 = true) (ha2 : pw_arr va2 = true) (hi2 : pw_ok q va2 vi2 = true), ce + N * 1 + dc ≤ 1109 → sl + N * 6 + ds ≤ 6654 → pw_W q (n, f) S → pw_p (m_L_steps_21 k46 N S v0 v1 va2 vi2 v3 v4 v5) (fun S' r => ∀ f', pw_W q (n, f') S' → Q (some (.int r)) (n, f')) → np_G X 21 [(0, .ref (pw_pl 61 v0)), (1, .int v1), (2, .ref (pw_pl va2 vi2)), (3, .int v3), (4, .int v4), (5, .int v5)] [] (n, f) ce sl := by
  intro N
  induction N with
  | zero =>
    intro S v0 v1 va2 vi2 v3 v4 v5 f ce sl hv0 ha2 hi2 hc hs hW h
    exact (pw_pn h).elim
  | succ N ih =>
    intro S v0 v1 va2 vi2 v3 v4 v5 f ce sl hv0 ha2 hi2 hc hs hW h
    unfold m_L_steps_21 at h
    refine np_soundW (so_L_steps hX hR) [21, 46] 400 21 _ _ _ _ _ ?_
    conv => whnf
    refine pw_br h (fun _ h => ?_) (fun _ h => ?_)
    · conv => whnf
      exact np_gl (hk46 S v0 v1 va2 vi2 v3 v4 v5 f _ _ hv0 ha2 hi2 (by omega) (by omega) hW h) ⟨rfl, rfl, rfl, rfl, rfl, rfl, trivial⟩
    · conv => whnf
      refine np_rd_i (hW.g hv0) ?_
      conv => whnf
      refine np_chk_i (pw_and rfl (pw_and rfl (pw_and rfl (pw_and rfl ((pw_and (pw_le (by omega)) (pw_le (by omega)))))))) ?_
      conv => whnf
      refine ⟨q, S, v0, v1, v5, rfl, hv0, hW, pw_bd h (fun S1 r4 h f2 hW3 => ?_)⟩
      rcases r4 with r6 | e7
      · replace h := pw_ei h
        conv => whnf
        refine pw_br h (fun _ h => ?_) (fun _ h => ?_)
        · conv => whnf
          exact np_gl (hk46 S1 v0 v1 va2 vi2 v3 v4 v5 f2 _ _ hv0 ha2 hi2 (by omega) (by omega) hW3 h) ⟨rfl, rfl, rfl, rfl, rfl, rfl, trivial⟩
        · conv => whnf
          refine pw_st h (fun z8 h => ?_)
          conv => whnf
          exact np_gl (ih S1 v0 v1 va2 vi2 v3 v4 z8 f2 _ _ hv0 ha2 hi2 (by omega) (by omega) hW3 h) ⟨rfl, rfl, rfl, rfl, rfl, rfl, trivial⟩
      · exact (pw_pn h).elim
noncomputable def m_L_steps (S : pw_S) (i0 : Nat) (x1 : Int32) (a2 : Nat) (i2 : Nat) : pw_R Int32 :=
 pw_l ((3 + (6 * x1)) : Int32) fun z9 =>
 pw_b (m_L_units S i0 x1) fun S10 r13 =>
 pw_l (r13 : Int32) fun z15 =>
 pw_c (np_inb (z9 + 1) (pw_len a2)) <|
 pw_l ((S10 a2 i2 ((z9 + 1) : Int32).toNatClampNeg) : Int32) fun z16 =>
 m_L_steps_21
 (fun S27 u17 u19 u20 u21 u24 u25 u26 =>
 (pw_b (m_L_asks S27 u17 2 u19 0 0) fun S30 r33 =>
 pw_l (r33 : Int32) fun z35 =>
 pw_c (np_inb u24 (pw_len u20)) <|
 if (S30 u20 u21 (u24 : Int32).toNatClampNeg) = 0 then
 (if z35 = (-70008) then
 (pw_b (m_X11_progress S30 u17 u19) fun S36 r39 =>
 pw_e r39 (fun r41 =>
 (if r41 = 0 then
 (some (S36, 1))
 else
 (some (S36, 0)))) (fun _ => none))
 else
 (some (S30, 0)))
 else
 (pw_c (np_inb (u24 + 5) (pw_len u20)) <|
 if (S30 u20 u21 ((u24 + 5) : Int32).toNatClampNeg) = 0 then
 (pw_l (1 : Int32) fun z43 =>
 if u26 = u25 then
 (if z43 = 0 then
 (pw_c (np_inb (u24 + 1) (pw_len u20)) <|
 if (S30 u20 u21 ((u24 + 1) : Int32).toNatClampNeg) = u25 then
 (if z43 = 0 then
 (if z35 = (-2) then
 (pw_b (m_X11_progress S30 u17 u19) fun S44 r47 =>
 pw_e r47 (fun r49 =>
 (pw_c (np_inb (u24 + 2) (pw_len u20)) <|
 pw_c (np_inb (u24 + 3) (pw_len u20)) <|
 if 9 ≤ (S44 u20 u21 ((u24 + 3) : Int32).toNatClampNeg) then
 (pw_c (np_inb (u24 + 1) (pw_len u20)) <|
 if r49 = (((10000 * (S44 u20 u21 ((u24 + 2) : Int32).toNatClampNeg)) + 9000) + (S44 u20 u21 ((u24 + 1) : Int32).toNatClampNeg)) then
 (some (S44, 1))
 else
 (some (S44, 0)))
 else
 (pw_c (np_inb (u24 + 3) (pw_len u20)) <|
 pw_c (np_inb (u24 + 1) (pw_len u20)) <|
 if r49 = (((10000 * (S44 u20 u21 ((u24 + 2) : Int32).toNatClampNeg)) + (1000 * (S44 u20 u21 ((u24 + 3) : Int32).toNatClampNeg))) + (S44 u20 u21 ((u24 + 1) : Int32).toNatClampNeg)) then
 (some (S44, 1))
 else
 (some (S44, 0))))) (fun _ => none))
 else
 (some (S30, 0)))
 else
 (if z35 = (-1) then
 (pw_b (m_X11_progress S30 u17 u19) fun S51 r54 =>
 pw_e r54 (fun r56 =>
 (pw_c (np_inb (u24 + 2) (pw_len u20)) <|
 pw_c (np_inb (u24 + 3) (pw_len u20)) <|
 if 9 ≤ (S51 u20 u21 ((u24 + 3) : Int32).toNatClampNeg) then
 (pw_c (np_inb (u24 + 1) (pw_len u20)) <|
 if r56 = (((10000 * (S51 u20 u21 ((u24 + 2) : Int32).toNatClampNeg)) + 9000) + (S51 u20 u21 ((u24 + 1) : Int32).toNatClampNeg)) then
 (some (S51, 1))
 else
 (some (S51, 0)))
 else
 (pw_c (np_inb (u24 + 3) (pw_len u20)) <|
 pw_c (np_inb (u24 + 1) (pw_len u20)) <|
 if r56 = (((10000 * (S51 u20 u21 ((u24 + 2) : Int32).toNatClampNeg)) + (1000 * (S51 u20 u21 ((u24 + 3) : Int32).toNatClampNeg))) + (S51 u20 u21 ((u24 + 1) : Int32).toNatClampNeg)) then
 (some (S51, 1))
 else
 (some (S51, 0))))) (fun _ => none))
 else
 (some (S30, 0))))
 else
 (pw_c (np_inb (u24 + 2) (pw_len u20)) <|
 if (S30 u20 u21 ((u24 + 2) : Int32).toNatClampNeg) = 24 then
 (if z35 = (-70008) then
 (some (S30, 1))
 else
 (some (S30, 0)))
 else
 (pw_c (np_inb (u24 + 1) (pw_len u20)) <|
 pw_l ((S30 u20 u21 ((u24 + 1) : Int32).toNatClampNeg) : Int32) fun z58 =>
 if u25 ≤ u26 then
 (pw_c (np_inb (u24 + 1) (pw_len u20)) <|
 pw_l (pw_up S30 u20 u21 (upd (S30 u20 u21) ((u24 + 1) : Int32).toNatClampNeg u26)) fun S59 =>
 if z35 = 1 then
 (pw_c (np_inb (u24 + 2) (pw_len u20)) <|
 pw_c (np_inb (u24 + 2) (pw_len u20)) <|
 pw_l (pw_up S59 u20 u21 (upd (S59 u20 u21) ((u24 + 2) : Int32).toNatClampNeg ((S59 u20 u21 ((u24 + 2) : Int32).toNatClampNeg) + 1))) fun S62 =>
 pw_b (m_X11_progress S62 u17 u19) fun S65 r68 =>
 pw_e r68 (fun r70 =>
 (pw_l (((r70 / 1000) - (r70 / 1000) / 10 * 10) : Int32) fun z72 =>
 pw_c (np_inb (u24 + 3) (pw_len u20)) <|
 if z72 = (S65 u20 u21 ((u24 + 3) : Int32).toNatClampNeg) then
 (pw_l (1 : Int32) fun z73 =>
 pw_c (np_inb (u24 + 3) (pw_len u20)) <|
 pw_l (pw_up S65 u20 u21 (upd (S65 u20 u21) ((u24 + 3) : Int32).toNatClampNeg z72)) fun S74 =>
 if z73 = 0 then
 (some (S74, 0))
 else
 (pw_b (m_X11_progress S74 u17 u19) fun S77 r80 =>
 pw_e r80 (fun r82 =>
 (pw_c (np_inb (u24 + 2) (pw_len u20)) <|
 pw_c (np_inb (u24 + 1) (pw_len u20)) <|
 if r82 = (((10000 * (S77 u20 u21 ((u24 + 2) : Int32).toNatClampNeg)) + (1000 * z72)) + (S77 u20 u21 ((u24 + 1) : Int32).toNatClampNeg)) then
 (pw_c (np_inb u24 (pw_len u20)) <|
 pw_b (m_L_isLine S77 u17 ((S77 u20 u21 (u24 : Int32).toNatClampNeg) - 1) u19 z58 u26 u20 u21) fun S84 r87 =>
 if r87 = 0 then
 (some (S84, 0))
 else
 (some (S84, 1)))
 else
 (some (S77, 0)))) (fun _ => none)))
 else
 (pw_c (np_inb (u24 + 3) (pw_len u20)) <|
 if z72 = ((S65 u20 u21 ((u24 + 3) : Int32).toNatClampNeg) + 1) then
 (pw_c (np_inb u24 (pw_len u20)) <|
 pw_b (m_X11_sure S65 u17 ((S65 u20 u21 (u24 : Int32).toNatClampNeg) - 1)) fun S89 r92 =>
 pw_e r92 (fun r94 =>
 (if r94 < 0 then
 (pw_l (0 : Int32) fun z96 =>
 pw_c (np_inb (u24 + 3) (pw_len u20)) <|
 pw_l (pw_up S89 u20 u21 (upd (S89 u20 u21) ((u24 + 3) : Int32).toNatClampNeg z72)) fun S97 =>
 if z96 = 0 then
 (some (S97, 0))
 else
 (pw_b (m_X11_progress S97 u17 u19) fun S100 r103 =>
 pw_e r103 (fun r105 =>
 (pw_c (np_inb (u24 + 2) (pw_len u20)) <|
 pw_c (np_inb (u24 + 1) (pw_len u20)) <|
 if r105 = (((10000 * (S100 u20 u21 ((u24 + 2) : Int32).toNatClampNeg)) + (1000 * z72)) + (S100 u20 u21 ((u24 + 1) : Int32).toNatClampNeg)) then
 (pw_c (np_inb u24 (pw_len u20)) <|
 pw_b (m_L_isLine S100 u17 ((S100 u20 u21 (u24 : Int32).toNatClampNeg) - 1) u19 z58 u26 u20 u21) fun S107 r110 =>
 if r110 = 0 then
 (some (S107, 0))
 else
 (some (S107, 1)))
 else
 (some (S100, 0)))) (fun _ => none)))
 else
 (pw_l (1 : Int32) fun z112 =>
 pw_c (np_inb (u24 + 3) (pw_len u20)) <|
 pw_l (pw_up S89 u20 u21 (upd (S89 u20 u21) ((u24 + 3) : Int32).toNatClampNeg z72)) fun S113 =>
 if z112 = 0 then
 (some (S113, 0))
 else
 (pw_b (m_X11_progress S113 u17 u19) fun S116 r119 =>
 pw_e r119 (fun r121 =>
 (pw_c (np_inb (u24 + 2) (pw_len u20)) <|
 pw_c (np_inb (u24 + 1) (pw_len u20)) <|
 if r121 = (((10000 * (S116 u20 u21 ((u24 + 2) : Int32).toNatClampNeg)) + (1000 * z72)) + (S116 u20 u21 ((u24 + 1) : Int32).toNatClampNeg)) then
 (pw_c (np_inb u24 (pw_len u20)) <|
 pw_b (m_L_isLine S116 u17 ((S116 u20 u21 (u24 : Int32).toNatClampNeg) - 1) u19 z58 u26 u20 u21) fun S123 r126 =>
 if r126 = 0 then
 (some (S123, 0))
 else
 (some (S123, 1)))
 else
 (some (S116, 0)))) (fun _ => none))))) (fun _ => none))
 else
 (pw_l (0 : Int32) fun z128 =>
 pw_c (np_inb (u24 + 3) (pw_len u20)) <|
 pw_l (pw_up S65 u20 u21 (upd (S65 u20 u21) ((u24 + 3) : Int32).toNatClampNeg z72)) fun S129 =>
 if z128 = 0 then
 (some (S129, 0))
 else
 (pw_b (m_X11_progress S129 u17 u19) fun S132 r135 =>
 pw_e r135 (fun r137 =>
 (pw_c (np_inb (u24 + 2) (pw_len u20)) <|
 pw_c (np_inb (u24 + 1) (pw_len u20)) <|
 if r137 = (((10000 * (S132 u20 u21 ((u24 + 2) : Int32).toNatClampNeg)) + (1000 * z72)) + (S132 u20 u21 ((u24 + 1) : Int32).toNatClampNeg)) then
 (pw_c (np_inb u24 (pw_len u20)) <|
 pw_b (m_L_isLine S132 u17 ((S132 u20 u21 (u24 : Int32).toNatClampNeg) - 1) u19 z58 u26 u20 u21) fun S139 r142 =>
 if r142 = 0 then
 (some (S139, 0))
 else
 (some (S139, 1)))
 else
 (some (S132, 0)))) (fun _ => none)))))) (fun _ => none))
 else
 (pw_c (np_inb (u24 + 4) (pw_len u20)) <|
 pw_b (m_L_asks S59 u17 4 u19 (S59 u20 u21 ((u24 + 4) : Int32).toNatClampNeg) 0) fun S144 r147 =>
 pw_l (r147 : Int32) fun z149 =>
 pw_c (np_inb (u24 + 4) (pw_len u20)) <|
 pw_c (np_inb (u24 + 4) (pw_len u20)) <|
 pw_l (pw_up S144 u20 u21 (upd (S144 u20 u21) ((u24 + 4) : Int32).toNatClampNeg ((S144 u20 u21 ((u24 + 4) : Int32).toNatClampNeg) + 1))) fun S150 =>
 if z35 = 0 then
 (if 100 < (z149 / 1000000) then
 (some (S150, 0))
 else
 (pw_c (np_inb (u24 + 1) (pw_len u20)) <|
 if (z149 - z149 / 1000000 * 1000000) = ((1000 * z58) + (S150 u20 u21 ((u24 + 1) : Int32).toNatClampNeg)) then
 (pw_c (np_inb (u24 + 4) (pw_len u20)) <|
 pw_b (m_L_asks S150 u17 4 u19 (S150 u20 u21 ((u24 + 4) : Int32).toNatClampNeg) 0) fun S153 r156 =>
 if r156 = (-70007) then
 (some (S153, 1))
 else
 (some (S153, 0)))
 else
 (some (S150, 0))))
 else
 (some (S150, 0))))
 else
 (pw_c (np_inb (u24 + 1) (pw_len u20)) <|
 pw_l (pw_up S30 u20 u21 (upd (S30 u20 u21) ((u24 + 1) : Int32).toNatClampNeg (u26 + 1))) fun S158 =>
 if z35 = 1 then
 (pw_c (np_inb (u24 + 2) (pw_len u20)) <|
 pw_c (np_inb (u24 + 2) (pw_len u20)) <|
 pw_l (pw_up S158 u20 u21 (upd (S158 u20 u21) ((u24 + 2) : Int32).toNatClampNeg ((S158 u20 u21 ((u24 + 2) : Int32).toNatClampNeg) + 1))) fun S161 =>
 pw_b (m_X11_progress S161 u17 u19) fun S164 r167 =>
 pw_e r167 (fun r169 =>
 (pw_l (((r169 / 1000) - (r169 / 1000) / 10 * 10) : Int32) fun z171 =>
 pw_c (np_inb (u24 + 3) (pw_len u20)) <|
 if z171 = (S164 u20 u21 ((u24 + 3) : Int32).toNatClampNeg) then
 (pw_l (1 : Int32) fun z172 =>
 pw_c (np_inb (u24 + 3) (pw_len u20)) <|
 pw_l (pw_up S164 u20 u21 (upd (S164 u20 u21) ((u24 + 3) : Int32).toNatClampNeg z171)) fun S173 =>
 if z172 = 0 then
 (some (S173, 0))
 else
 (pw_b (m_X11_progress S173 u17 u19) fun S176 r179 =>
 pw_e r179 (fun r181 =>
 (pw_c (np_inb (u24 + 2) (pw_len u20)) <|
 pw_c (np_inb (u24 + 1) (pw_len u20)) <|
 if r181 = (((10000 * (S176 u20 u21 ((u24 + 2) : Int32).toNatClampNeg)) + (1000 * z171)) + (S176 u20 u21 ((u24 + 1) : Int32).toNatClampNeg)) then
 (pw_c (np_inb u24 (pw_len u20)) <|
 pw_b (m_L_isLine S176 u17 ((S176 u20 u21 (u24 : Int32).toNatClampNeg) - 1) u19 z58 u26 u20 u21) fun S183 r186 =>
 if r186 = 0 then
 (some (S183, 0))
 else
 (some (S183, 1)))
 else
 (some (S176, 0)))) (fun _ => none)))
 else
 (pw_c (np_inb (u24 + 3) (pw_len u20)) <|
 if z171 = ((S164 u20 u21 ((u24 + 3) : Int32).toNatClampNeg) + 1) then
 (pw_c (np_inb u24 (pw_len u20)) <|
 pw_b (m_X11_sure S164 u17 ((S164 u20 u21 (u24 : Int32).toNatClampNeg) - 1)) fun S188 r191 =>
 pw_e r191 (fun r193 =>
 (if r193 < 0 then
 (pw_l (0 : Int32) fun z195 =>
 pw_c (np_inb (u24 + 3) (pw_len u20)) <|
 pw_l (pw_up S188 u20 u21 (upd (S188 u20 u21) ((u24 + 3) : Int32).toNatClampNeg z171)) fun S196 =>
 if z195 = 0 then
 (some (S196, 0))
 else
 (pw_b (m_X11_progress S196 u17 u19) fun S199 r202 =>
 pw_e r202 (fun r204 =>
 (pw_c (np_inb (u24 + 2) (pw_len u20)) <|
 pw_c (np_inb (u24 + 1) (pw_len u20)) <|
 if r204 = (((10000 * (S199 u20 u21 ((u24 + 2) : Int32).toNatClampNeg)) + (1000 * z171)) + (S199 u20 u21 ((u24 + 1) : Int32).toNatClampNeg)) then
 (pw_c (np_inb u24 (pw_len u20)) <|
 pw_b (m_L_isLine S199 u17 ((S199 u20 u21 (u24 : Int32).toNatClampNeg) - 1) u19 z58 u26 u20 u21) fun S206 r209 =>
 if r209 = 0 then
 (some (S206, 0))
 else
 (some (S206, 1)))
 else
 (some (S199, 0)))) (fun _ => none)))
 else
 (pw_l (1 : Int32) fun z211 =>
 pw_c (np_inb (u24 + 3) (pw_len u20)) <|
 pw_l (pw_up S188 u20 u21 (upd (S188 u20 u21) ((u24 + 3) : Int32).toNatClampNeg z171)) fun S212 =>
 if z211 = 0 then
 (some (S212, 0))
 else
 (pw_b (m_X11_progress S212 u17 u19) fun S215 r218 =>
 pw_e r218 (fun r220 =>
 (pw_c (np_inb (u24 + 2) (pw_len u20)) <|
 pw_c (np_inb (u24 + 1) (pw_len u20)) <|
 if r220 = (((10000 * (S215 u20 u21 ((u24 + 2) : Int32).toNatClampNeg)) + (1000 * z171)) + (S215 u20 u21 ((u24 + 1) : Int32).toNatClampNeg)) then
 (pw_c (np_inb u24 (pw_len u20)) <|
 pw_b (m_L_isLine S215 u17 ((S215 u20 u21 (u24 : Int32).toNatClampNeg) - 1) u19 z58 u26 u20 u21) fun S222 r225 =>
 if r225 = 0 then
 (some (S222, 0))
 else
 (some (S222, 1)))
 else
 (some (S215, 0)))) (fun _ => none))))) (fun _ => none))
 else
 (pw_l (0 : Int32) fun z227 =>
 pw_c (np_inb (u24 + 3) (pw_len u20)) <|
 pw_l (pw_up S164 u20 u21 (upd (S164 u20 u21) ((u24 + 3) : Int32).toNatClampNeg z171)) fun S228 =>
 if z227 = 0 then
 (some (S228, 0))
 else
 (pw_b (m_X11_progress S228 u17 u19) fun S231 r234 =>
 pw_e r234 (fun r236 =>
 (pw_c (np_inb (u24 + 2) (pw_len u20)) <|
 pw_c (np_inb (u24 + 1) (pw_len u20)) <|
 if r236 = (((10000 * (S231 u20 u21 ((u24 + 2) : Int32).toNatClampNeg)) + (1000 * z171)) + (S231 u20 u21 ((u24 + 1) : Int32).toNatClampNeg)) then
 (pw_c (np_inb u24 (pw_len u20)) <|
 pw_b (m_L_isLine S231 u17 ((S231 u20 u21 (u24 : Int32).toNatClampNeg) - 1) u19 z58 u26 u20 u21) fun S238 r241 =>
 if r241 = 0 then
 (some (S238, 0))
 else
 (some (S238, 1)))
 else
 (some (S231, 0)))) (fun _ => none)))))) (fun _ => none))
 else
 (pw_c (np_inb (u24 + 4) (pw_len u20)) <|
 pw_b (m_L_asks S158 u17 4 u19 (S158 u20 u21 ((u24 + 4) : Int32).toNatClampNeg) 0) fun S243 r246 =>
 pw_l (r246 : Int32) fun z248 =>
 pw_c (np_inb (u24 + 4) (pw_len u20)) <|
 pw_c (np_inb (u24 + 4) (pw_len u20)) <|
 pw_l (pw_up S243 u20 u21 (upd (S243 u20 u21) ((u24 + 4) : Int32).toNatClampNeg ((S243 u20 u21 ((u24 + 4) : Int32).toNatClampNeg) + 1))) fun S249 =>
 if z35 = 0 then
 (if 100 < (z248 / 1000000) then
 (some (S249, 0))
 else
 (pw_c (np_inb (u24 + 1) (pw_len u20)) <|
 if (z248 - z248 / 1000000 * 1000000) = ((1000 * z58) + (S249 u20 u21 ((u24 + 1) : Int32).toNatClampNeg)) then
 (pw_c (np_inb (u24 + 4) (pw_len u20)) <|
 pw_b (m_L_asks S249 u17 4 u19 (S249 u20 u21 ((u24 + 4) : Int32).toNatClampNeg) 0) fun S252 r255 =>
 if r255 = (-70007) then
 (some (S252, 1))
 else
 (some (S252, 0)))
 else
 (some (S249, 0))))
 else
 (some (S249, 0)))))))
 else
 (if z43 = 0 then
 (if z35 = (-2) then
 (pw_b (m_X11_progress S30 u17 u19) fun S257 r260 =>
 pw_e r260 (fun r262 =>
 (pw_c (np_inb (u24 + 2) (pw_len u20)) <|
 pw_c (np_inb (u24 + 3) (pw_len u20)) <|
 if 9 ≤ (S257 u20 u21 ((u24 + 3) : Int32).toNatClampNeg) then
 (pw_c (np_inb (u24 + 1) (pw_len u20)) <|
 if r262 = (((10000 * (S257 u20 u21 ((u24 + 2) : Int32).toNatClampNeg)) + 9000) + (S257 u20 u21 ((u24 + 1) : Int32).toNatClampNeg)) then
 (some (S257, 1))
 else
 (some (S257, 0)))
 else
 (pw_c (np_inb (u24 + 3) (pw_len u20)) <|
 pw_c (np_inb (u24 + 1) (pw_len u20)) <|
 if r262 = (((10000 * (S257 u20 u21 ((u24 + 2) : Int32).toNatClampNeg)) + (1000 * (S257 u20 u21 ((u24 + 3) : Int32).toNatClampNeg))) + (S257 u20 u21 ((u24 + 1) : Int32).toNatClampNeg)) then
 (some (S257, 1))
 else
 (some (S257, 0))))) (fun _ => none))
 else
 (some (S30, 0)))
 else
 (if z35 = (-1) then
 (pw_b (m_X11_progress S30 u17 u19) fun S264 r267 =>
 pw_e r267 (fun r269 =>
 (pw_c (np_inb (u24 + 2) (pw_len u20)) <|
 pw_c (np_inb (u24 + 3) (pw_len u20)) <|
 if 9 ≤ (S264 u20 u21 ((u24 + 3) : Int32).toNatClampNeg) then
 (pw_c (np_inb (u24 + 1) (pw_len u20)) <|
 if r269 = (((10000 * (S264 u20 u21 ((u24 + 2) : Int32).toNatClampNeg)) + 9000) + (S264 u20 u21 ((u24 + 1) : Int32).toNatClampNeg)) then
 (some (S264, 1))
 else
 (some (S264, 0)))
 else
 (pw_c (np_inb (u24 + 3) (pw_len u20)) <|
 pw_c (np_inb (u24 + 1) (pw_len u20)) <|
 if r269 = (((10000 * (S264 u20 u21 ((u24 + 2) : Int32).toNatClampNeg)) + (1000 * (S264 u20 u21 ((u24 + 3) : Int32).toNatClampNeg))) + (S264 u20 u21 ((u24 + 1) : Int32).toNatClampNeg)) then
 (some (S264, 1))
 else
 (some (S264, 0))))) (fun _ => none))
 else
 (some (S30, 0)))))
 else
 (pw_c (np_inb (u24 + 2) (pw_len u20)) <|
 if (S30 u20 u21 ((u24 + 2) : Int32).toNatClampNeg) = 24 then
 (if z35 = (-70008) then
 (some (S30, 1))
 else
 (some (S30, 0)))
 else
 (pw_c (np_inb (u24 + 1) (pw_len u20)) <|
 pw_l ((S30 u20 u21 ((u24 + 1) : Int32).toNatClampNeg) : Int32) fun z271 =>
 if u25 ≤ u26 then
 (pw_c (np_inb (u24 + 1) (pw_len u20)) <|
 pw_l (pw_up S30 u20 u21 (upd (S30 u20 u21) ((u24 + 1) : Int32).toNatClampNeg u26)) fun S272 =>
 if z35 = 1 then
 (pw_c (np_inb (u24 + 2) (pw_len u20)) <|
 pw_c (np_inb (u24 + 2) (pw_len u20)) <|
 pw_l (pw_up S272 u20 u21 (upd (S272 u20 u21) ((u24 + 2) : Int32).toNatClampNeg ((S272 u20 u21 ((u24 + 2) : Int32).toNatClampNeg) + 1))) fun S275 =>
 pw_b (m_X11_progress S275 u17 u19) fun S278 r281 =>
 pw_e r281 (fun r283 =>
 (pw_l (((r283 / 1000) - (r283 / 1000) / 10 * 10) : Int32) fun z285 =>
 pw_c (np_inb (u24 + 3) (pw_len u20)) <|
 if z285 = (S278 u20 u21 ((u24 + 3) : Int32).toNatClampNeg) then
 (pw_l (1 : Int32) fun z286 =>
 pw_c (np_inb (u24 + 3) (pw_len u20)) <|
 pw_l (pw_up S278 u20 u21 (upd (S278 u20 u21) ((u24 + 3) : Int32).toNatClampNeg z285)) fun S287 =>
 if z286 = 0 then
 (some (S287, 0))
 else
 (pw_b (m_X11_progress S287 u17 u19) fun S290 r293 =>
 pw_e r293 (fun r295 =>
 (pw_c (np_inb (u24 + 2) (pw_len u20)) <|
 pw_c (np_inb (u24 + 1) (pw_len u20)) <|
 if r295 = (((10000 * (S290 u20 u21 ((u24 + 2) : Int32).toNatClampNeg)) + (1000 * z285)) + (S290 u20 u21 ((u24 + 1) : Int32).toNatClampNeg)) then
 (pw_c (np_inb u24 (pw_len u20)) <|
 pw_b (m_L_isLine S290 u17 ((S290 u20 u21 (u24 : Int32).toNatClampNeg) - 1) u19 z271 u26 u20 u21) fun S297 r300 =>
 if r300 = 0 then
 (some (S297, 0))
 else
 (some (S297, 1)))
 else
 (some (S290, 0)))) (fun _ => none)))
 else
 (pw_c (np_inb (u24 + 3) (pw_len u20)) <|
 if z285 = ((S278 u20 u21 ((u24 + 3) : Int32).toNatClampNeg) + 1) then
 (pw_c (np_inb u24 (pw_len u20)) <|
 pw_b (m_X11_sure S278 u17 ((S278 u20 u21 (u24 : Int32).toNatClampNeg) - 1)) fun S302 r305 =>
 pw_e r305 (fun r307 =>
 (if r307 < 0 then
 (pw_l (0 : Int32) fun z309 =>
 pw_c (np_inb (u24 + 3) (pw_len u20)) <|
 pw_l (pw_up S302 u20 u21 (upd (S302 u20 u21) ((u24 + 3) : Int32).toNatClampNeg z285)) fun S310 =>
 if z309 = 0 then
 (some (S310, 0))
 else
 (pw_b (m_X11_progress S310 u17 u19) fun S313 r316 =>
 pw_e r316 (fun r318 =>
 (pw_c (np_inb (u24 + 2) (pw_len u20)) <|
 pw_c (np_inb (u24 + 1) (pw_len u20)) <|
 if r318 = (((10000 * (S313 u20 u21 ((u24 + 2) : Int32).toNatClampNeg)) + (1000 * z285)) + (S313 u20 u21 ((u24 + 1) : Int32).toNatClampNeg)) then
 (pw_c (np_inb u24 (pw_len u20)) <|
 pw_b (m_L_isLine S313 u17 ((S313 u20 u21 (u24 : Int32).toNatClampNeg) - 1) u19 z271 u26 u20 u21) fun S320 r323 =>
 if r323 = 0 then
 (some (S320, 0))
 else
 (some (S320, 1)))
 else
 (some (S313, 0)))) (fun _ => none)))
 else
 (pw_l (1 : Int32) fun z325 =>
 pw_c (np_inb (u24 + 3) (pw_len u20)) <|
 pw_l (pw_up S302 u20 u21 (upd (S302 u20 u21) ((u24 + 3) : Int32).toNatClampNeg z285)) fun S326 =>
 if z325 = 0 then
 (some (S326, 0))
 else
 (pw_b (m_X11_progress S326 u17 u19) fun S329 r332 =>
 pw_e r332 (fun r334 =>
 (pw_c (np_inb (u24 + 2) (pw_len u20)) <|
 pw_c (np_inb (u24 + 1) (pw_len u20)) <|
 if r334 = (((10000 * (S329 u20 u21 ((u24 + 2) : Int32).toNatClampNeg)) + (1000 * z285)) + (S329 u20 u21 ((u24 + 1) : Int32).toNatClampNeg)) then
 (pw_c (np_inb u24 (pw_len u20)) <|
 pw_b (m_L_isLine S329 u17 ((S329 u20 u21 (u24 : Int32).toNatClampNeg) - 1) u19 z271 u26 u20 u21) fun S336 r339 =>
 if r339 = 0 then
 (some (S336, 0))
 else
 (some (S336, 1)))
 else
 (some (S329, 0)))) (fun _ => none))))) (fun _ => none))
 else
 (pw_l (0 : Int32) fun z341 =>
 pw_c (np_inb (u24 + 3) (pw_len u20)) <|
 pw_l (pw_up S278 u20 u21 (upd (S278 u20 u21) ((u24 + 3) : Int32).toNatClampNeg z285)) fun S342 =>
 if z341 = 0 then
 (some (S342, 0))
 else
 (pw_b (m_X11_progress S342 u17 u19) fun S345 r348 =>
 pw_e r348 (fun r350 =>
 (pw_c (np_inb (u24 + 2) (pw_len u20)) <|
 pw_c (np_inb (u24 + 1) (pw_len u20)) <|
 if r350 = (((10000 * (S345 u20 u21 ((u24 + 2) : Int32).toNatClampNeg)) + (1000 * z285)) + (S345 u20 u21 ((u24 + 1) : Int32).toNatClampNeg)) then
 (pw_c (np_inb u24 (pw_len u20)) <|
 pw_b (m_L_isLine S345 u17 ((S345 u20 u21 (u24 : Int32).toNatClampNeg) - 1) u19 z271 u26 u20 u21) fun S352 r355 =>
 if r355 = 0 then
 (some (S352, 0))
 else
 (some (S352, 1)))
 else
 (some (S345, 0)))) (fun _ => none)))))) (fun _ => none))
 else
 (pw_c (np_inb (u24 + 4) (pw_len u20)) <|
 pw_b (m_L_asks S272 u17 4 u19 (S272 u20 u21 ((u24 + 4) : Int32).toNatClampNeg) 0) fun S357 r360 =>
 pw_l (r360 : Int32) fun z362 =>
 pw_c (np_inb (u24 + 4) (pw_len u20)) <|
 pw_c (np_inb (u24 + 4) (pw_len u20)) <|
 pw_l (pw_up S357 u20 u21 (upd (S357 u20 u21) ((u24 + 4) : Int32).toNatClampNeg ((S357 u20 u21 ((u24 + 4) : Int32).toNatClampNeg) + 1))) fun S363 =>
 if z35 = 0 then
 (if 100 < (z362 / 1000000) then
 (some (S363, 0))
 else
 (pw_c (np_inb (u24 + 1) (pw_len u20)) <|
 if (z362 - z362 / 1000000 * 1000000) = ((1000 * z271) + (S363 u20 u21 ((u24 + 1) : Int32).toNatClampNeg)) then
 (pw_c (np_inb (u24 + 4) (pw_len u20)) <|
 pw_b (m_L_asks S363 u17 4 u19 (S363 u20 u21 ((u24 + 4) : Int32).toNatClampNeg) 0) fun S366 r369 =>
 if r369 = (-70007) then
 (some (S366, 1))
 else
 (some (S366, 0)))
 else
 (some (S363, 0))))
 else
 (some (S363, 0))))
 else
 (pw_c (np_inb (u24 + 1) (pw_len u20)) <|
 pw_l (pw_up S30 u20 u21 (upd (S30 u20 u21) ((u24 + 1) : Int32).toNatClampNeg (u26 + 1))) fun S371 =>
 if z35 = 1 then
 (pw_c (np_inb (u24 + 2) (pw_len u20)) <|
 pw_c (np_inb (u24 + 2) (pw_len u20)) <|
 pw_l (pw_up S371 u20 u21 (upd (S371 u20 u21) ((u24 + 2) : Int32).toNatClampNeg ((S371 u20 u21 ((u24 + 2) : Int32).toNatClampNeg) + 1))) fun S374 =>
 pw_b (m_X11_progress S374 u17 u19) fun S377 r380 =>
 pw_e r380 (fun r382 =>
 (pw_l (((r382 / 1000) - (r382 / 1000) / 10 * 10) : Int32) fun z384 =>
 pw_c (np_inb (u24 + 3) (pw_len u20)) <|
 if z384 = (S377 u20 u21 ((u24 + 3) : Int32).toNatClampNeg) then
 (pw_l (1 : Int32) fun z385 =>
 pw_c (np_inb (u24 + 3) (pw_len u20)) <|
 pw_l (pw_up S377 u20 u21 (upd (S377 u20 u21) ((u24 + 3) : Int32).toNatClampNeg z384)) fun S386 =>
 if z385 = 0 then
 (some (S386, 0))
 else
 (pw_b (m_X11_progress S386 u17 u19) fun S389 r392 =>
 pw_e r392 (fun r394 =>
 (pw_c (np_inb (u24 + 2) (pw_len u20)) <|
 pw_c (np_inb (u24 + 1) (pw_len u20)) <|
 if r394 = (((10000 * (S389 u20 u21 ((u24 + 2) : Int32).toNatClampNeg)) + (1000 * z384)) + (S389 u20 u21 ((u24 + 1) : Int32).toNatClampNeg)) then
 (pw_c (np_inb u24 (pw_len u20)) <|
 pw_b (m_L_isLine S389 u17 ((S389 u20 u21 (u24 : Int32).toNatClampNeg) - 1) u19 z271 u26 u20 u21) fun S396 r399 =>
 if r399 = 0 then
 (some (S396, 0))
 else
 (some (S396, 1)))
 else
 (some (S389, 0)))) (fun _ => none)))
 else
 (pw_c (np_inb (u24 + 3) (pw_len u20)) <|
 if z384 = ((S377 u20 u21 ((u24 + 3) : Int32).toNatClampNeg) + 1) then
 (pw_c (np_inb u24 (pw_len u20)) <|
 pw_b (m_X11_sure S377 u17 ((S377 u20 u21 (u24 : Int32).toNatClampNeg) - 1)) fun S401 r404 =>
 pw_e r404 (fun r406 =>
 (if r406 < 0 then
 (pw_l (0 : Int32) fun z408 =>
 pw_c (np_inb (u24 + 3) (pw_len u20)) <|
 pw_l (pw_up S401 u20 u21 (upd (S401 u20 u21) ((u24 + 3) : Int32).toNatClampNeg z384)) fun S409 =>
 if z408 = 0 then
 (some (S409, 0))
 else
 (pw_b (m_X11_progress S409 u17 u19) fun S412 r415 =>
 pw_e r415 (fun r417 =>
 (pw_c (np_inb (u24 + 2) (pw_len u20)) <|
 pw_c (np_inb (u24 + 1) (pw_len u20)) <|
 if r417 = (((10000 * (S412 u20 u21 ((u24 + 2) : Int32).toNatClampNeg)) + (1000 * z384)) + (S412 u20 u21 ((u24 + 1) : Int32).toNatClampNeg)) then
 (pw_c (np_inb u24 (pw_len u20)) <|
 pw_b (m_L_isLine S412 u17 ((S412 u20 u21 (u24 : Int32).toNatClampNeg) - 1) u19 z271 u26 u20 u21) fun S419 r422 =>
 if r422 = 0 then
 (some (S419, 0))
 else
 (some (S419, 1)))
 else
 (some (S412, 0)))) (fun _ => none)))
 else
 (pw_l (1 : Int32) fun z424 =>
 pw_c (np_inb (u24 + 3) (pw_len u20)) <|
 pw_l (pw_up S401 u20 u21 (upd (S401 u20 u21) ((u24 + 3) : Int32).toNatClampNeg z384)) fun S425 =>
 if z424 = 0 then
 (some (S425, 0))
 else
 (pw_b (m_X11_progress S425 u17 u19) fun S428 r431 =>
 pw_e r431 (fun r433 =>
 (pw_c (np_inb (u24 + 2) (pw_len u20)) <|
 pw_c (np_inb (u24 + 1) (pw_len u20)) <|
 if r433 = (((10000 * (S428 u20 u21 ((u24 + 2) : Int32).toNatClampNeg)) + (1000 * z384)) + (S428 u20 u21 ((u24 + 1) : Int32).toNatClampNeg)) then
 (pw_c (np_inb u24 (pw_len u20)) <|
 pw_b (m_L_isLine S428 u17 ((S428 u20 u21 (u24 : Int32).toNatClampNeg) - 1) u19 z271 u26 u20 u21) fun S435 r438 =>
 if r438 = 0 then
 (some (S435, 0))
 else
 (some (S435, 1)))
 else
 (some (S428, 0)))) (fun _ => none))))) (fun _ => none))
 else
 (pw_l (0 : Int32) fun z440 =>
 pw_c (np_inb (u24 + 3) (pw_len u20)) <|
 pw_l (pw_up S377 u20 u21 (upd (S377 u20 u21) ((u24 + 3) : Int32).toNatClampNeg z384)) fun S441 =>
 if z440 = 0 then
 (some (S441, 0))
 else
 (pw_b (m_X11_progress S441 u17 u19) fun S444 r447 =>
 pw_e r447 (fun r449 =>
 (pw_c (np_inb (u24 + 2) (pw_len u20)) <|
 pw_c (np_inb (u24 + 1) (pw_len u20)) <|
 if r449 = (((10000 * (S444 u20 u21 ((u24 + 2) : Int32).toNatClampNeg)) + (1000 * z384)) + (S444 u20 u21 ((u24 + 1) : Int32).toNatClampNeg)) then
 (pw_c (np_inb u24 (pw_len u20)) <|
 pw_b (m_L_isLine S444 u17 ((S444 u20 u21 (u24 : Int32).toNatClampNeg) - 1) u19 z271 u26 u20 u21) fun S451 r454 =>
 if r454 = 0 then
 (some (S451, 0))
 else
 (some (S451, 1)))
 else
 (some (S444, 0)))) (fun _ => none)))))) (fun _ => none))
 else
 (pw_c (np_inb (u24 + 4) (pw_len u20)) <|
 pw_b (m_L_asks S371 u17 4 u19 (S371 u20 u21 ((u24 + 4) : Int32).toNatClampNeg) 0) fun S456 r459 =>
 pw_l (r459 : Int32) fun z461 =>
 pw_c (np_inb (u24 + 4) (pw_len u20)) <|
 pw_c (np_inb (u24 + 4) (pw_len u20)) <|
 pw_l (pw_up S456 u20 u21 (upd (S456 u20 u21) ((u24 + 4) : Int32).toNatClampNeg ((S456 u20 u21 ((u24 + 4) : Int32).toNatClampNeg) + 1))) fun S462 =>
 if z35 = 0 then
 (if 100 < (z461 / 1000000) then
 (some (S462, 0))
 else
 (pw_c (np_inb (u24 + 1) (pw_len u20)) <|
 if (z461 - z461 / 1000000 * 1000000) = ((1000 * z271) + (S462 u20 u21 ((u24 + 1) : Int32).toNatClampNeg)) then
 (pw_c (np_inb (u24 + 4) (pw_len u20)) <|
 pw_b (m_L_asks S462 u17 4 u19 (S462 u20 u21 ((u24 + 4) : Int32).toNatClampNeg) 0) fun S465 r468 =>
 if r468 = (-70007) then
 (some (S465, 1))
 else
 (some (S465, 0)))
 else
 (some (S462, 0))))
 else
 (some (S462, 0)))))))
 else
 (pw_l (0 : Int32) fun z470 =>
 if u26 = u25 then
 (if z470 = 0 then
 (pw_c (np_inb (u24 + 1) (pw_len u20)) <|
 if (S30 u20 u21 ((u24 + 1) : Int32).toNatClampNeg) = u25 then
 (if z470 = 0 then
 (if z35 = (-2) then
 (pw_b (m_X11_progress S30 u17 u19) fun S471 r474 =>
 pw_e r474 (fun r476 =>
 (pw_c (np_inb (u24 + 2) (pw_len u20)) <|
 pw_c (np_inb (u24 + 3) (pw_len u20)) <|
 if 9 ≤ (S471 u20 u21 ((u24 + 3) : Int32).toNatClampNeg) then
 (pw_c (np_inb (u24 + 1) (pw_len u20)) <|
 if r476 = (((10000 * (S471 u20 u21 ((u24 + 2) : Int32).toNatClampNeg)) + 9000) + (S471 u20 u21 ((u24 + 1) : Int32).toNatClampNeg)) then
 (some (S471, 1))
 else
 (some (S471, 0)))
 else
 (pw_c (np_inb (u24 + 3) (pw_len u20)) <|
 pw_c (np_inb (u24 + 1) (pw_len u20)) <|
 if r476 = (((10000 * (S471 u20 u21 ((u24 + 2) : Int32).toNatClampNeg)) + (1000 * (S471 u20 u21 ((u24 + 3) : Int32).toNatClampNeg))) + (S471 u20 u21 ((u24 + 1) : Int32).toNatClampNeg)) then
 (some (S471, 1))
 else
 (some (S471, 0))))) (fun _ => none))
 else
 (some (S30, 0)))
 else
 (if z35 = (-1) then
 (pw_b (m_X11_progress S30 u17 u19) fun S478 r481 =>
 pw_e r481 (fun r483 =>
 (pw_c (np_inb (u24 + 2) (pw_len u20)) <|
 pw_c (np_inb (u24 + 3) (pw_len u20)) <|
 if 9 ≤ (S478 u20 u21 ((u24 + 3) : Int32).toNatClampNeg) then
 (pw_c (np_inb (u24 + 1) (pw_len u20)) <|
 if r483 = (((10000 * (S478 u20 u21 ((u24 + 2) : Int32).toNatClampNeg)) + 9000) + (S478 u20 u21 ((u24 + 1) : Int32).toNatClampNeg)) then
 (some (S478, 1))
 else
 (some (S478, 0)))
 else
 (pw_c (np_inb (u24 + 3) (pw_len u20)) <|
 pw_c (np_inb (u24 + 1) (pw_len u20)) <|
 if r483 = (((10000 * (S478 u20 u21 ((u24 + 2) : Int32).toNatClampNeg)) + (1000 * (S478 u20 u21 ((u24 + 3) : Int32).toNatClampNeg))) + (S478 u20 u21 ((u24 + 1) : Int32).toNatClampNeg)) then
 (some (S478, 1))
 else
 (some (S478, 0))))) (fun _ => none))
 else
 (some (S30, 0))))
 else
 (pw_c (np_inb (u24 + 2) (pw_len u20)) <|
 if (S30 u20 u21 ((u24 + 2) : Int32).toNatClampNeg) = 24 then
 (if z35 = (-70008) then
 (some (S30, 1))
 else
 (some (S30, 0)))
 else
 (pw_c (np_inb (u24 + 1) (pw_len u20)) <|
 pw_l ((S30 u20 u21 ((u24 + 1) : Int32).toNatClampNeg) : Int32) fun z485 =>
 if u25 ≤ u26 then
 (pw_c (np_inb (u24 + 1) (pw_len u20)) <|
 pw_l (pw_up S30 u20 u21 (upd (S30 u20 u21) ((u24 + 1) : Int32).toNatClampNeg u26)) fun S486 =>
 if z35 = 1 then
 (pw_c (np_inb (u24 + 2) (pw_len u20)) <|
 pw_c (np_inb (u24 + 2) (pw_len u20)) <|
 pw_l (pw_up S486 u20 u21 (upd (S486 u20 u21) ((u24 + 2) : Int32).toNatClampNeg ((S486 u20 u21 ((u24 + 2) : Int32).toNatClampNeg) + 1))) fun S489 =>
 pw_b (m_X11_progress S489 u17 u19) fun S492 r495 =>
 pw_e r495 (fun r497 =>
 (pw_l (((r497 / 1000) - (r497 / 1000) / 10 * 10) : Int32) fun z499 =>
 pw_c (np_inb (u24 + 3) (pw_len u20)) <|
 if z499 = (S492 u20 u21 ((u24 + 3) : Int32).toNatClampNeg) then
 (pw_l (1 : Int32) fun z500 =>
 pw_c (np_inb (u24 + 3) (pw_len u20)) <|
 pw_l (pw_up S492 u20 u21 (upd (S492 u20 u21) ((u24 + 3) : Int32).toNatClampNeg z499)) fun S501 =>
 if z500 = 0 then
 (some (S501, 0))
 else
 (pw_b (m_X11_progress S501 u17 u19) fun S504 r507 =>
 pw_e r507 (fun r509 =>
 (pw_c (np_inb (u24 + 2) (pw_len u20)) <|
 pw_c (np_inb (u24 + 1) (pw_len u20)) <|
 if r509 = (((10000 * (S504 u20 u21 ((u24 + 2) : Int32).toNatClampNeg)) + (1000 * z499)) + (S504 u20 u21 ((u24 + 1) : Int32).toNatClampNeg)) then
 (pw_c (np_inb u24 (pw_len u20)) <|
 pw_b (m_L_isLine S504 u17 ((S504 u20 u21 (u24 : Int32).toNatClampNeg) - 1) u19 z485 u26 u20 u21) fun S511 r514 =>
 if r514 = 0 then
 (some (S511, 0))
 else
 (some (S511, 1)))
 else
 (some (S504, 0)))) (fun _ => none)))
 else
 (pw_c (np_inb (u24 + 3) (pw_len u20)) <|
 if z499 = ((S492 u20 u21 ((u24 + 3) : Int32).toNatClampNeg) + 1) then
 (pw_c (np_inb u24 (pw_len u20)) <|
 pw_b (m_X11_sure S492 u17 ((S492 u20 u21 (u24 : Int32).toNatClampNeg) - 1)) fun S516 r519 =>
 pw_e r519 (fun r521 =>
 (if r521 < 0 then
 (pw_l (0 : Int32) fun z523 =>
 pw_c (np_inb (u24 + 3) (pw_len u20)) <|
 pw_l (pw_up S516 u20 u21 (upd (S516 u20 u21) ((u24 + 3) : Int32).toNatClampNeg z499)) fun S524 =>
 if z523 = 0 then
 (some (S524, 0))
 else
 (pw_b (m_X11_progress S524 u17 u19) fun S527 r530 =>
 pw_e r530 (fun r532 =>
 (pw_c (np_inb (u24 + 2) (pw_len u20)) <|
 pw_c (np_inb (u24 + 1) (pw_len u20)) <|
 if r532 = (((10000 * (S527 u20 u21 ((u24 + 2) : Int32).toNatClampNeg)) + (1000 * z499)) + (S527 u20 u21 ((u24 + 1) : Int32).toNatClampNeg)) then
 (pw_c (np_inb u24 (pw_len u20)) <|
 pw_b (m_L_isLine S527 u17 ((S527 u20 u21 (u24 : Int32).toNatClampNeg) - 1) u19 z485 u26 u20 u21) fun S534 r537 =>
 if r537 = 0 then
 (some (S534, 0))
 else
 (some (S534, 1)))
 else
 (some (S527, 0)))) (fun _ => none)))
 else
 (pw_l (1 : Int32) fun z539 =>
 pw_c (np_inb (u24 + 3) (pw_len u20)) <|
 pw_l (pw_up S516 u20 u21 (upd (S516 u20 u21) ((u24 + 3) : Int32).toNatClampNeg z499)) fun S540 =>
 if z539 = 0 then
 (some (S540, 0))
 else
 (pw_b (m_X11_progress S540 u17 u19) fun S543 r546 =>
 pw_e r546 (fun r548 =>
 (pw_c (np_inb (u24 + 2) (pw_len u20)) <|
 pw_c (np_inb (u24 + 1) (pw_len u20)) <|
 if r548 = (((10000 * (S543 u20 u21 ((u24 + 2) : Int32).toNatClampNeg)) + (1000 * z499)) + (S543 u20 u21 ((u24 + 1) : Int32).toNatClampNeg)) then
 (pw_c (np_inb u24 (pw_len u20)) <|
 pw_b (m_L_isLine S543 u17 ((S543 u20 u21 (u24 : Int32).toNatClampNeg) - 1) u19 z485 u26 u20 u21) fun S550 r553 =>
 if r553 = 0 then
 (some (S550, 0))
 else
 (some (S550, 1)))
 else
 (some (S543, 0)))) (fun _ => none))))) (fun _ => none))
 else
 (pw_l (0 : Int32) fun z555 =>
 pw_c (np_inb (u24 + 3) (pw_len u20)) <|
 pw_l (pw_up S492 u20 u21 (upd (S492 u20 u21) ((u24 + 3) : Int32).toNatClampNeg z499)) fun S556 =>
 if z555 = 0 then
 (some (S556, 0))
 else
 (pw_b (m_X11_progress S556 u17 u19) fun S559 r562 =>
 pw_e r562 (fun r564 =>
 (pw_c (np_inb (u24 + 2) (pw_len u20)) <|
 pw_c (np_inb (u24 + 1) (pw_len u20)) <|
 if r564 = (((10000 * (S559 u20 u21 ((u24 + 2) : Int32).toNatClampNeg)) + (1000 * z499)) + (S559 u20 u21 ((u24 + 1) : Int32).toNatClampNeg)) then
 (pw_c (np_inb u24 (pw_len u20)) <|
 pw_b (m_L_isLine S559 u17 ((S559 u20 u21 (u24 : Int32).toNatClampNeg) - 1) u19 z485 u26 u20 u21) fun S566 r569 =>
 if r569 = 0 then
 (some (S566, 0))
 else
 (some (S566, 1)))
 else
 (some (S559, 0)))) (fun _ => none)))))) (fun _ => none))
 else
 (pw_c (np_inb (u24 + 4) (pw_len u20)) <|
 pw_b (m_L_asks S486 u17 4 u19 (S486 u20 u21 ((u24 + 4) : Int32).toNatClampNeg) 0) fun S571 r574 =>
 pw_l (r574 : Int32) fun z576 =>
 pw_c (np_inb (u24 + 4) (pw_len u20)) <|
 pw_c (np_inb (u24 + 4) (pw_len u20)) <|
 pw_l (pw_up S571 u20 u21 (upd (S571 u20 u21) ((u24 + 4) : Int32).toNatClampNeg ((S571 u20 u21 ((u24 + 4) : Int32).toNatClampNeg) + 1))) fun S577 =>
 if z35 = 0 then
 (if 100 < (z576 / 1000000) then
 (some (S577, 0))
 else
 (pw_c (np_inb (u24 + 1) (pw_len u20)) <|
 if (z576 - z576 / 1000000 * 1000000) = ((1000 * z485) + (S577 u20 u21 ((u24 + 1) : Int32).toNatClampNeg)) then
 (pw_c (np_inb (u24 + 4) (pw_len u20)) <|
 pw_b (m_L_asks S577 u17 4 u19 (S577 u20 u21 ((u24 + 4) : Int32).toNatClampNeg) 0) fun S580 r583 =>
 if r583 = (-70007) then
 (some (S580, 1))
 else
 (some (S580, 0)))
 else
 (some (S577, 0))))
 else
 (some (S577, 0))))
 else
 (pw_c (np_inb (u24 + 1) (pw_len u20)) <|
 pw_l (pw_up S30 u20 u21 (upd (S30 u20 u21) ((u24 + 1) : Int32).toNatClampNeg (u26 + 1))) fun S585 =>
 if z35 = 1 then
 (pw_c (np_inb (u24 + 2) (pw_len u20)) <|
 pw_c (np_inb (u24 + 2) (pw_len u20)) <|
 pw_l (pw_up S585 u20 u21 (upd (S585 u20 u21) ((u24 + 2) : Int32).toNatClampNeg ((S585 u20 u21 ((u24 + 2) : Int32).toNatClampNeg) + 1))) fun S588 =>
 pw_b (m_X11_progress S588 u17 u19) fun S591 r594 =>
 pw_e r594 (fun r596 =>
 (pw_l (((r596 / 1000) - (r596 / 1000) / 10 * 10) : Int32) fun z598 =>
 pw_c (np_inb (u24 + 3) (pw_len u20)) <|
 if z598 = (S591 u20 u21 ((u24 + 3) : Int32).toNatClampNeg) then
 (pw_l (1 : Int32) fun z599 =>
 pw_c (np_inb (u24 + 3) (pw_len u20)) <|
 pw_l (pw_up S591 u20 u21 (upd (S591 u20 u21) ((u24 + 3) : Int32).toNatClampNeg z598)) fun S600 =>
 if z599 = 0 then
 (some (S600, 0))
 else
 (pw_b (m_X11_progress S600 u17 u19) fun S603 r606 =>
 pw_e r606 (fun r608 =>
 (pw_c (np_inb (u24 + 2) (pw_len u20)) <|
 pw_c (np_inb (u24 + 1) (pw_len u20)) <|
 if r608 = (((10000 * (S603 u20 u21 ((u24 + 2) : Int32).toNatClampNeg)) + (1000 * z598)) + (S603 u20 u21 ((u24 + 1) : Int32).toNatClampNeg)) then
 (pw_c (np_inb u24 (pw_len u20)) <|
 pw_b (m_L_isLine S603 u17 ((S603 u20 u21 (u24 : Int32).toNatClampNeg) - 1) u19 z485 u26 u20 u21) fun S610 r613 =>
 if r613 = 0 then
 (some (S610, 0))
 else
 (some (S610, 1)))
 else
 (some (S603, 0)))) (fun _ => none)))
 else
 (pw_c (np_inb (u24 + 3) (pw_len u20)) <|
 if z598 = ((S591 u20 u21 ((u24 + 3) : Int32).toNatClampNeg) + 1) then
 (pw_c (np_inb u24 (pw_len u20)) <|
 pw_b (m_X11_sure S591 u17 ((S591 u20 u21 (u24 : Int32).toNatClampNeg) - 1)) fun S615 r618 =>
 pw_e r618 (fun r620 =>
 (if r620 < 0 then
 (pw_l (0 : Int32) fun z622 =>
 pw_c (np_inb (u24 + 3) (pw_len u20)) <|
 pw_l (pw_up S615 u20 u21 (upd (S615 u20 u21) ((u24 + 3) : Int32).toNatClampNeg z598)) fun S623 =>
 if z622 = 0 then
 (some (S623, 0))
 else
 (pw_b (m_X11_progress S623 u17 u19) fun S626 r629 =>
 pw_e r629 (fun r631 =>
 (pw_c (np_inb (u24 + 2) (pw_len u20)) <|
 pw_c (np_inb (u24 + 1) (pw_len u20)) <|
 if r631 = (((10000 * (S626 u20 u21 ((u24 + 2) : Int32).toNatClampNeg)) + (1000 * z598)) + (S626 u20 u21 ((u24 + 1) : Int32).toNatClampNeg)) then
 (pw_c (np_inb u24 (pw_len u20)) <|
 pw_b (m_L_isLine S626 u17 ((S626 u20 u21 (u24 : Int32).toNatClampNeg) - 1) u19 z485 u26 u20 u21) fun S633 r636 =>
 if r636 = 0 then
 (some (S633, 0))
 else
 (some (S633, 1)))
 else
 (some (S626, 0)))) (fun _ => none)))
 else
 (pw_l (1 : Int32) fun z638 =>
 pw_c (np_inb (u24 + 3) (pw_len u20)) <|
 pw_l (pw_up S615 u20 u21 (upd (S615 u20 u21) ((u24 + 3) : Int32).toNatClampNeg z598)) fun S639 =>
 if z638 = 0 then
 (some (S639, 0))
 else
 (pw_b (m_X11_progress S639 u17 u19) fun S642 r645 =>
 pw_e r645 (fun r647 =>
 (pw_c (np_inb (u24 + 2) (pw_len u20)) <|
 pw_c (np_inb (u24 + 1) (pw_len u20)) <|
 if r647 = (((10000 * (S642 u20 u21 ((u24 + 2) : Int32).toNatClampNeg)) + (1000 * z598)) + (S642 u20 u21 ((u24 + 1) : Int32).toNatClampNeg)) then
 (pw_c (np_inb u24 (pw_len u20)) <|
 pw_b (m_L_isLine S642 u17 ((S642 u20 u21 (u24 : Int32).toNatClampNeg) - 1) u19 z485 u26 u20 u21) fun S649 r652 =>
 if r652 = 0 then
 (some (S649, 0))
 else
 (some (S649, 1)))
 else
 (some (S642, 0)))) (fun _ => none))))) (fun _ => none))
 else
 (pw_l (0 : Int32) fun z654 =>
 pw_c (np_inb (u24 + 3) (pw_len u20)) <|
 pw_l (pw_up S591 u20 u21 (upd (S591 u20 u21) ((u24 + 3) : Int32).toNatClampNeg z598)) fun S655 =>
 if z654 = 0 then
 (some (S655, 0))
 else
 (pw_b (m_X11_progress S655 u17 u19) fun S658 r661 =>
 pw_e r661 (fun r663 =>
 (pw_c (np_inb (u24 + 2) (pw_len u20)) <|
 pw_c (np_inb (u24 + 1) (pw_len u20)) <|
 if r663 = (((10000 * (S658 u20 u21 ((u24 + 2) : Int32).toNatClampNeg)) + (1000 * z598)) + (S658 u20 u21 ((u24 + 1) : Int32).toNatClampNeg)) then
 (pw_c (np_inb u24 (pw_len u20)) <|
 pw_b (m_L_isLine S658 u17 ((S658 u20 u21 (u24 : Int32).toNatClampNeg) - 1) u19 z485 u26 u20 u21) fun S665 r668 =>
 if r668 = 0 then
 (some (S665, 0))
 else
 (some (S665, 1)))
 else
 (some (S658, 0)))) (fun _ => none)))))) (fun _ => none))
 else
 (pw_c (np_inb (u24 + 4) (pw_len u20)) <|
 pw_b (m_L_asks S585 u17 4 u19 (S585 u20 u21 ((u24 + 4) : Int32).toNatClampNeg) 0) fun S670 r673 =>
 pw_l (r673 : Int32) fun z675 =>
 pw_c (np_inb (u24 + 4) (pw_len u20)) <|
 pw_c (np_inb (u24 + 4) (pw_len u20)) <|
 pw_l (pw_up S670 u20 u21 (upd (S670 u20 u21) ((u24 + 4) : Int32).toNatClampNeg ((S670 u20 u21 ((u24 + 4) : Int32).toNatClampNeg) + 1))) fun S676 =>
 if z35 = 0 then
 (if 100 < (z675 / 1000000) then
 (some (S676, 0))
 else
 (pw_c (np_inb (u24 + 1) (pw_len u20)) <|
 if (z675 - z675 / 1000000 * 1000000) = ((1000 * z485) + (S676 u20 u21 ((u24 + 1) : Int32).toNatClampNeg)) then
 (pw_c (np_inb (u24 + 4) (pw_len u20)) <|
 pw_b (m_L_asks S676 u17 4 u19 (S676 u20 u21 ((u24 + 4) : Int32).toNatClampNeg) 0) fun S679 r682 =>
 if r682 = (-70007) then
 (some (S679, 1))
 else
 (some (S679, 0)))
 else
 (some (S676, 0))))
 else
 (some (S676, 0)))))))
 else
 (if z470 = 0 then
 (if z35 = (-2) then
 (pw_b (m_X11_progress S30 u17 u19) fun S684 r687 =>
 pw_e r687 (fun r689 =>
 (pw_c (np_inb (u24 + 2) (pw_len u20)) <|
 pw_c (np_inb (u24 + 3) (pw_len u20)) <|
 if 9 ≤ (S684 u20 u21 ((u24 + 3) : Int32).toNatClampNeg) then
 (pw_c (np_inb (u24 + 1) (pw_len u20)) <|
 if r689 = (((10000 * (S684 u20 u21 ((u24 + 2) : Int32).toNatClampNeg)) + 9000) + (S684 u20 u21 ((u24 + 1) : Int32).toNatClampNeg)) then
 (some (S684, 1))
 else
 (some (S684, 0)))
 else
 (pw_c (np_inb (u24 + 3) (pw_len u20)) <|
 pw_c (np_inb (u24 + 1) (pw_len u20)) <|
 if r689 = (((10000 * (S684 u20 u21 ((u24 + 2) : Int32).toNatClampNeg)) + (1000 * (S684 u20 u21 ((u24 + 3) : Int32).toNatClampNeg))) + (S684 u20 u21 ((u24 + 1) : Int32).toNatClampNeg)) then
 (some (S684, 1))
 else
 (some (S684, 0))))) (fun _ => none))
 else
 (some (S30, 0)))
 else
 (if z35 = (-1) then
 (pw_b (m_X11_progress S30 u17 u19) fun S691 r694 =>
 pw_e r694 (fun r696 =>
 (pw_c (np_inb (u24 + 2) (pw_len u20)) <|
 pw_c (np_inb (u24 + 3) (pw_len u20)) <|
 if 9 ≤ (S691 u20 u21 ((u24 + 3) : Int32).toNatClampNeg) then
 (pw_c (np_inb (u24 + 1) (pw_len u20)) <|
 if r696 = (((10000 * (S691 u20 u21 ((u24 + 2) : Int32).toNatClampNeg)) + 9000) + (S691 u20 u21 ((u24 + 1) : Int32).toNatClampNeg)) then
 (some (S691, 1))
 else
 (some (S691, 0)))
 else
 (pw_c (np_inb (u24 + 3) (pw_len u20)) <|
 pw_c (np_inb (u24 + 1) (pw_len u20)) <|
 if r696 = (((10000 * (S691 u20 u21 ((u24 + 2) : Int32).toNatClampNeg)) + (1000 * (S691 u20 u21 ((u24 + 3) : Int32).toNatClampNeg))) + (S691 u20 u21 ((u24 + 1) : Int32).toNatClampNeg)) then
 (some (S691, 1))
 else
 (some (S691, 0))))) (fun _ => none))
 else
 (some (S30, 0)))))
 else
 (pw_c (np_inb (u24 + 2) (pw_len u20)) <|
 if (S30 u20 u21 ((u24 + 2) : Int32).toNatClampNeg) = 24 then
 (if z35 = (-70008) then
 (some (S30, 1))
 else
 (some (S30, 0)))
 else
 (pw_c (np_inb (u24 + 1) (pw_len u20)) <|
 pw_l ((S30 u20 u21 ((u24 + 1) : Int32).toNatClampNeg) : Int32) fun z698 =>
 if u25 ≤ u26 then
 (pw_c (np_inb (u24 + 1) (pw_len u20)) <|
 pw_l (pw_up S30 u20 u21 (upd (S30 u20 u21) ((u24 + 1) : Int32).toNatClampNeg u26)) fun S699 =>
 if z35 = 1 then
 (pw_c (np_inb (u24 + 2) (pw_len u20)) <|
 pw_c (np_inb (u24 + 2) (pw_len u20)) <|
 pw_l (pw_up S699 u20 u21 (upd (S699 u20 u21) ((u24 + 2) : Int32).toNatClampNeg ((S699 u20 u21 ((u24 + 2) : Int32).toNatClampNeg) + 1))) fun S702 =>
 pw_b (m_X11_progress S702 u17 u19) fun S705 r708 =>
 pw_e r708 (fun r710 =>
 (pw_l (((r710 / 1000) - (r710 / 1000) / 10 * 10) : Int32) fun z712 =>
 pw_c (np_inb (u24 + 3) (pw_len u20)) <|
 if z712 = (S705 u20 u21 ((u24 + 3) : Int32).toNatClampNeg) then
 (pw_l (1 : Int32) fun z713 =>
 pw_c (np_inb (u24 + 3) (pw_len u20)) <|
 pw_l (pw_up S705 u20 u21 (upd (S705 u20 u21) ((u24 + 3) : Int32).toNatClampNeg z712)) fun S714 =>
 if z713 = 0 then
 (some (S714, 0))
 else
 (pw_b (m_X11_progress S714 u17 u19) fun S717 r720 =>
 pw_e r720 (fun r722 =>
 (pw_c (np_inb (u24 + 2) (pw_len u20)) <|
 pw_c (np_inb (u24 + 1) (pw_len u20)) <|
 if r722 = (((10000 * (S717 u20 u21 ((u24 + 2) : Int32).toNatClampNeg)) + (1000 * z712)) + (S717 u20 u21 ((u24 + 1) : Int32).toNatClampNeg)) then
 (pw_c (np_inb u24 (pw_len u20)) <|
 pw_b (m_L_isLine S717 u17 ((S717 u20 u21 (u24 : Int32).toNatClampNeg) - 1) u19 z698 u26 u20 u21) fun S724 r727 =>
 if r727 = 0 then
 (some (S724, 0))
 else
 (some (S724, 1)))
 else
 (some (S717, 0)))) (fun _ => none)))
 else
 (pw_c (np_inb (u24 + 3) (pw_len u20)) <|
 if z712 = ((S705 u20 u21 ((u24 + 3) : Int32).toNatClampNeg) + 1) then
 (pw_c (np_inb u24 (pw_len u20)) <|
 pw_b (m_X11_sure S705 u17 ((S705 u20 u21 (u24 : Int32).toNatClampNeg) - 1)) fun S729 r732 =>
 pw_e r732 (fun r734 =>
 (if r734 < 0 then
 (pw_l (0 : Int32) fun z736 =>
 pw_c (np_inb (u24 + 3) (pw_len u20)) <|
 pw_l (pw_up S729 u20 u21 (upd (S729 u20 u21) ((u24 + 3) : Int32).toNatClampNeg z712)) fun S737 =>
 if z736 = 0 then
 (some (S737, 0))
 else
 (pw_b (m_X11_progress S737 u17 u19) fun S740 r743 =>
 pw_e r743 (fun r745 =>
 (pw_c (np_inb (u24 + 2) (pw_len u20)) <|
 pw_c (np_inb (u24 + 1) (pw_len u20)) <|
 if r745 = (((10000 * (S740 u20 u21 ((u24 + 2) : Int32).toNatClampNeg)) + (1000 * z712)) + (S740 u20 u21 ((u24 + 1) : Int32).toNatClampNeg)) then
 (pw_c (np_inb u24 (pw_len u20)) <|
 pw_b (m_L_isLine S740 u17 ((S740 u20 u21 (u24 : Int32).toNatClampNeg) - 1) u19 z698 u26 u20 u21) fun S747 r750 =>
 if r750 = 0 then
 (some (S747, 0))
 else
 (some (S747, 1)))
 else
 (some (S740, 0)))) (fun _ => none)))
 else
 (pw_l (1 : Int32) fun z752 =>
 pw_c (np_inb (u24 + 3) (pw_len u20)) <|
 pw_l (pw_up S729 u20 u21 (upd (S729 u20 u21) ((u24 + 3) : Int32).toNatClampNeg z712)) fun S753 =>
 if z752 = 0 then
 (some (S753, 0))
 else
 (pw_b (m_X11_progress S753 u17 u19) fun S756 r759 =>
 pw_e r759 (fun r761 =>
 (pw_c (np_inb (u24 + 2) (pw_len u20)) <|
 pw_c (np_inb (u24 + 1) (pw_len u20)) <|
 if r761 = (((10000 * (S756 u20 u21 ((u24 + 2) : Int32).toNatClampNeg)) + (1000 * z712)) + (S756 u20 u21 ((u24 + 1) : Int32).toNatClampNeg)) then
 (pw_c (np_inb u24 (pw_len u20)) <|
 pw_b (m_L_isLine S756 u17 ((S756 u20 u21 (u24 : Int32).toNatClampNeg) - 1) u19 z698 u26 u20 u21) fun S763 r766 =>
 if r766 = 0 then
 (some (S763, 0))
 else
 (some (S763, 1)))
 else
 (some (S756, 0)))) (fun _ => none))))) (fun _ => none))
 else
 (pw_l (0 : Int32) fun z768 =>
 pw_c (np_inb (u24 + 3) (pw_len u20)) <|
 pw_l (pw_up S705 u20 u21 (upd (S705 u20 u21) ((u24 + 3) : Int32).toNatClampNeg z712)) fun S769 =>
 if z768 = 0 then
 (some (S769, 0))
 else
 (pw_b (m_X11_progress S769 u17 u19) fun S772 r775 =>
 pw_e r775 (fun r777 =>
 (pw_c (np_inb (u24 + 2) (pw_len u20)) <|
 pw_c (np_inb (u24 + 1) (pw_len u20)) <|
 if r777 = (((10000 * (S772 u20 u21 ((u24 + 2) : Int32).toNatClampNeg)) + (1000 * z712)) + (S772 u20 u21 ((u24 + 1) : Int32).toNatClampNeg)) then
 (pw_c (np_inb u24 (pw_len u20)) <|
 pw_b (m_L_isLine S772 u17 ((S772 u20 u21 (u24 : Int32).toNatClampNeg) - 1) u19 z698 u26 u20 u21) fun S779 r782 =>
 if r782 = 0 then
 (some (S779, 0))
 else
 (some (S779, 1)))
 else
 (some (S772, 0)))) (fun _ => none)))))) (fun _ => none))
 else
 (pw_c (np_inb (u24 + 4) (pw_len u20)) <|
 pw_b (m_L_asks S699 u17 4 u19 (S699 u20 u21 ((u24 + 4) : Int32).toNatClampNeg) 0) fun S784 r787 =>
 pw_l (r787 : Int32) fun z789 =>
 pw_c (np_inb (u24 + 4) (pw_len u20)) <|
 pw_c (np_inb (u24 + 4) (pw_len u20)) <|
 pw_l (pw_up S784 u20 u21 (upd (S784 u20 u21) ((u24 + 4) : Int32).toNatClampNeg ((S784 u20 u21 ((u24 + 4) : Int32).toNatClampNeg) + 1))) fun S790 =>
 if z35 = 0 then
 (if 100 < (z789 / 1000000) then
 (some (S790, 0))
 else
 (pw_c (np_inb (u24 + 1) (pw_len u20)) <|
 if (z789 - z789 / 1000000 * 1000000) = ((1000 * z698) + (S790 u20 u21 ((u24 + 1) : Int32).toNatClampNeg)) then
 (pw_c (np_inb (u24 + 4) (pw_len u20)) <|
 pw_b (m_L_asks S790 u17 4 u19 (S790 u20 u21 ((u24 + 4) : Int32).toNatClampNeg) 0) fun S793 r796 =>
 if r796 = (-70007) then
 (some (S793, 1))
 else
 (some (S793, 0)))
 else
 (some (S790, 0))))
 else
 (some (S790, 0))))
 else
 (pw_c (np_inb (u24 + 1) (pw_len u20)) <|
 pw_l (pw_up S30 u20 u21 (upd (S30 u20 u21) ((u24 + 1) : Int32).toNatClampNeg (u26 + 1))) fun S798 =>
 if z35 = 1 then
 (pw_c (np_inb (u24 + 2) (pw_len u20)) <|
 pw_c (np_inb (u24 + 2) (pw_len u20)) <|
 pw_l (pw_up S798 u20 u21 (upd (S798 u20 u21) ((u24 + 2) : Int32).toNatClampNeg ((S798 u20 u21 ((u24 + 2) : Int32).toNatClampNeg) + 1))) fun S801 =>
 pw_b (m_X11_progress S801 u17 u19) fun S804 r807 =>
 pw_e r807 (fun r809 =>
 (pw_l (((r809 / 1000) - (r809 / 1000) / 10 * 10) : Int32) fun z811 =>
 pw_c (np_inb (u24 + 3) (pw_len u20)) <|
 if z811 = (S804 u20 u21 ((u24 + 3) : Int32).toNatClampNeg) then
 (pw_l (1 : Int32) fun z812 =>
 pw_c (np_inb (u24 + 3) (pw_len u20)) <|
 pw_l (pw_up S804 u20 u21 (upd (S804 u20 u21) ((u24 + 3) : Int32).toNatClampNeg z811)) fun S813 =>
 if z812 = 0 then
 (some (S813, 0))
 else
 (pw_b (m_X11_progress S813 u17 u19) fun S816 r819 =>
 pw_e r819 (fun r821 =>
 (pw_c (np_inb (u24 + 2) (pw_len u20)) <|
 pw_c (np_inb (u24 + 1) (pw_len u20)) <|
 if r821 = (((10000 * (S816 u20 u21 ((u24 + 2) : Int32).toNatClampNeg)) + (1000 * z811)) + (S816 u20 u21 ((u24 + 1) : Int32).toNatClampNeg)) then
 (pw_c (np_inb u24 (pw_len u20)) <|
 pw_b (m_L_isLine S816 u17 ((S816 u20 u21 (u24 : Int32).toNatClampNeg) - 1) u19 z698 u26 u20 u21) fun S823 r826 =>
 if r826 = 0 then
 (some (S823, 0))
 else
 (some (S823, 1)))
 else
 (some (S816, 0)))) (fun _ => none)))
 else
 (pw_c (np_inb (u24 + 3) (pw_len u20)) <|
 if z811 = ((S804 u20 u21 ((u24 + 3) : Int32).toNatClampNeg) + 1) then
 (pw_c (np_inb u24 (pw_len u20)) <|
 pw_b (m_X11_sure S804 u17 ((S804 u20 u21 (u24 : Int32).toNatClampNeg) - 1)) fun S828 r831 =>
 pw_e r831 (fun r833 =>
 (if r833 < 0 then
 (pw_l (0 : Int32) fun z835 =>
 pw_c (np_inb (u24 + 3) (pw_len u20)) <|
 pw_l (pw_up S828 u20 u21 (upd (S828 u20 u21) ((u24 + 3) : Int32).toNatClampNeg z811)) fun S836 =>
 if z835 = 0 then
 (some (S836, 0))
 else
 (pw_b (m_X11_progress S836 u17 u19) fun S839 r842 =>
 pw_e r842 (fun r844 =>
 (pw_c (np_inb (u24 + 2) (pw_len u20)) <|
 pw_c (np_inb (u24 + 1) (pw_len u20)) <|
 if r844 = (((10000 * (S839 u20 u21 ((u24 + 2) : Int32).toNatClampNeg)) + (1000 * z811)) + (S839 u20 u21 ((u24 + 1) : Int32).toNatClampNeg)) then
 (pw_c (np_inb u24 (pw_len u20)) <|
 pw_b (m_L_isLine S839 u17 ((S839 u20 u21 (u24 : Int32).toNatClampNeg) - 1) u19 z698 u26 u20 u21) fun S846 r849 =>
 if r849 = 0 then
 (some (S846, 0))
 else
 (some (S846, 1)))
 else
 (some (S839, 0)))) (fun _ => none)))
 else
 (pw_l (1 : Int32) fun z851 =>
 pw_c (np_inb (u24 + 3) (pw_len u20)) <|
 pw_l (pw_up S828 u20 u21 (upd (S828 u20 u21) ((u24 + 3) : Int32).toNatClampNeg z811)) fun S852 =>
 if z851 = 0 then
 (some (S852, 0))
 else
 (pw_b (m_X11_progress S852 u17 u19) fun S855 r858 =>
 pw_e r858 (fun r860 =>
 (pw_c (np_inb (u24 + 2) (pw_len u20)) <|
 pw_c (np_inb (u24 + 1) (pw_len u20)) <|
 if r860 = (((10000 * (S855 u20 u21 ((u24 + 2) : Int32).toNatClampNeg)) + (1000 * z811)) + (S855 u20 u21 ((u24 + 1) : Int32).toNatClampNeg)) then
 (pw_c (np_inb u24 (pw_len u20)) <|
 pw_b (m_L_isLine S855 u17 ((S855 u20 u21 (u24 : Int32).toNatClampNeg) - 1) u19 z698 u26 u20 u21) fun S862 r865 =>
 if r865 = 0 then
 (some (S862, 0))
 else
 (some (S862, 1)))
 else
 (some (S855, 0)))) (fun _ => none))))) (fun _ => none))
 else
 (pw_l (0 : Int32) fun z867 =>
 pw_c (np_inb (u24 + 3) (pw_len u20)) <|
 pw_l (pw_up S804 u20 u21 (upd (S804 u20 u21) ((u24 + 3) : Int32).toNatClampNeg z811)) fun S868 =>
 if z867 = 0 then
 (some (S868, 0))
 else
 (pw_b (m_X11_progress S868 u17 u19) fun S871 r874 =>
 pw_e r874 (fun r876 =>
 (pw_c (np_inb (u24 + 2) (pw_len u20)) <|
 pw_c (np_inb (u24 + 1) (pw_len u20)) <|
 if r876 = (((10000 * (S871 u20 u21 ((u24 + 2) : Int32).toNatClampNeg)) + (1000 * z811)) + (S871 u20 u21 ((u24 + 1) : Int32).toNatClampNeg)) then
 (pw_c (np_inb u24 (pw_len u20)) <|
 pw_b (m_L_isLine S871 u17 ((S871 u20 u21 (u24 : Int32).toNatClampNeg) - 1) u19 z698 u26 u20 u21) fun S878 r881 =>
 if r881 = 0 then
 (some (S878, 0))
 else
 (some (S878, 1)))
 else
 (some (S871, 0)))) (fun _ => none)))))) (fun _ => none))
 else
 (pw_c (np_inb (u24 + 4) (pw_len u20)) <|
 pw_b (m_L_asks S798 u17 4 u19 (S798 u20 u21 ((u24 + 4) : Int32).toNatClampNeg) 0) fun S883 r886 =>
 pw_l (r886 : Int32) fun z888 =>
 pw_c (np_inb (u24 + 4) (pw_len u20)) <|
 pw_c (np_inb (u24 + 4) (pw_len u20)) <|
 pw_l (pw_up S883 u20 u21 (upd (S883 u20 u21) ((u24 + 4) : Int32).toNatClampNeg ((S883 u20 u21 ((u24 + 4) : Int32).toNatClampNeg) + 1))) fun S889 =>
 if z35 = 0 then
 (if 100 < (z888 / 1000000) then
 (some (S889, 0))
 else
 (pw_c (np_inb (u24 + 1) (pw_len u20)) <|
 if (z888 - z888 / 1000000 * 1000000) = ((1000 * z698) + (S889 u20 u21 ((u24 + 1) : Int32).toNatClampNeg)) then
 (pw_c (np_inb (u24 + 4) (pw_len u20)) <|
 pw_b (m_L_asks S889 u17 4 u19 (S889 u20 u21 ((u24 + 4) : Int32).toNatClampNeg) 0) fun S892 r895 =>
 if r895 = (-70007) then
 (some (S892, 1))
 else
 (some (S892, 0)))
 else
 (some (S889, 0))))
 else
 (some (S889, 0)))))))))) (pw_F 302) S10 i0 x1 a2 i2 z9 z15 z16
def sp_L_steps : np_Sp := fun vs w Q => ∃ (q : Nat) (S : pw_S) (i0 : Nat) (x1 : Int32) (a2 : Nat) (i2 : Nat), vs = [.ref (pw_pl 61 i0), .int x1, .ref (pw_pl a2 i2)] ∧ pw_ok q 61 i0 = true ∧ pw_arr a2 = true ∧ pw_ok q a2 i2 = true ∧ pw_W q w S ∧ pw_p (m_L_steps S i0 x1 a2 i2) (fun S' r => ∀ f', pw_W q (w.1, f') S' → Q (some (.int r)) (w.1, f'))
set_option maxRecDepth 100000 in
set_option maxHeartbeats 8000000 in
theorem C_L_steps : np_C yL_steps cL_steps 11 (some .boolean) 11 304 1109 6654 (sp_L_steps) := by
  refine np_of (by decide) ?_
  intro X vs w Q hsp hX hmn hRt hlt
  obtain ⟨q, S, i0, x1, a2, i2, rfl, hi0, ha2, hi2, hW, h⟩ := hsp
  obtain ⟨n, f⟩ := w
  unfold m_L_steps at h
  have hR : ∀ st w ce sl, np_rt (some .boolean) 1109 6654 Q st w ce sl → X.2.2.1 st w ce sl := fun _ _ _ _ h => by rw [hRt]; exact h
  refine np_soundW (so_L_steps hX hR) [21] 400 0 _ _ _ _ _ ?_
  conv => whnf
  refine pw_st h (fun z9 h => ?_)
  conv => whnf
  refine ⟨q, S, i0, x1, rfl, hi0, hW, pw_bd h (fun S10 r13 h f11 hW12 => ?_)⟩
  conv => whnf
  refine pw_st h (fun z15 h => ?_)
  conv => whnf
  refine np_rd_i (hW12.ga ha2 hi2) ?_
  conv => whnf
  refine pw_ck h (fun _ h => ?_)
  conv => whnf
  refine pw_st h (fun z16 h => ?_)
  conv => whnf
  refine np_gl (L_L_steps_21 (dc := 505) (ds := 3030) hX hR (fun S27 u17 u19 u20 u21 u24 u25 u26 f28 ce897 sl898 ho18 ho22 ho23 hc899 hs900 hW29 h => ?_) (pw_F 302) S10 i0 x1 a2 i2 z9 z15 z16 f11 _ _ hi0 ha2 hi2 (by rw [pw_F_eq]; omega) (by rw [pw_F_eq]; omega) hW12 h) ⟨rfl, rfl, rfl, rfl, rfl, rfl, trivial⟩
  · refine np_soundW (so_L_steps hX hR) [21] 400 46 _ _ _ _ _ ?_
    conv => whnf
    refine np_chk_i (pw_and rfl (pw_and rfl (pw_and rfl ((pw_and (pw_le (by omega)) (pw_le (by omega))))))) ?_
    conv => whnf
    refine ⟨q, S27, u17, 2, u19, 0, 0, rfl, ho18, hW29, pw_bd h (fun S30 r33 h f31 hW32 => ?_)⟩
    conv => whnf
    refine pw_st h (fun z35 h => ?_)
    conv => whnf
    refine np_rd_i (hW32.ga ho22 ho23) ?_
    conv => whnf
    refine pw_ck h (fun _ h => ?_)
    conv => whnf
    refine pw_br h (fun _ h => ?_) (fun _ h => ?_)
    · conv => whnf
      refine pw_br h (fun _ h => ?_) (fun _ h => ?_)
      · conv => whnf
        refine np_rd_i (hW32.g ho18) ?_
        conv => whnf
        refine np_chk_i (pw_and rfl (pw_and rfl (pw_and rfl (pw_and rfl ((pw_and (pw_le (by omega)) (pw_le (by omega)))))))) ?_
        conv => whnf
        refine ⟨q, S30, u17, u19, rfl, ho18, hW32, pw_bd h (fun S36 r39 h f37 hW38 => ?_)⟩
        rcases r39 with r41 | e42
        · replace h := pw_ei h
          conv => whnf
          refine pw_br h (fun _ h => ?_) (fun _ h => ?_)
          · conv => whnf
            exact ⟨(by omega), (by omega), ⟨_, rfl, by decide⟩, _, fun _ _ h9 => h9, pw_ps h _ hW38⟩
          · conv => whnf
            exact ⟨(by omega), (by omega), ⟨_, rfl, by decide⟩, _, fun _ _ h9 => h9, pw_ps h _ hW38⟩
        · exact (pw_pn h).elim
      · conv => whnf
        exact ⟨(by omega), (by omega), ⟨_, rfl, by decide⟩, _, fun _ _ h9 => h9, pw_ps h _ hW32⟩
    · conv => whnf
      refine np_rd_i (hW32.ga ho22 ho23) ?_
      conv => whnf
      refine pw_ck h (fun _ h => ?_)
      conv => whnf
      refine pw_br h (fun _ h => ?_) (fun _ h => ?_)
      · conv => whnf
        refine pw_st h (fun z43 h => ?_)
        conv => whnf
        refine pw_br h (fun _ h => ?_) (fun _ h => ?_)
        · conv => whnf
          refine pw_br h (fun _ h => ?_) (fun _ h => ?_)
          · conv => whnf
            refine np_rd_i (hW32.ga ho22 ho23) ?_
            conv => whnf
            refine pw_ck h (fun _ h => ?_)
            conv => whnf
            refine pw_br h (fun _ h => ?_) (fun _ h => ?_)
            · conv => whnf
              refine pw_br h (fun _ h => ?_) (fun _ h => ?_)
              · conv => whnf
                refine pw_br h (fun _ h => ?_) (fun _ h => ?_)
                · conv => whnf
                  refine np_rd_i (hW32.g ho18) ?_
                  conv => whnf
                  refine np_chk_i (pw_and rfl (pw_and rfl (pw_and rfl (pw_and rfl ((pw_and (pw_le (by omega)) (pw_le (by omega)))))))) ?_
                  conv => whnf
                  refine ⟨q, S30, u17, u19, rfl, ho18, hW32, pw_bd h (fun S44 r47 h f45 hW46 => ?_)⟩
                  rcases r47 with r49 | e50
                  · replace h := pw_ei h
                    conv => whnf
                    refine np_rd_i (hW46.ga ho22 ho23) ?_
                    conv => whnf
                    refine pw_ck h (fun _ h => ?_)
                    conv => whnf
                    refine np_rd_i (hW46.ga ho22 ho23) ?_
                    conv => whnf
                    refine pw_ck h (fun _ h => ?_)
                    conv => whnf
                    refine pw_br h (fun _ h => ?_) (fun _ h => ?_)
                    · conv => whnf
                      refine np_rd_i (hW46.ga ho22 ho23) ?_
                      conv => whnf
                      refine pw_ck h (fun _ h => ?_)
                      conv => whnf
                      refine pw_br h (fun _ h => ?_) (fun _ h => ?_)
                      · conv => whnf
                        exact ⟨(by omega), (by omega), ⟨_, rfl, by decide⟩, _, fun _ _ h9 => h9, pw_ps h _ hW46⟩
                      · conv => whnf
                        exact ⟨(by omega), (by omega), ⟨_, rfl, by decide⟩, _, fun _ _ h9 => h9, pw_ps h _ hW46⟩
                    · conv => whnf
                      refine np_rd_i (hW46.ga ho22 ho23) ?_
                      conv => whnf
                      refine pw_ck h (fun _ h => ?_)
                      conv => whnf
                      refine np_rd_i (hW46.ga ho22 ho23) ?_
                      conv => whnf
                      refine pw_ck h (fun _ h => ?_)
                      conv => whnf
                      refine pw_br h (fun _ h => ?_) (fun _ h => ?_)
                      · conv => whnf
                        exact ⟨(by omega), (by omega), ⟨_, rfl, by decide⟩, _, fun _ _ h9 => h9, pw_ps h _ hW46⟩
                      · conv => whnf
                        exact ⟨(by omega), (by omega), ⟨_, rfl, by decide⟩, _, fun _ _ h9 => h9, pw_ps h _ hW46⟩
                  · exact (pw_pn h).elim
                · conv => whnf
                  exact ⟨(by omega), (by omega), ⟨_, rfl, by decide⟩, _, fun _ _ h9 => h9, pw_ps h _ hW32⟩
              · conv => whnf
                refine pw_br h (fun _ h => ?_) (fun _ h => ?_)
                · conv => whnf
                  refine np_rd_i (hW32.g ho18) ?_
                  conv => whnf
                  refine np_chk_i (pw_and rfl (pw_and rfl (pw_and rfl (pw_and rfl ((pw_and (pw_le (by omega)) (pw_le (by omega)))))))) ?_
                  conv => whnf
                  refine ⟨q, S30, u17, u19, rfl, ho18, hW32, pw_bd h (fun S51 r54 h f52 hW53 => ?_)⟩
                  rcases r54 with r56 | e57
                  · replace h := pw_ei h
                    conv => whnf
                    refine np_rd_i (hW53.ga ho22 ho23) ?_
                    conv => whnf
                    refine pw_ck h (fun _ h => ?_)
                    conv => whnf
                    refine np_rd_i (hW53.ga ho22 ho23) ?_
                    conv => whnf
                    refine pw_ck h (fun _ h => ?_)
                    conv => whnf
                    refine pw_br h (fun _ h => ?_) (fun _ h => ?_)
                    · conv => whnf
                      refine np_rd_i (hW53.ga ho22 ho23) ?_
                      conv => whnf
                      refine pw_ck h (fun _ h => ?_)
                      conv => whnf
                      refine pw_br h (fun _ h => ?_) (fun _ h => ?_)
                      · conv => whnf
                        exact ⟨(by omega), (by omega), ⟨_, rfl, by decide⟩, _, fun _ _ h9 => h9, pw_ps h _ hW53⟩
                      · conv => whnf
                        exact ⟨(by omega), (by omega), ⟨_, rfl, by decide⟩, _, fun _ _ h9 => h9, pw_ps h _ hW53⟩
                    · conv => whnf
                      refine np_rd_i (hW53.ga ho22 ho23) ?_
                      conv => whnf
                      refine pw_ck h (fun _ h => ?_)
                      conv => whnf
                      refine np_rd_i (hW53.ga ho22 ho23) ?_
                      conv => whnf
                      refine pw_ck h (fun _ h => ?_)
                      conv => whnf
                      refine pw_br h (fun _ h => ?_) (fun _ h => ?_)
                      · conv => whnf
                        exact ⟨(by omega), (by omega), ⟨_, rfl, by decide⟩, _, fun _ _ h9 => h9, pw_ps h _ hW53⟩
                      · conv => whnf
                        exact ⟨(by omega), (by omega), ⟨_, rfl, by decide⟩, _, fun _ _ h9 => h9, pw_ps h _ hW53⟩
                  · exact (pw_pn h).elim
                · conv => whnf
                  exact ⟨(by omega), (by omega), ⟨_, rfl, by decide⟩, _, fun _ _ h9 => h9, pw_ps h _ hW32⟩
            · conv => whnf
              refine np_rd_i (hW32.ga ho22 ho23) ?_
              conv => whnf
              refine pw_ck h (fun _ h => ?_)
              conv => whnf
              refine pw_br h (fun _ h => ?_) (fun _ h => ?_)
              · conv => whnf
                refine pw_br h (fun _ h => ?_) (fun _ h => ?_)
                · conv => whnf
                  exact ⟨(by omega), (by omega), ⟨_, rfl, by decide⟩, _, fun _ _ h9 => h9, pw_ps h _ hW32⟩
                · conv => whnf
                  exact ⟨(by omega), (by omega), ⟨_, rfl, by decide⟩, _, fun _ _ h9 => h9, pw_ps h _ hW32⟩
              · conv => whnf
                refine np_rd_i (hW32.ga ho22 ho23) ?_
                conv => whnf
                refine pw_ck h (fun _ h => ?_)
                conv => whnf
                refine pw_st h (fun z58 h => ?_)
                conv => whnf
                refine pw_br h (fun _ h => ?_) (fun _ h => ?_)
                · conv => whnf
                  refine np_rd_i (hW32.ga ho22 ho23) ?_
                  conv => whnf
                  refine pw_ck h (fun _ h => ?_)
                  conv => whnf
                  refine pw_wr (a := u20) (i := u21) (d := upd (S30 u20 u21) ((u24 + 1) : Int32).toNatClampNeg u26) hW32 ho23 (pw_ent_arr ho22).symm h (fun S59 f60 hW61 h => ?_)
                  conv => whnf
                  refine pw_br h (fun _ h => ?_) (fun _ h => ?_)
                  · conv => whnf
                    refine np_rd_i (hW61.ga ho22 ho23) ?_
                    conv => whnf
                    refine pw_ck h (fun _ h => ?_)
                    conv => whnf
                    refine np_rd_i (hW61.ga ho22 ho23) ?_
                    conv => whnf
                    refine pw_ck h (fun _ h => ?_)
                    conv => whnf
                    refine pw_wr (a := u20) (i := u21) (d := upd (S59 u20 u21) ((u24 + 2) : Int32).toNatClampNeg ((S59 u20 u21 ((u24 + 2) : Int32).toNatClampNeg) + 1)) hW61 ho23 (pw_ent_arr ho22).symm h (fun S62 f63 hW64 h => ?_)
                    conv => whnf
                    refine np_rd_i (hW64.g ho18) ?_
                    conv => whnf
                    refine np_chk_i (pw_and rfl (pw_and rfl (pw_and rfl (pw_and rfl ((pw_and (pw_le (by omega)) (pw_le (by omega)))))))) ?_
                    conv => whnf
                    refine ⟨q, S62, u17, u19, rfl, ho18, hW64, pw_bd h (fun S65 r68 h f66 hW67 => ?_)⟩
                    rcases r68 with r70 | e71
                    · replace h := pw_ei h
                      conv => whnf
                      refine pw_st h (fun z72 h => ?_)
                      conv => whnf
                      refine np_rd_i (hW67.ga ho22 ho23) ?_
                      conv => whnf
                      refine pw_ck h (fun _ h => ?_)
                      conv => whnf
                      refine pw_br h (fun _ h => ?_) (fun _ h => ?_)
                      · conv => whnf
                        refine pw_st h (fun z73 h => ?_)
                        conv => whnf
                        refine np_rd_i (hW67.ga ho22 ho23) ?_
                        conv => whnf
                        refine pw_ck h (fun _ h => ?_)
                        conv => whnf
                        refine pw_wr (a := u20) (i := u21) (d := upd (S65 u20 u21) ((u24 + 3) : Int32).toNatClampNeg z72) hW67 ho23 (pw_ent_arr ho22).symm h (fun S74 f75 hW76 h => ?_)
                        conv => whnf
                        refine pw_br h (fun _ h => ?_) (fun _ h => ?_)
                        · conv => whnf
                          exact ⟨(by omega), (by omega), ⟨_, rfl, by decide⟩, _, fun _ _ h9 => h9, pw_ps h _ hW76⟩
                        · conv => whnf
                          refine np_rd_i (hW76.g ho18) ?_
                          conv => whnf
                          refine np_chk_i (pw_and rfl (pw_and rfl (pw_and rfl (pw_and rfl ((pw_and (pw_le (by omega)) (pw_le (by omega)))))))) ?_
                          conv => whnf
                          refine ⟨q, S74, u17, u19, rfl, ho18, hW76, pw_bd h (fun S77 r80 h f78 hW79 => ?_)⟩
                          rcases r80 with r82 | e83
                          · replace h := pw_ei h
                            conv => whnf
                            refine np_rd_i (hW79.ga ho22 ho23) ?_
                            conv => whnf
                            refine pw_ck h (fun _ h => ?_)
                            conv => whnf
                            refine np_rd_i (hW79.ga ho22 ho23) ?_
                            conv => whnf
                            refine pw_ck h (fun _ h => ?_)
                            conv => whnf
                            refine pw_br h (fun _ h => ?_) (fun _ h => ?_)
                            · conv => whnf
                              refine np_rd_i (hW79.ga ho22 ho23) ?_
                              conv => whnf
                              refine pw_ck h (fun _ h => ?_)
                              conv => whnf
                              refine np_chk_i (pw_and rfl (pw_and rfl (pw_and rfl ((pw_and (pw_le (by omega)) (pw_le (by omega))))))) ?_
                              conv => whnf
                              refine ⟨q, S77, u17, ((S77 u20 u21 (u24 : Int32).toNatClampNeg) - 1), u19, z58, u26, u20, u21, rfl, ho18, ho22, ho23, hW79, pw_bd h (fun S84 r87 h f85 hW86 => ?_)⟩
                              conv => whnf
                              refine pw_br h (fun _ h => ?_) (fun _ h => ?_)
                              · conv => whnf
                                exact ⟨(by omega), (by omega), ⟨_, rfl, by decide⟩, _, fun _ _ h9 => h9, pw_ps h _ hW86⟩
                              · conv => whnf
                                exact ⟨(by omega), (by omega), ⟨_, rfl, by decide⟩, _, fun _ _ h9 => h9, pw_ps h _ hW86⟩
                            · conv => whnf
                              exact ⟨(by omega), (by omega), ⟨_, rfl, by decide⟩, _, fun _ _ h9 => h9, pw_ps h _ hW79⟩
                          · exact (pw_pn h).elim
                      · conv => whnf
                        refine np_rd_i (hW67.ga ho22 ho23) ?_
                        conv => whnf
                        refine pw_ck h (fun _ h => ?_)
                        conv => whnf
                        refine pw_br h (fun _ h => ?_) (fun _ h => ?_)
                        · conv => whnf
                          refine np_rd_i (hW67.ga ho22 ho23) ?_
                          conv => whnf
                          refine pw_ck h (fun _ h => ?_)
                          conv => whnf
                          refine np_rd_i (hW67.g ho18) ?_
                          conv => whnf
                          refine np_chk_i (pw_and rfl (pw_and rfl (pw_and rfl (pw_and rfl ((pw_and (pw_le (by omega)) (pw_le (by omega)))))))) ?_
                          conv => whnf
                          refine ⟨q, S65, u17, ((S65 u20 u21 (u24 : Int32).toNatClampNeg) - 1), rfl, ho18, hW67, pw_bd h (fun S89 r92 h f90 hW91 => ?_)⟩
                          rcases r92 with r94 | e95
                          · replace h := pw_ei h
                            conv => whnf
                            refine pw_br h (fun _ h => ?_) (fun _ h => ?_)
                            · conv => whnf
                              refine pw_st h (fun z96 h => ?_)
                              conv => whnf
                              refine np_rd_i (hW91.ga ho22 ho23) ?_
                              conv => whnf
                              refine pw_ck h (fun _ h => ?_)
                              conv => whnf
                              refine pw_wr (a := u20) (i := u21) (d := upd (S89 u20 u21) ((u24 + 3) : Int32).toNatClampNeg z72) hW91 ho23 (pw_ent_arr ho22).symm h (fun S97 f98 hW99 h => ?_)
                              conv => whnf
                              refine pw_br h (fun _ h => ?_) (fun _ h => ?_)
                              · conv => whnf
                                exact ⟨(by omega), (by omega), ⟨_, rfl, by decide⟩, _, fun _ _ h9 => h9, pw_ps h _ hW99⟩
                              · conv => whnf
                                refine np_rd_i (hW99.g ho18) ?_
                                conv => whnf
                                refine np_chk_i (pw_and rfl (pw_and rfl (pw_and rfl (pw_and rfl ((pw_and (pw_le (by omega)) (pw_le (by omega)))))))) ?_
                                conv => whnf
                                refine ⟨q, S97, u17, u19, rfl, ho18, hW99, pw_bd h (fun S100 r103 h f101 hW102 => ?_)⟩
                                rcases r103 with r105 | e106
                                · replace h := pw_ei h
                                  conv => whnf
                                  refine np_rd_i (hW102.ga ho22 ho23) ?_
                                  conv => whnf
                                  refine pw_ck h (fun _ h => ?_)
                                  conv => whnf
                                  refine np_rd_i (hW102.ga ho22 ho23) ?_
                                  conv => whnf
                                  refine pw_ck h (fun _ h => ?_)
                                  conv => whnf
                                  refine pw_br h (fun _ h => ?_) (fun _ h => ?_)
                                  · conv => whnf
                                    refine np_rd_i (hW102.ga ho22 ho23) ?_
                                    conv => whnf
                                    refine pw_ck h (fun _ h => ?_)
                                    conv => whnf
                                    refine np_chk_i (pw_and rfl (pw_and rfl (pw_and rfl ((pw_and (pw_le (by omega)) (pw_le (by omega))))))) ?_
                                    conv => whnf
                                    refine ⟨q, S100, u17, ((S100 u20 u21 (u24 : Int32).toNatClampNeg) - 1), u19, z58, u26, u20, u21, rfl, ho18, ho22, ho23, hW102, pw_bd h (fun S107 r110 h f108 hW109 => ?_)⟩
                                    conv => whnf
                                    refine pw_br h (fun _ h => ?_) (fun _ h => ?_)
                                    · conv => whnf
                                      exact ⟨(by omega), (by omega), ⟨_, rfl, by decide⟩, _, fun _ _ h9 => h9, pw_ps h _ hW109⟩
                                    · conv => whnf
                                      exact ⟨(by omega), (by omega), ⟨_, rfl, by decide⟩, _, fun _ _ h9 => h9, pw_ps h _ hW109⟩
                                  · conv => whnf
                                    exact ⟨(by omega), (by omega), ⟨_, rfl, by decide⟩, _, fun _ _ h9 => h9, pw_ps h _ hW102⟩
                                · exact (pw_pn h).elim
                            · conv => whnf
                              refine pw_st h (fun z112 h => ?_)
                              conv => whnf
                              refine np_rd_i (hW91.ga ho22 ho23) ?_
                              conv => whnf
                              refine pw_ck h (fun _ h => ?_)
                              conv => whnf
                              refine pw_wr (a := u20) (i := u21) (d := upd (S89 u20 u21) ((u24 + 3) : Int32).toNatClampNeg z72) hW91 ho23 (pw_ent_arr ho22).symm h (fun S113 f114 hW115 h => ?_)
                              conv => whnf
                              refine pw_br h (fun _ h => ?_) (fun _ h => ?_)
                              · conv => whnf
                                exact ⟨(by omega), (by omega), ⟨_, rfl, by decide⟩, _, fun _ _ h9 => h9, pw_ps h _ hW115⟩
                              · conv => whnf
                                refine np_rd_i (hW115.g ho18) ?_
                                conv => whnf
                                refine np_chk_i (pw_and rfl (pw_and rfl (pw_and rfl (pw_and rfl ((pw_and (pw_le (by omega)) (pw_le (by omega)))))))) ?_
                                conv => whnf
                                refine ⟨q, S113, u17, u19, rfl, ho18, hW115, pw_bd h (fun S116 r119 h f117 hW118 => ?_)⟩
                                rcases r119 with r121 | e122
                                · replace h := pw_ei h
                                  conv => whnf
                                  refine np_rd_i (hW118.ga ho22 ho23) ?_
                                  conv => whnf
                                  refine pw_ck h (fun _ h => ?_)
                                  conv => whnf
                                  refine np_rd_i (hW118.ga ho22 ho23) ?_
                                  conv => whnf
                                  refine pw_ck h (fun _ h => ?_)
                                  conv => whnf
                                  refine pw_br h (fun _ h => ?_) (fun _ h => ?_)
                                  · conv => whnf
                                    refine np_rd_i (hW118.ga ho22 ho23) ?_
                                    conv => whnf
                                    refine pw_ck h (fun _ h => ?_)
                                    conv => whnf
                                    refine np_chk_i (pw_and rfl (pw_and rfl (pw_and rfl ((pw_and (pw_le (by omega)) (pw_le (by omega))))))) ?_
                                    conv => whnf
                                    refine ⟨q, S116, u17, ((S116 u20 u21 (u24 : Int32).toNatClampNeg) - 1), u19, z58, u26, u20, u21, rfl, ho18, ho22, ho23, hW118, pw_bd h (fun S123 r126 h f124 hW125 => ?_)⟩
                                    conv => whnf
                                    refine pw_br h (fun _ h => ?_) (fun _ h => ?_)
                                    · conv => whnf
                                      exact ⟨(by omega), (by omega), ⟨_, rfl, by decide⟩, _, fun _ _ h9 => h9, pw_ps h _ hW125⟩
                                    · conv => whnf
                                      exact ⟨(by omega), (by omega), ⟨_, rfl, by decide⟩, _, fun _ _ h9 => h9, pw_ps h _ hW125⟩
                                  · conv => whnf
                                    exact ⟨(by omega), (by omega), ⟨_, rfl, by decide⟩, _, fun _ _ h9 => h9, pw_ps h _ hW118⟩
                                · exact (pw_pn h).elim
                          · exact (pw_pn h).elim
                        · conv => whnf
                          refine pw_st h (fun z128 h => ?_)
                          conv => whnf
                          refine np_rd_i (hW67.ga ho22 ho23) ?_
                          conv => whnf
                          refine pw_ck h (fun _ h => ?_)
                          conv => whnf
                          refine pw_wr (a := u20) (i := u21) (d := upd (S65 u20 u21) ((u24 + 3) : Int32).toNatClampNeg z72) hW67 ho23 (pw_ent_arr ho22).symm h (fun S129 f130 hW131 h => ?_)
                          conv => whnf
                          refine pw_br h (fun _ h => ?_) (fun _ h => ?_)
                          · conv => whnf
                            exact ⟨(by omega), (by omega), ⟨_, rfl, by decide⟩, _, fun _ _ h9 => h9, pw_ps h _ hW131⟩
                          · conv => whnf
                            refine np_rd_i (hW131.g ho18) ?_
                            conv => whnf
                            refine np_chk_i (pw_and rfl (pw_and rfl (pw_and rfl (pw_and rfl ((pw_and (pw_le (by omega)) (pw_le (by omega)))))))) ?_
                            conv => whnf
                            refine ⟨q, S129, u17, u19, rfl, ho18, hW131, pw_bd h (fun S132 r135 h f133 hW134 => ?_)⟩
                            rcases r135 with r137 | e138
                            · replace h := pw_ei h
                              conv => whnf
                              refine np_rd_i (hW134.ga ho22 ho23) ?_
                              conv => whnf
                              refine pw_ck h (fun _ h => ?_)
                              conv => whnf
                              refine np_rd_i (hW134.ga ho22 ho23) ?_
                              conv => whnf
                              refine pw_ck h (fun _ h => ?_)
                              conv => whnf
                              refine pw_br h (fun _ h => ?_) (fun _ h => ?_)
                              · conv => whnf
                                refine np_rd_i (hW134.ga ho22 ho23) ?_
                                conv => whnf
                                refine pw_ck h (fun _ h => ?_)
                                conv => whnf
                                refine np_chk_i (pw_and rfl (pw_and rfl (pw_and rfl ((pw_and (pw_le (by omega)) (pw_le (by omega))))))) ?_
                                conv => whnf
                                refine ⟨q, S132, u17, ((S132 u20 u21 (u24 : Int32).toNatClampNeg) - 1), u19, z58, u26, u20, u21, rfl, ho18, ho22, ho23, hW134, pw_bd h (fun S139 r142 h f140 hW141 => ?_)⟩
                                conv => whnf
                                refine pw_br h (fun _ h => ?_) (fun _ h => ?_)
                                · conv => whnf
                                  exact ⟨(by omega), (by omega), ⟨_, rfl, by decide⟩, _, fun _ _ h9 => h9, pw_ps h _ hW141⟩
                                · conv => whnf
                                  exact ⟨(by omega), (by omega), ⟨_, rfl, by decide⟩, _, fun _ _ h9 => h9, pw_ps h _ hW141⟩
                              · conv => whnf
                                exact ⟨(by omega), (by omega), ⟨_, rfl, by decide⟩, _, fun _ _ h9 => h9, pw_ps h _ hW134⟩
                            · exact (pw_pn h).elim
                    · exact (pw_pn h).elim
                  · conv => whnf
                    refine np_rd_i (hW61.ga ho22 ho23) ?_
                    conv => whnf
                    refine pw_ck h (fun _ h => ?_)
                    conv => whnf
                    refine np_chk_i (pw_and rfl (pw_and rfl (pw_and rfl ((pw_and (pw_le (by omega)) (pw_le (by omega))))))) ?_
                    conv => whnf
                    refine ⟨q, S59, u17, 4, u19, (S59 u20 u21 ((u24 + 4) : Int32).toNatClampNeg), 0, rfl, ho18, hW61, pw_bd h (fun S144 r147 h f145 hW146 => ?_)⟩
                    conv => whnf
                    refine pw_st h (fun z149 h => ?_)
                    conv => whnf
                    refine np_rd_i (hW146.ga ho22 ho23) ?_
                    conv => whnf
                    refine pw_ck h (fun _ h => ?_)
                    conv => whnf
                    refine np_rd_i (hW146.ga ho22 ho23) ?_
                    conv => whnf
                    refine pw_ck h (fun _ h => ?_)
                    conv => whnf
                    refine pw_wr (a := u20) (i := u21) (d := upd (S144 u20 u21) ((u24 + 4) : Int32).toNatClampNeg ((S144 u20 u21 ((u24 + 4) : Int32).toNatClampNeg) + 1)) hW146 ho23 (pw_ent_arr ho22).symm h (fun S150 f151 hW152 h => ?_)
                    conv => whnf
                    refine pw_br h (fun _ h => ?_) (fun _ h => ?_)
                    · conv => whnf
                      refine pw_br h (fun _ h => ?_) (fun _ h => ?_)
                      · conv => whnf
                        exact ⟨(by omega), (by omega), ⟨_, rfl, by decide⟩, _, fun _ _ h9 => h9, pw_ps h _ hW152⟩
                      · conv => whnf
                        refine np_rd_i (hW152.ga ho22 ho23) ?_
                        conv => whnf
                        refine pw_ck h (fun _ h => ?_)
                        conv => whnf
                        refine pw_br h (fun _ h => ?_) (fun _ h => ?_)
                        · conv => whnf
                          refine np_rd_i (hW152.ga ho22 ho23) ?_
                          conv => whnf
                          refine pw_ck h (fun _ h => ?_)
                          conv => whnf
                          refine np_chk_i (pw_and rfl (pw_and rfl (pw_and rfl ((pw_and (pw_le (by omega)) (pw_le (by omega))))))) ?_
                          conv => whnf
                          refine ⟨q, S150, u17, 4, u19, (S150 u20 u21 ((u24 + 4) : Int32).toNatClampNeg), 0, rfl, ho18, hW152, pw_bd h (fun S153 r156 h f154 hW155 => ?_)⟩
                          conv => whnf
                          refine pw_br h (fun _ h => ?_) (fun _ h => ?_)
                          · conv => whnf
                            exact ⟨(by omega), (by omega), ⟨_, rfl, by decide⟩, _, fun _ _ h9 => h9, pw_ps h _ hW155⟩
                          · conv => whnf
                            exact ⟨(by omega), (by omega), ⟨_, rfl, by decide⟩, _, fun _ _ h9 => h9, pw_ps h _ hW155⟩
                        · conv => whnf
                          exact ⟨(by omega), (by omega), ⟨_, rfl, by decide⟩, _, fun _ _ h9 => h9, pw_ps h _ hW152⟩
                    · conv => whnf
                      exact ⟨(by omega), (by omega), ⟨_, rfl, by decide⟩, _, fun _ _ h9 => h9, pw_ps h _ hW152⟩
                · conv => whnf
                  refine np_rd_i (hW32.ga ho22 ho23) ?_
                  conv => whnf
                  refine pw_ck h (fun _ h => ?_)
                  conv => whnf
                  refine pw_wr (a := u20) (i := u21) (d := upd (S30 u20 u21) ((u24 + 1) : Int32).toNatClampNeg (u26 + 1)) hW32 ho23 (pw_ent_arr ho22).symm h (fun S158 f159 hW160 h => ?_)
                  conv => whnf
                  refine pw_br h (fun _ h => ?_) (fun _ h => ?_)
                  · conv => whnf
                    refine np_rd_i (hW160.ga ho22 ho23) ?_
                    conv => whnf
                    refine pw_ck h (fun _ h => ?_)
                    conv => whnf
                    refine np_rd_i (hW160.ga ho22 ho23) ?_
                    conv => whnf
                    refine pw_ck h (fun _ h => ?_)
                    conv => whnf
                    refine pw_wr (a := u20) (i := u21) (d := upd (S158 u20 u21) ((u24 + 2) : Int32).toNatClampNeg ((S158 u20 u21 ((u24 + 2) : Int32).toNatClampNeg) + 1)) hW160 ho23 (pw_ent_arr ho22).symm h (fun S161 f162 hW163 h => ?_)
                    conv => whnf
                    refine np_rd_i (hW163.g ho18) ?_
                    conv => whnf
                    refine np_chk_i (pw_and rfl (pw_and rfl (pw_and rfl (pw_and rfl ((pw_and (pw_le (by omega)) (pw_le (by omega)))))))) ?_
                    conv => whnf
                    refine ⟨q, S161, u17, u19, rfl, ho18, hW163, pw_bd h (fun S164 r167 h f165 hW166 => ?_)⟩
                    rcases r167 with r169 | e170
                    · replace h := pw_ei h
                      conv => whnf
                      refine pw_st h (fun z171 h => ?_)
                      conv => whnf
                      refine np_rd_i (hW166.ga ho22 ho23) ?_
                      conv => whnf
                      refine pw_ck h (fun _ h => ?_)
                      conv => whnf
                      refine pw_br h (fun _ h => ?_) (fun _ h => ?_)
                      · conv => whnf
                        refine pw_st h (fun z172 h => ?_)
                        conv => whnf
                        refine np_rd_i (hW166.ga ho22 ho23) ?_
                        conv => whnf
                        refine pw_ck h (fun _ h => ?_)
                        conv => whnf
                        refine pw_wr (a := u20) (i := u21) (d := upd (S164 u20 u21) ((u24 + 3) : Int32).toNatClampNeg z171) hW166 ho23 (pw_ent_arr ho22).symm h (fun S173 f174 hW175 h => ?_)
                        conv => whnf
                        refine pw_br h (fun _ h => ?_) (fun _ h => ?_)
                        · conv => whnf
                          exact ⟨(by omega), (by omega), ⟨_, rfl, by decide⟩, _, fun _ _ h9 => h9, pw_ps h _ hW175⟩
                        · conv => whnf
                          refine np_rd_i (hW175.g ho18) ?_
                          conv => whnf
                          refine np_chk_i (pw_and rfl (pw_and rfl (pw_and rfl (pw_and rfl ((pw_and (pw_le (by omega)) (pw_le (by omega)))))))) ?_
                          conv => whnf
                          refine ⟨q, S173, u17, u19, rfl, ho18, hW175, pw_bd h (fun S176 r179 h f177 hW178 => ?_)⟩
                          rcases r179 with r181 | e182
                          · replace h := pw_ei h
                            conv => whnf
                            refine np_rd_i (hW178.ga ho22 ho23) ?_
                            conv => whnf
                            refine pw_ck h (fun _ h => ?_)
                            conv => whnf
                            refine np_rd_i (hW178.ga ho22 ho23) ?_
                            conv => whnf
                            refine pw_ck h (fun _ h => ?_)
                            conv => whnf
                            refine pw_br h (fun _ h => ?_) (fun _ h => ?_)
                            · conv => whnf
                              refine np_rd_i (hW178.ga ho22 ho23) ?_
                              conv => whnf
                              refine pw_ck h (fun _ h => ?_)
                              conv => whnf
                              refine np_chk_i (pw_and rfl (pw_and rfl (pw_and rfl ((pw_and (pw_le (by omega)) (pw_le (by omega))))))) ?_
                              conv => whnf
                              refine ⟨q, S176, u17, ((S176 u20 u21 (u24 : Int32).toNatClampNeg) - 1), u19, z58, u26, u20, u21, rfl, ho18, ho22, ho23, hW178, pw_bd h (fun S183 r186 h f184 hW185 => ?_)⟩
                              conv => whnf
                              refine pw_br h (fun _ h => ?_) (fun _ h => ?_)
                              · conv => whnf
                                exact ⟨(by omega), (by omega), ⟨_, rfl, by decide⟩, _, fun _ _ h9 => h9, pw_ps h _ hW185⟩
                              · conv => whnf
                                exact ⟨(by omega), (by omega), ⟨_, rfl, by decide⟩, _, fun _ _ h9 => h9, pw_ps h _ hW185⟩
                            · conv => whnf
                              exact ⟨(by omega), (by omega), ⟨_, rfl, by decide⟩, _, fun _ _ h9 => h9, pw_ps h _ hW178⟩
                          · exact (pw_pn h).elim
                      · conv => whnf
                        refine np_rd_i (hW166.ga ho22 ho23) ?_
                        conv => whnf
                        refine pw_ck h (fun _ h => ?_)
                        conv => whnf
                        refine pw_br h (fun _ h => ?_) (fun _ h => ?_)
                        · conv => whnf
                          refine np_rd_i (hW166.ga ho22 ho23) ?_
                          conv => whnf
                          refine pw_ck h (fun _ h => ?_)
                          conv => whnf
                          refine np_rd_i (hW166.g ho18) ?_
                          conv => whnf
                          refine np_chk_i (pw_and rfl (pw_and rfl (pw_and rfl (pw_and rfl ((pw_and (pw_le (by omega)) (pw_le (by omega)))))))) ?_
                          conv => whnf
                          refine ⟨q, S164, u17, ((S164 u20 u21 (u24 : Int32).toNatClampNeg) - 1), rfl, ho18, hW166, pw_bd h (fun S188 r191 h f189 hW190 => ?_)⟩
                          rcases r191 with r193 | e194
                          · replace h := pw_ei h
                            conv => whnf
                            refine pw_br h (fun _ h => ?_) (fun _ h => ?_)
                            · conv => whnf
                              refine pw_st h (fun z195 h => ?_)
                              conv => whnf
                              refine np_rd_i (hW190.ga ho22 ho23) ?_
                              conv => whnf
                              refine pw_ck h (fun _ h => ?_)
                              conv => whnf
                              refine pw_wr (a := u20) (i := u21) (d := upd (S188 u20 u21) ((u24 + 3) : Int32).toNatClampNeg z171) hW190 ho23 (pw_ent_arr ho22).symm h (fun S196 f197 hW198 h => ?_)
                              conv => whnf
                              refine pw_br h (fun _ h => ?_) (fun _ h => ?_)
                              · conv => whnf
                                exact ⟨(by omega), (by omega), ⟨_, rfl, by decide⟩, _, fun _ _ h9 => h9, pw_ps h _ hW198⟩
                              · conv => whnf
                                refine np_rd_i (hW198.g ho18) ?_
                                conv => whnf
                                refine np_chk_i (pw_and rfl (pw_and rfl (pw_and rfl (pw_and rfl ((pw_and (pw_le (by omega)) (pw_le (by omega)))))))) ?_
                                conv => whnf
                                refine ⟨q, S196, u17, u19, rfl, ho18, hW198, pw_bd h (fun S199 r202 h f200 hW201 => ?_)⟩
                                rcases r202 with r204 | e205
                                · replace h := pw_ei h
                                  conv => whnf
                                  refine np_rd_i (hW201.ga ho22 ho23) ?_
                                  conv => whnf
                                  refine pw_ck h (fun _ h => ?_)
                                  conv => whnf
                                  refine np_rd_i (hW201.ga ho22 ho23) ?_
                                  conv => whnf
                                  refine pw_ck h (fun _ h => ?_)
                                  conv => whnf
                                  refine pw_br h (fun _ h => ?_) (fun _ h => ?_)
                                  · conv => whnf
                                    refine np_rd_i (hW201.ga ho22 ho23) ?_
                                    conv => whnf
                                    refine pw_ck h (fun _ h => ?_)
                                    conv => whnf
                                    refine np_chk_i (pw_and rfl (pw_and rfl (pw_and rfl ((pw_and (pw_le (by omega)) (pw_le (by omega))))))) ?_
                                    conv => whnf
                                    refine ⟨q, S199, u17, ((S199 u20 u21 (u24 : Int32).toNatClampNeg) - 1), u19, z58, u26, u20, u21, rfl, ho18, ho22, ho23, hW201, pw_bd h (fun S206 r209 h f207 hW208 => ?_)⟩
                                    conv => whnf
                                    refine pw_br h (fun _ h => ?_) (fun _ h => ?_)
                                    · conv => whnf
                                      exact ⟨(by omega), (by omega), ⟨_, rfl, by decide⟩, _, fun _ _ h9 => h9, pw_ps h _ hW208⟩
                                    · conv => whnf
                                      exact ⟨(by omega), (by omega), ⟨_, rfl, by decide⟩, _, fun _ _ h9 => h9, pw_ps h _ hW208⟩
                                  · conv => whnf
                                    exact ⟨(by omega), (by omega), ⟨_, rfl, by decide⟩, _, fun _ _ h9 => h9, pw_ps h _ hW201⟩
                                · exact (pw_pn h).elim
                            · conv => whnf
                              refine pw_st h (fun z211 h => ?_)
                              conv => whnf
                              refine np_rd_i (hW190.ga ho22 ho23) ?_
                              conv => whnf
                              refine pw_ck h (fun _ h => ?_)
                              conv => whnf
                              refine pw_wr (a := u20) (i := u21) (d := upd (S188 u20 u21) ((u24 + 3) : Int32).toNatClampNeg z171) hW190 ho23 (pw_ent_arr ho22).symm h (fun S212 f213 hW214 h => ?_)
                              conv => whnf
                              refine pw_br h (fun _ h => ?_) (fun _ h => ?_)
                              · conv => whnf
                                exact ⟨(by omega), (by omega), ⟨_, rfl, by decide⟩, _, fun _ _ h9 => h9, pw_ps h _ hW214⟩
                              · conv => whnf
                                refine np_rd_i (hW214.g ho18) ?_
                                conv => whnf
                                refine np_chk_i (pw_and rfl (pw_and rfl (pw_and rfl (pw_and rfl ((pw_and (pw_le (by omega)) (pw_le (by omega)))))))) ?_
                                conv => whnf
                                refine ⟨q, S212, u17, u19, rfl, ho18, hW214, pw_bd h (fun S215 r218 h f216 hW217 => ?_)⟩
                                rcases r218 with r220 | e221
                                · replace h := pw_ei h
                                  conv => whnf
                                  refine np_rd_i (hW217.ga ho22 ho23) ?_
                                  conv => whnf
                                  refine pw_ck h (fun _ h => ?_)
                                  conv => whnf
                                  refine np_rd_i (hW217.ga ho22 ho23) ?_
                                  conv => whnf
                                  refine pw_ck h (fun _ h => ?_)
                                  conv => whnf
                                  refine pw_br h (fun _ h => ?_) (fun _ h => ?_)
                                  · conv => whnf
                                    refine np_rd_i (hW217.ga ho22 ho23) ?_
                                    conv => whnf
                                    refine pw_ck h (fun _ h => ?_)
                                    conv => whnf
                                    refine np_chk_i (pw_and rfl (pw_and rfl (pw_and rfl ((pw_and (pw_le (by omega)) (pw_le (by omega))))))) ?_
                                    conv => whnf
                                    refine ⟨q, S215, u17, ((S215 u20 u21 (u24 : Int32).toNatClampNeg) - 1), u19, z58, u26, u20, u21, rfl, ho18, ho22, ho23, hW217, pw_bd h (fun S222 r225 h f223 hW224 => ?_)⟩
                                    conv => whnf
                                    refine pw_br h (fun _ h => ?_) (fun _ h => ?_)
                                    · conv => whnf
                                      exact ⟨(by omega), (by omega), ⟨_, rfl, by decide⟩, _, fun _ _ h9 => h9, pw_ps h _ hW224⟩
                                    · conv => whnf
                                      exact ⟨(by omega), (by omega), ⟨_, rfl, by decide⟩, _, fun _ _ h9 => h9, pw_ps h _ hW224⟩
                                  · conv => whnf
                                    exact ⟨(by omega), (by omega), ⟨_, rfl, by decide⟩, _, fun _ _ h9 => h9, pw_ps h _ hW217⟩
                                · exact (pw_pn h).elim
                          · exact (pw_pn h).elim
                        · conv => whnf
                          refine pw_st h (fun z227 h => ?_)
                          conv => whnf
                          refine np_rd_i (hW166.ga ho22 ho23) ?_
                          conv => whnf
                          refine pw_ck h (fun _ h => ?_)
                          conv => whnf
                          refine pw_wr (a := u20) (i := u21) (d := upd (S164 u20 u21) ((u24 + 3) : Int32).toNatClampNeg z171) hW166 ho23 (pw_ent_arr ho22).symm h (fun S228 f229 hW230 h => ?_)
                          conv => whnf
                          refine pw_br h (fun _ h => ?_) (fun _ h => ?_)
                          · conv => whnf
                            exact ⟨(by omega), (by omega), ⟨_, rfl, by decide⟩, _, fun _ _ h9 => h9, pw_ps h _ hW230⟩
                          · conv => whnf
                            refine np_rd_i (hW230.g ho18) ?_
                            conv => whnf
                            refine np_chk_i (pw_and rfl (pw_and rfl (pw_and rfl (pw_and rfl ((pw_and (pw_le (by omega)) (pw_le (by omega)))))))) ?_
                            conv => whnf
                            refine ⟨q, S228, u17, u19, rfl, ho18, hW230, pw_bd h (fun S231 r234 h f232 hW233 => ?_)⟩
                            rcases r234 with r236 | e237
                            · replace h := pw_ei h
                              conv => whnf
                              refine np_rd_i (hW233.ga ho22 ho23) ?_
                              conv => whnf
                              refine pw_ck h (fun _ h => ?_)
                              conv => whnf
                              refine np_rd_i (hW233.ga ho22 ho23) ?_
                              conv => whnf
                              refine pw_ck h (fun _ h => ?_)
                              conv => whnf
                              refine pw_br h (fun _ h => ?_) (fun _ h => ?_)
                              · conv => whnf
                                refine np_rd_i (hW233.ga ho22 ho23) ?_
                                conv => whnf
                                refine pw_ck h (fun _ h => ?_)
                                conv => whnf
                                refine np_chk_i (pw_and rfl (pw_and rfl (pw_and rfl ((pw_and (pw_le (by omega)) (pw_le (by omega))))))) ?_
                                conv => whnf
                                refine ⟨q, S231, u17, ((S231 u20 u21 (u24 : Int32).toNatClampNeg) - 1), u19, z58, u26, u20, u21, rfl, ho18, ho22, ho23, hW233, pw_bd h (fun S238 r241 h f239 hW240 => ?_)⟩
                                conv => whnf
                                refine pw_br h (fun _ h => ?_) (fun _ h => ?_)
                                · conv => whnf
                                  exact ⟨(by omega), (by omega), ⟨_, rfl, by decide⟩, _, fun _ _ h9 => h9, pw_ps h _ hW240⟩
                                · conv => whnf
                                  exact ⟨(by omega), (by omega), ⟨_, rfl, by decide⟩, _, fun _ _ h9 => h9, pw_ps h _ hW240⟩
                              · conv => whnf
                                exact ⟨(by omega), (by omega), ⟨_, rfl, by decide⟩, _, fun _ _ h9 => h9, pw_ps h _ hW233⟩
                            · exact (pw_pn h).elim
                    · exact (pw_pn h).elim
                  · conv => whnf
                    refine np_rd_i (hW160.ga ho22 ho23) ?_
                    conv => whnf
                    refine pw_ck h (fun _ h => ?_)
                    conv => whnf
                    refine np_chk_i (pw_and rfl (pw_and rfl (pw_and rfl ((pw_and (pw_le (by omega)) (pw_le (by omega))))))) ?_
                    conv => whnf
                    refine ⟨q, S158, u17, 4, u19, (S158 u20 u21 ((u24 + 4) : Int32).toNatClampNeg), 0, rfl, ho18, hW160, pw_bd h (fun S243 r246 h f244 hW245 => ?_)⟩
                    conv => whnf
                    refine pw_st h (fun z248 h => ?_)
                    conv => whnf
                    refine np_rd_i (hW245.ga ho22 ho23) ?_
                    conv => whnf
                    refine pw_ck h (fun _ h => ?_)
                    conv => whnf
                    refine np_rd_i (hW245.ga ho22 ho23) ?_
                    conv => whnf
                    refine pw_ck h (fun _ h => ?_)
                    conv => whnf
                    refine pw_wr (a := u20) (i := u21) (d := upd (S243 u20 u21) ((u24 + 4) : Int32).toNatClampNeg ((S243 u20 u21 ((u24 + 4) : Int32).toNatClampNeg) + 1)) hW245 ho23 (pw_ent_arr ho22).symm h (fun S249 f250 hW251 h => ?_)
                    conv => whnf
                    refine pw_br h (fun _ h => ?_) (fun _ h => ?_)
                    · conv => whnf
                      refine pw_br h (fun _ h => ?_) (fun _ h => ?_)
                      · conv => whnf
                        exact ⟨(by omega), (by omega), ⟨_, rfl, by decide⟩, _, fun _ _ h9 => h9, pw_ps h _ hW251⟩
                      · conv => whnf
                        refine np_rd_i (hW251.ga ho22 ho23) ?_
                        conv => whnf
                        refine pw_ck h (fun _ h => ?_)
                        conv => whnf
                        refine pw_br h (fun _ h => ?_) (fun _ h => ?_)
                        · conv => whnf
                          refine np_rd_i (hW251.ga ho22 ho23) ?_
                          conv => whnf
                          refine pw_ck h (fun _ h => ?_)
                          conv => whnf
                          refine np_chk_i (pw_and rfl (pw_and rfl (pw_and rfl ((pw_and (pw_le (by omega)) (pw_le (by omega))))))) ?_
                          conv => whnf
                          refine ⟨q, S249, u17, 4, u19, (S249 u20 u21 ((u24 + 4) : Int32).toNatClampNeg), 0, rfl, ho18, hW251, pw_bd h (fun S252 r255 h f253 hW254 => ?_)⟩
                          conv => whnf
                          refine pw_br h (fun _ h => ?_) (fun _ h => ?_)
                          · conv => whnf
                            exact ⟨(by omega), (by omega), ⟨_, rfl, by decide⟩, _, fun _ _ h9 => h9, pw_ps h _ hW254⟩
                          · conv => whnf
                            exact ⟨(by omega), (by omega), ⟨_, rfl, by decide⟩, _, fun _ _ h9 => h9, pw_ps h _ hW254⟩
                        · conv => whnf
                          exact ⟨(by omega), (by omega), ⟨_, rfl, by decide⟩, _, fun _ _ h9 => h9, pw_ps h _ hW251⟩
                    · conv => whnf
                      exact ⟨(by omega), (by omega), ⟨_, rfl, by decide⟩, _, fun _ _ h9 => h9, pw_ps h _ hW251⟩
          · conv => whnf
            refine pw_br h (fun _ h => ?_) (fun _ h => ?_)
            · conv => whnf
              refine pw_br h (fun _ h => ?_) (fun _ h => ?_)
              · conv => whnf
                refine np_rd_i (hW32.g ho18) ?_
                conv => whnf
                refine np_chk_i (pw_and rfl (pw_and rfl (pw_and rfl (pw_and rfl ((pw_and (pw_le (by omega)) (pw_le (by omega)))))))) ?_
                conv => whnf
                refine ⟨q, S30, u17, u19, rfl, ho18, hW32, pw_bd h (fun S257 r260 h f258 hW259 => ?_)⟩
                rcases r260 with r262 | e263
                · replace h := pw_ei h
                  conv => whnf
                  refine np_rd_i (hW259.ga ho22 ho23) ?_
                  conv => whnf
                  refine pw_ck h (fun _ h => ?_)
                  conv => whnf
                  refine np_rd_i (hW259.ga ho22 ho23) ?_
                  conv => whnf
                  refine pw_ck h (fun _ h => ?_)
                  conv => whnf
                  refine pw_br h (fun _ h => ?_) (fun _ h => ?_)
                  · conv => whnf
                    refine np_rd_i (hW259.ga ho22 ho23) ?_
                    conv => whnf
                    refine pw_ck h (fun _ h => ?_)
                    conv => whnf
                    refine pw_br h (fun _ h => ?_) (fun _ h => ?_)
                    · conv => whnf
                      exact ⟨(by omega), (by omega), ⟨_, rfl, by decide⟩, _, fun _ _ h9 => h9, pw_ps h _ hW259⟩
                    · conv => whnf
                      exact ⟨(by omega), (by omega), ⟨_, rfl, by decide⟩, _, fun _ _ h9 => h9, pw_ps h _ hW259⟩
                  · conv => whnf
                    refine np_rd_i (hW259.ga ho22 ho23) ?_
                    conv => whnf
                    refine pw_ck h (fun _ h => ?_)
                    conv => whnf
                    refine np_rd_i (hW259.ga ho22 ho23) ?_
                    conv => whnf
                    refine pw_ck h (fun _ h => ?_)
                    conv => whnf
                    refine pw_br h (fun _ h => ?_) (fun _ h => ?_)
                    · conv => whnf
                      exact ⟨(by omega), (by omega), ⟨_, rfl, by decide⟩, _, fun _ _ h9 => h9, pw_ps h _ hW259⟩
                    · conv => whnf
                      exact ⟨(by omega), (by omega), ⟨_, rfl, by decide⟩, _, fun _ _ h9 => h9, pw_ps h _ hW259⟩
                · exact (pw_pn h).elim
              · conv => whnf
                exact ⟨(by omega), (by omega), ⟨_, rfl, by decide⟩, _, fun _ _ h9 => h9, pw_ps h _ hW32⟩
            · conv => whnf
              refine pw_br h (fun _ h => ?_) (fun _ h => ?_)
              · conv => whnf
                refine np_rd_i (hW32.g ho18) ?_
                conv => whnf
                refine np_chk_i (pw_and rfl (pw_and rfl (pw_and rfl (pw_and rfl ((pw_and (pw_le (by omega)) (pw_le (by omega)))))))) ?_
                conv => whnf
                refine ⟨q, S30, u17, u19, rfl, ho18, hW32, pw_bd h (fun S264 r267 h f265 hW266 => ?_)⟩
                rcases r267 with r269 | e270
                · replace h := pw_ei h
                  conv => whnf
                  refine np_rd_i (hW266.ga ho22 ho23) ?_
                  conv => whnf
                  refine pw_ck h (fun _ h => ?_)
                  conv => whnf
                  refine np_rd_i (hW266.ga ho22 ho23) ?_
                  conv => whnf
                  refine pw_ck h (fun _ h => ?_)
                  conv => whnf
                  refine pw_br h (fun _ h => ?_) (fun _ h => ?_)
                  · conv => whnf
                    refine np_rd_i (hW266.ga ho22 ho23) ?_
                    conv => whnf
                    refine pw_ck h (fun _ h => ?_)
                    conv => whnf
                    refine pw_br h (fun _ h => ?_) (fun _ h => ?_)
                    · conv => whnf
                      exact ⟨(by omega), (by omega), ⟨_, rfl, by decide⟩, _, fun _ _ h9 => h9, pw_ps h _ hW266⟩
                    · conv => whnf
                      exact ⟨(by omega), (by omega), ⟨_, rfl, by decide⟩, _, fun _ _ h9 => h9, pw_ps h _ hW266⟩
                  · conv => whnf
                    refine np_rd_i (hW266.ga ho22 ho23) ?_
                    conv => whnf
                    refine pw_ck h (fun _ h => ?_)
                    conv => whnf
                    refine np_rd_i (hW266.ga ho22 ho23) ?_
                    conv => whnf
                    refine pw_ck h (fun _ h => ?_)
                    conv => whnf
                    refine pw_br h (fun _ h => ?_) (fun _ h => ?_)
                    · conv => whnf
                      exact ⟨(by omega), (by omega), ⟨_, rfl, by decide⟩, _, fun _ _ h9 => h9, pw_ps h _ hW266⟩
                    · conv => whnf
                      exact ⟨(by omega), (by omega), ⟨_, rfl, by decide⟩, _, fun _ _ h9 => h9, pw_ps h _ hW266⟩
                · exact (pw_pn h).elim
              · conv => whnf
                exact ⟨(by omega), (by omega), ⟨_, rfl, by decide⟩, _, fun _ _ h9 => h9, pw_ps h _ hW32⟩
        · conv => whnf
          refine np_rd_i (hW32.ga ho22 ho23) ?_
          conv => whnf
          refine pw_ck h (fun _ h => ?_)
          conv => whnf
          refine pw_br h (fun _ h => ?_) (fun _ h => ?_)
          · conv => whnf
            refine pw_br h (fun _ h => ?_) (fun _ h => ?_)
            · conv => whnf
              exact ⟨(by omega), (by omega), ⟨_, rfl, by decide⟩, _, fun _ _ h9 => h9, pw_ps h _ hW32⟩
            · conv => whnf
              exact ⟨(by omega), (by omega), ⟨_, rfl, by decide⟩, _, fun _ _ h9 => h9, pw_ps h _ hW32⟩
          · conv => whnf
            refine np_rd_i (hW32.ga ho22 ho23) ?_
            conv => whnf
            refine pw_ck h (fun _ h => ?_)
            conv => whnf
            refine pw_st h (fun z271 h => ?_)
            conv => whnf
            refine pw_br h (fun _ h => ?_) (fun _ h => ?_)
            · conv => whnf
              refine np_rd_i (hW32.ga ho22 ho23) ?_
              conv => whnf
              refine pw_ck h (fun _ h => ?_)
              conv => whnf
              refine pw_wr (a := u20) (i := u21) (d := upd (S30 u20 u21) ((u24 + 1) : Int32).toNatClampNeg u26) hW32 ho23 (pw_ent_arr ho22).symm h (fun S272 f273 hW274 h => ?_)
              conv => whnf
              refine pw_br h (fun _ h => ?_) (fun _ h => ?_)
              · conv => whnf
                refine np_rd_i (hW274.ga ho22 ho23) ?_
                conv => whnf
                refine pw_ck h (fun _ h => ?_)
                conv => whnf
                refine np_rd_i (hW274.ga ho22 ho23) ?_
                conv => whnf
                refine pw_ck h (fun _ h => ?_)
                conv => whnf
                refine pw_wr (a := u20) (i := u21) (d := upd (S272 u20 u21) ((u24 + 2) : Int32).toNatClampNeg ((S272 u20 u21 ((u24 + 2) : Int32).toNatClampNeg) + 1)) hW274 ho23 (pw_ent_arr ho22).symm h (fun S275 f276 hW277 h => ?_)
                conv => whnf
                refine np_rd_i (hW277.g ho18) ?_
                conv => whnf
                refine np_chk_i (pw_and rfl (pw_and rfl (pw_and rfl (pw_and rfl ((pw_and (pw_le (by omega)) (pw_le (by omega)))))))) ?_
                conv => whnf
                refine ⟨q, S275, u17, u19, rfl, ho18, hW277, pw_bd h (fun S278 r281 h f279 hW280 => ?_)⟩
                rcases r281 with r283 | e284
                · replace h := pw_ei h
                  conv => whnf
                  refine pw_st h (fun z285 h => ?_)
                  conv => whnf
                  refine np_rd_i (hW280.ga ho22 ho23) ?_
                  conv => whnf
                  refine pw_ck h (fun _ h => ?_)
                  conv => whnf
                  refine pw_br h (fun _ h => ?_) (fun _ h => ?_)
                  · conv => whnf
                    refine pw_st h (fun z286 h => ?_)
                    conv => whnf
                    refine np_rd_i (hW280.ga ho22 ho23) ?_
                    conv => whnf
                    refine pw_ck h (fun _ h => ?_)
                    conv => whnf
                    refine pw_wr (a := u20) (i := u21) (d := upd (S278 u20 u21) ((u24 + 3) : Int32).toNatClampNeg z285) hW280 ho23 (pw_ent_arr ho22).symm h (fun S287 f288 hW289 h => ?_)
                    conv => whnf
                    refine pw_br h (fun _ h => ?_) (fun _ h => ?_)
                    · conv => whnf
                      exact ⟨(by omega), (by omega), ⟨_, rfl, by decide⟩, _, fun _ _ h9 => h9, pw_ps h _ hW289⟩
                    · conv => whnf
                      refine np_rd_i (hW289.g ho18) ?_
                      conv => whnf
                      refine np_chk_i (pw_and rfl (pw_and rfl (pw_and rfl (pw_and rfl ((pw_and (pw_le (by omega)) (pw_le (by omega)))))))) ?_
                      conv => whnf
                      refine ⟨q, S287, u17, u19, rfl, ho18, hW289, pw_bd h (fun S290 r293 h f291 hW292 => ?_)⟩
                      rcases r293 with r295 | e296
                      · replace h := pw_ei h
                        conv => whnf
                        refine np_rd_i (hW292.ga ho22 ho23) ?_
                        conv => whnf
                        refine pw_ck h (fun _ h => ?_)
                        conv => whnf
                        refine np_rd_i (hW292.ga ho22 ho23) ?_
                        conv => whnf
                        refine pw_ck h (fun _ h => ?_)
                        conv => whnf
                        refine pw_br h (fun _ h => ?_) (fun _ h => ?_)
                        · conv => whnf
                          refine np_rd_i (hW292.ga ho22 ho23) ?_
                          conv => whnf
                          refine pw_ck h (fun _ h => ?_)
                          conv => whnf
                          refine np_chk_i (pw_and rfl (pw_and rfl (pw_and rfl ((pw_and (pw_le (by omega)) (pw_le (by omega))))))) ?_
                          conv => whnf
                          refine ⟨q, S290, u17, ((S290 u20 u21 (u24 : Int32).toNatClampNeg) - 1), u19, z271, u26, u20, u21, rfl, ho18, ho22, ho23, hW292, pw_bd h (fun S297 r300 h f298 hW299 => ?_)⟩
                          conv => whnf
                          refine pw_br h (fun _ h => ?_) (fun _ h => ?_)
                          · conv => whnf
                            exact ⟨(by omega), (by omega), ⟨_, rfl, by decide⟩, _, fun _ _ h9 => h9, pw_ps h _ hW299⟩
                          · conv => whnf
                            exact ⟨(by omega), (by omega), ⟨_, rfl, by decide⟩, _, fun _ _ h9 => h9, pw_ps h _ hW299⟩
                        · conv => whnf
                          exact ⟨(by omega), (by omega), ⟨_, rfl, by decide⟩, _, fun _ _ h9 => h9, pw_ps h _ hW292⟩
                      · exact (pw_pn h).elim
                  · conv => whnf
                    refine np_rd_i (hW280.ga ho22 ho23) ?_
                    conv => whnf
                    refine pw_ck h (fun _ h => ?_)
                    conv => whnf
                    refine pw_br h (fun _ h => ?_) (fun _ h => ?_)
                    · conv => whnf
                      refine np_rd_i (hW280.ga ho22 ho23) ?_
                      conv => whnf
                      refine pw_ck h (fun _ h => ?_)
                      conv => whnf
                      refine np_rd_i (hW280.g ho18) ?_
                      conv => whnf
                      refine np_chk_i (pw_and rfl (pw_and rfl (pw_and rfl (pw_and rfl ((pw_and (pw_le (by omega)) (pw_le (by omega)))))))) ?_
                      conv => whnf
                      refine ⟨q, S278, u17, ((S278 u20 u21 (u24 : Int32).toNatClampNeg) - 1), rfl, ho18, hW280, pw_bd h (fun S302 r305 h f303 hW304 => ?_)⟩
                      rcases r305 with r307 | e308
                      · replace h := pw_ei h
                        conv => whnf
                        refine pw_br h (fun _ h => ?_) (fun _ h => ?_)
                        · conv => whnf
                          refine pw_st h (fun z309 h => ?_)
                          conv => whnf
                          refine np_rd_i (hW304.ga ho22 ho23) ?_
                          conv => whnf
                          refine pw_ck h (fun _ h => ?_)
                          conv => whnf
                          refine pw_wr (a := u20) (i := u21) (d := upd (S302 u20 u21) ((u24 + 3) : Int32).toNatClampNeg z285) hW304 ho23 (pw_ent_arr ho22).symm h (fun S310 f311 hW312 h => ?_)
                          conv => whnf
                          refine pw_br h (fun _ h => ?_) (fun _ h => ?_)
                          · conv => whnf
                            exact ⟨(by omega), (by omega), ⟨_, rfl, by decide⟩, _, fun _ _ h9 => h9, pw_ps h _ hW312⟩
                          · conv => whnf
                            refine np_rd_i (hW312.g ho18) ?_
                            conv => whnf
                            refine np_chk_i (pw_and rfl (pw_and rfl (pw_and rfl (pw_and rfl ((pw_and (pw_le (by omega)) (pw_le (by omega)))))))) ?_
                            conv => whnf
                            refine ⟨q, S310, u17, u19, rfl, ho18, hW312, pw_bd h (fun S313 r316 h f314 hW315 => ?_)⟩
                            rcases r316 with r318 | e319
                            · replace h := pw_ei h
                              conv => whnf
                              refine np_rd_i (hW315.ga ho22 ho23) ?_
                              conv => whnf
                              refine pw_ck h (fun _ h => ?_)
                              conv => whnf
                              refine np_rd_i (hW315.ga ho22 ho23) ?_
                              conv => whnf
                              refine pw_ck h (fun _ h => ?_)
                              conv => whnf
                              refine pw_br h (fun _ h => ?_) (fun _ h => ?_)
                              · conv => whnf
                                refine np_rd_i (hW315.ga ho22 ho23) ?_
                                conv => whnf
                                refine pw_ck h (fun _ h => ?_)
                                conv => whnf
                                refine np_chk_i (pw_and rfl (pw_and rfl (pw_and rfl ((pw_and (pw_le (by omega)) (pw_le (by omega))))))) ?_
                                conv => whnf
                                refine ⟨q, S313, u17, ((S313 u20 u21 (u24 : Int32).toNatClampNeg) - 1), u19, z271, u26, u20, u21, rfl, ho18, ho22, ho23, hW315, pw_bd h (fun S320 r323 h f321 hW322 => ?_)⟩
                                conv => whnf
                                refine pw_br h (fun _ h => ?_) (fun _ h => ?_)
                                · conv => whnf
                                  exact ⟨(by omega), (by omega), ⟨_, rfl, by decide⟩, _, fun _ _ h9 => h9, pw_ps h _ hW322⟩
                                · conv => whnf
                                  exact ⟨(by omega), (by omega), ⟨_, rfl, by decide⟩, _, fun _ _ h9 => h9, pw_ps h _ hW322⟩
                              · conv => whnf
                                exact ⟨(by omega), (by omega), ⟨_, rfl, by decide⟩, _, fun _ _ h9 => h9, pw_ps h _ hW315⟩
                            · exact (pw_pn h).elim
                        · conv => whnf
                          refine pw_st h (fun z325 h => ?_)
                          conv => whnf
                          refine np_rd_i (hW304.ga ho22 ho23) ?_
                          conv => whnf
                          refine pw_ck h (fun _ h => ?_)
                          conv => whnf
                          refine pw_wr (a := u20) (i := u21) (d := upd (S302 u20 u21) ((u24 + 3) : Int32).toNatClampNeg z285) hW304 ho23 (pw_ent_arr ho22).symm h (fun S326 f327 hW328 h => ?_)
                          conv => whnf
                          refine pw_br h (fun _ h => ?_) (fun _ h => ?_)
                          · conv => whnf
                            exact ⟨(by omega), (by omega), ⟨_, rfl, by decide⟩, _, fun _ _ h9 => h9, pw_ps h _ hW328⟩
                          · conv => whnf
                            refine np_rd_i (hW328.g ho18) ?_
                            conv => whnf
                            refine np_chk_i (pw_and rfl (pw_and rfl (pw_and rfl (pw_and rfl ((pw_and (pw_le (by omega)) (pw_le (by omega)))))))) ?_
                            conv => whnf
                            refine ⟨q, S326, u17, u19, rfl, ho18, hW328, pw_bd h (fun S329 r332 h f330 hW331 => ?_)⟩
                            rcases r332 with r334 | e335
                            · replace h := pw_ei h
                              conv => whnf
                              refine np_rd_i (hW331.ga ho22 ho23) ?_
                              conv => whnf
                              refine pw_ck h (fun _ h => ?_)
                              conv => whnf
                              refine np_rd_i (hW331.ga ho22 ho23) ?_
                              conv => whnf
                              refine pw_ck h (fun _ h => ?_)
                              conv => whnf
                              refine pw_br h (fun _ h => ?_) (fun _ h => ?_)
                              · conv => whnf
                                refine np_rd_i (hW331.ga ho22 ho23) ?_
                                conv => whnf
                                refine pw_ck h (fun _ h => ?_)
                                conv => whnf
                                refine np_chk_i (pw_and rfl (pw_and rfl (pw_and rfl ((pw_and (pw_le (by omega)) (pw_le (by omega))))))) ?_
                                conv => whnf
                                refine ⟨q, S329, u17, ((S329 u20 u21 (u24 : Int32).toNatClampNeg) - 1), u19, z271, u26, u20, u21, rfl, ho18, ho22, ho23, hW331, pw_bd h (fun S336 r339 h f337 hW338 => ?_)⟩
                                conv => whnf
                                refine pw_br h (fun _ h => ?_) (fun _ h => ?_)
                                · conv => whnf
                                  exact ⟨(by omega), (by omega), ⟨_, rfl, by decide⟩, _, fun _ _ h9 => h9, pw_ps h _ hW338⟩
                                · conv => whnf
                                  exact ⟨(by omega), (by omega), ⟨_, rfl, by decide⟩, _, fun _ _ h9 => h9, pw_ps h _ hW338⟩
                              · conv => whnf
                                exact ⟨(by omega), (by omega), ⟨_, rfl, by decide⟩, _, fun _ _ h9 => h9, pw_ps h _ hW331⟩
                            · exact (pw_pn h).elim
                      · exact (pw_pn h).elim
                    · conv => whnf
                      refine pw_st h (fun z341 h => ?_)
                      conv => whnf
                      refine np_rd_i (hW280.ga ho22 ho23) ?_
                      conv => whnf
                      refine pw_ck h (fun _ h => ?_)
                      conv => whnf
                      refine pw_wr (a := u20) (i := u21) (d := upd (S278 u20 u21) ((u24 + 3) : Int32).toNatClampNeg z285) hW280 ho23 (pw_ent_arr ho22).symm h (fun S342 f343 hW344 h => ?_)
                      conv => whnf
                      refine pw_br h (fun _ h => ?_) (fun _ h => ?_)
                      · conv => whnf
                        exact ⟨(by omega), (by omega), ⟨_, rfl, by decide⟩, _, fun _ _ h9 => h9, pw_ps h _ hW344⟩
                      · conv => whnf
                        refine np_rd_i (hW344.g ho18) ?_
                        conv => whnf
                        refine np_chk_i (pw_and rfl (pw_and rfl (pw_and rfl (pw_and rfl ((pw_and (pw_le (by omega)) (pw_le (by omega)))))))) ?_
                        conv => whnf
                        refine ⟨q, S342, u17, u19, rfl, ho18, hW344, pw_bd h (fun S345 r348 h f346 hW347 => ?_)⟩
                        rcases r348 with r350 | e351
                        · replace h := pw_ei h
                          conv => whnf
                          refine np_rd_i (hW347.ga ho22 ho23) ?_
                          conv => whnf
                          refine pw_ck h (fun _ h => ?_)
                          conv => whnf
                          refine np_rd_i (hW347.ga ho22 ho23) ?_
                          conv => whnf
                          refine pw_ck h (fun _ h => ?_)
                          conv => whnf
                          refine pw_br h (fun _ h => ?_) (fun _ h => ?_)
                          · conv => whnf
                            refine np_rd_i (hW347.ga ho22 ho23) ?_
                            conv => whnf
                            refine pw_ck h (fun _ h => ?_)
                            conv => whnf
                            refine np_chk_i (pw_and rfl (pw_and rfl (pw_and rfl ((pw_and (pw_le (by omega)) (pw_le (by omega))))))) ?_
                            conv => whnf
                            refine ⟨q, S345, u17, ((S345 u20 u21 (u24 : Int32).toNatClampNeg) - 1), u19, z271, u26, u20, u21, rfl, ho18, ho22, ho23, hW347, pw_bd h (fun S352 r355 h f353 hW354 => ?_)⟩
                            conv => whnf
                            refine pw_br h (fun _ h => ?_) (fun _ h => ?_)
                            · conv => whnf
                              exact ⟨(by omega), (by omega), ⟨_, rfl, by decide⟩, _, fun _ _ h9 => h9, pw_ps h _ hW354⟩
                            · conv => whnf
                              exact ⟨(by omega), (by omega), ⟨_, rfl, by decide⟩, _, fun _ _ h9 => h9, pw_ps h _ hW354⟩
                          · conv => whnf
                            exact ⟨(by omega), (by omega), ⟨_, rfl, by decide⟩, _, fun _ _ h9 => h9, pw_ps h _ hW347⟩
                        · exact (pw_pn h).elim
                · exact (pw_pn h).elim
              · conv => whnf
                refine np_rd_i (hW274.ga ho22 ho23) ?_
                conv => whnf
                refine pw_ck h (fun _ h => ?_)
                conv => whnf
                refine np_chk_i (pw_and rfl (pw_and rfl (pw_and rfl ((pw_and (pw_le (by omega)) (pw_le (by omega))))))) ?_
                conv => whnf
                refine ⟨q, S272, u17, 4, u19, (S272 u20 u21 ((u24 + 4) : Int32).toNatClampNeg), 0, rfl, ho18, hW274, pw_bd h (fun S357 r360 h f358 hW359 => ?_)⟩
                conv => whnf
                refine pw_st h (fun z362 h => ?_)
                conv => whnf
                refine np_rd_i (hW359.ga ho22 ho23) ?_
                conv => whnf
                refine pw_ck h (fun _ h => ?_)
                conv => whnf
                refine np_rd_i (hW359.ga ho22 ho23) ?_
                conv => whnf
                refine pw_ck h (fun _ h => ?_)
                conv => whnf
                refine pw_wr (a := u20) (i := u21) (d := upd (S357 u20 u21) ((u24 + 4) : Int32).toNatClampNeg ((S357 u20 u21 ((u24 + 4) : Int32).toNatClampNeg) + 1)) hW359 ho23 (pw_ent_arr ho22).symm h (fun S363 f364 hW365 h => ?_)
                conv => whnf
                refine pw_br h (fun _ h => ?_) (fun _ h => ?_)
                · conv => whnf
                  refine pw_br h (fun _ h => ?_) (fun _ h => ?_)
                  · conv => whnf
                    exact ⟨(by omega), (by omega), ⟨_, rfl, by decide⟩, _, fun _ _ h9 => h9, pw_ps h _ hW365⟩
                  · conv => whnf
                    refine np_rd_i (hW365.ga ho22 ho23) ?_
                    conv => whnf
                    refine pw_ck h (fun _ h => ?_)
                    conv => whnf
                    refine pw_br h (fun _ h => ?_) (fun _ h => ?_)
                    · conv => whnf
                      refine np_rd_i (hW365.ga ho22 ho23) ?_
                      conv => whnf
                      refine pw_ck h (fun _ h => ?_)
                      conv => whnf
                      refine np_chk_i (pw_and rfl (pw_and rfl (pw_and rfl ((pw_and (pw_le (by omega)) (pw_le (by omega))))))) ?_
                      conv => whnf
                      refine ⟨q, S363, u17, 4, u19, (S363 u20 u21 ((u24 + 4) : Int32).toNatClampNeg), 0, rfl, ho18, hW365, pw_bd h (fun S366 r369 h f367 hW368 => ?_)⟩
                      conv => whnf
                      refine pw_br h (fun _ h => ?_) (fun _ h => ?_)
                      · conv => whnf
                        exact ⟨(by omega), (by omega), ⟨_, rfl, by decide⟩, _, fun _ _ h9 => h9, pw_ps h _ hW368⟩
                      · conv => whnf
                        exact ⟨(by omega), (by omega), ⟨_, rfl, by decide⟩, _, fun _ _ h9 => h9, pw_ps h _ hW368⟩
                    · conv => whnf
                      exact ⟨(by omega), (by omega), ⟨_, rfl, by decide⟩, _, fun _ _ h9 => h9, pw_ps h _ hW365⟩
                · conv => whnf
                  exact ⟨(by omega), (by omega), ⟨_, rfl, by decide⟩, _, fun _ _ h9 => h9, pw_ps h _ hW365⟩
            · conv => whnf
              refine np_rd_i (hW32.ga ho22 ho23) ?_
              conv => whnf
              refine pw_ck h (fun _ h => ?_)
              conv => whnf
              refine pw_wr (a := u20) (i := u21) (d := upd (S30 u20 u21) ((u24 + 1) : Int32).toNatClampNeg (u26 + 1)) hW32 ho23 (pw_ent_arr ho22).symm h (fun S371 f372 hW373 h => ?_)
              conv => whnf
              refine pw_br h (fun _ h => ?_) (fun _ h => ?_)
              · conv => whnf
                refine np_rd_i (hW373.ga ho22 ho23) ?_
                conv => whnf
                refine pw_ck h (fun _ h => ?_)
                conv => whnf
                refine np_rd_i (hW373.ga ho22 ho23) ?_
                conv => whnf
                refine pw_ck h (fun _ h => ?_)
                conv => whnf
                refine pw_wr (a := u20) (i := u21) (d := upd (S371 u20 u21) ((u24 + 2) : Int32).toNatClampNeg ((S371 u20 u21 ((u24 + 2) : Int32).toNatClampNeg) + 1)) hW373 ho23 (pw_ent_arr ho22).symm h (fun S374 f375 hW376 h => ?_)
                conv => whnf
                refine np_rd_i (hW376.g ho18) ?_
                conv => whnf
                refine np_chk_i (pw_and rfl (pw_and rfl (pw_and rfl (pw_and rfl ((pw_and (pw_le (by omega)) (pw_le (by omega)))))))) ?_
                conv => whnf
                refine ⟨q, S374, u17, u19, rfl, ho18, hW376, pw_bd h (fun S377 r380 h f378 hW379 => ?_)⟩
                rcases r380 with r382 | e383
                · replace h := pw_ei h
                  conv => whnf
                  refine pw_st h (fun z384 h => ?_)
                  conv => whnf
                  refine np_rd_i (hW379.ga ho22 ho23) ?_
                  conv => whnf
                  refine pw_ck h (fun _ h => ?_)
                  conv => whnf
                  refine pw_br h (fun _ h => ?_) (fun _ h => ?_)
                  · conv => whnf
                    refine pw_st h (fun z385 h => ?_)
                    conv => whnf
                    refine np_rd_i (hW379.ga ho22 ho23) ?_
                    conv => whnf
                    refine pw_ck h (fun _ h => ?_)
                    conv => whnf
                    refine pw_wr (a := u20) (i := u21) (d := upd (S377 u20 u21) ((u24 + 3) : Int32).toNatClampNeg z384) hW379 ho23 (pw_ent_arr ho22).symm h (fun S386 f387 hW388 h => ?_)
                    conv => whnf
                    refine pw_br h (fun _ h => ?_) (fun _ h => ?_)
                    · conv => whnf
                      exact ⟨(by omega), (by omega), ⟨_, rfl, by decide⟩, _, fun _ _ h9 => h9, pw_ps h _ hW388⟩
                    · conv => whnf
                      refine np_rd_i (hW388.g ho18) ?_
                      conv => whnf
                      refine np_chk_i (pw_and rfl (pw_and rfl (pw_and rfl (pw_and rfl ((pw_and (pw_le (by omega)) (pw_le (by omega)))))))) ?_
                      conv => whnf
                      refine ⟨q, S386, u17, u19, rfl, ho18, hW388, pw_bd h (fun S389 r392 h f390 hW391 => ?_)⟩
                      rcases r392 with r394 | e395
                      · replace h := pw_ei h
                        conv => whnf
                        refine np_rd_i (hW391.ga ho22 ho23) ?_
                        conv => whnf
                        refine pw_ck h (fun _ h => ?_)
                        conv => whnf
                        refine np_rd_i (hW391.ga ho22 ho23) ?_
                        conv => whnf
                        refine pw_ck h (fun _ h => ?_)
                        conv => whnf
                        refine pw_br h (fun _ h => ?_) (fun _ h => ?_)
                        · conv => whnf
                          refine np_rd_i (hW391.ga ho22 ho23) ?_
                          conv => whnf
                          refine pw_ck h (fun _ h => ?_)
                          conv => whnf
                          refine np_chk_i (pw_and rfl (pw_and rfl (pw_and rfl ((pw_and (pw_le (by omega)) (pw_le (by omega))))))) ?_
                          conv => whnf
                          refine ⟨q, S389, u17, ((S389 u20 u21 (u24 : Int32).toNatClampNeg) - 1), u19, z271, u26, u20, u21, rfl, ho18, ho22, ho23, hW391, pw_bd h (fun S396 r399 h f397 hW398 => ?_)⟩
                          conv => whnf
                          refine pw_br h (fun _ h => ?_) (fun _ h => ?_)
                          · conv => whnf
                            exact ⟨(by omega), (by omega), ⟨_, rfl, by decide⟩, _, fun _ _ h9 => h9, pw_ps h _ hW398⟩
                          · conv => whnf
                            exact ⟨(by omega), (by omega), ⟨_, rfl, by decide⟩, _, fun _ _ h9 => h9, pw_ps h _ hW398⟩
                        · conv => whnf
                          exact ⟨(by omega), (by omega), ⟨_, rfl, by decide⟩, _, fun _ _ h9 => h9, pw_ps h _ hW391⟩
                      · exact (pw_pn h).elim
                  · conv => whnf
                    refine np_rd_i (hW379.ga ho22 ho23) ?_
                    conv => whnf
                    refine pw_ck h (fun _ h => ?_)
                    conv => whnf
                    refine pw_br h (fun _ h => ?_) (fun _ h => ?_)
                    · conv => whnf
                      refine np_rd_i (hW379.ga ho22 ho23) ?_
                      conv => whnf
                      refine pw_ck h (fun _ h => ?_)
                      conv => whnf
                      refine np_rd_i (hW379.g ho18) ?_
                      conv => whnf
                      refine np_chk_i (pw_and rfl (pw_and rfl (pw_and rfl (pw_and rfl ((pw_and (pw_le (by omega)) (pw_le (by omega)))))))) ?_
                      conv => whnf
                      refine ⟨q, S377, u17, ((S377 u20 u21 (u24 : Int32).toNatClampNeg) - 1), rfl, ho18, hW379, pw_bd h (fun S401 r404 h f402 hW403 => ?_)⟩
                      rcases r404 with r406 | e407
                      · replace h := pw_ei h
                        conv => whnf
                        refine pw_br h (fun _ h => ?_) (fun _ h => ?_)
                        · conv => whnf
                          refine pw_st h (fun z408 h => ?_)
                          conv => whnf
                          refine np_rd_i (hW403.ga ho22 ho23) ?_
                          conv => whnf
                          refine pw_ck h (fun _ h => ?_)
                          conv => whnf
                          refine pw_wr (a := u20) (i := u21) (d := upd (S401 u20 u21) ((u24 + 3) : Int32).toNatClampNeg z384) hW403 ho23 (pw_ent_arr ho22).symm h (fun S409 f410 hW411 h => ?_)
                          conv => whnf
                          refine pw_br h (fun _ h => ?_) (fun _ h => ?_)
                          · conv => whnf
                            exact ⟨(by omega), (by omega), ⟨_, rfl, by decide⟩, _, fun _ _ h9 => h9, pw_ps h _ hW411⟩
                          · conv => whnf
                            refine np_rd_i (hW411.g ho18) ?_
                            conv => whnf
                            refine np_chk_i (pw_and rfl (pw_and rfl (pw_and rfl (pw_and rfl ((pw_and (pw_le (by omega)) (pw_le (by omega)))))))) ?_
                            conv => whnf
                            refine ⟨q, S409, u17, u19, rfl, ho18, hW411, pw_bd h (fun S412 r415 h f413 hW414 => ?_)⟩
                            rcases r415 with r417 | e418
                            · replace h := pw_ei h
                              conv => whnf
                              refine np_rd_i (hW414.ga ho22 ho23) ?_
                              conv => whnf
                              refine pw_ck h (fun _ h => ?_)
                              conv => whnf
                              refine np_rd_i (hW414.ga ho22 ho23) ?_
                              conv => whnf
                              refine pw_ck h (fun _ h => ?_)
                              conv => whnf
                              refine pw_br h (fun _ h => ?_) (fun _ h => ?_)
                              · conv => whnf
                                refine np_rd_i (hW414.ga ho22 ho23) ?_
                                conv => whnf
                                refine pw_ck h (fun _ h => ?_)
                                conv => whnf
                                refine np_chk_i (pw_and rfl (pw_and rfl (pw_and rfl ((pw_and (pw_le (by omega)) (pw_le (by omega))))))) ?_
                                conv => whnf
                                refine ⟨q, S412, u17, ((S412 u20 u21 (u24 : Int32).toNatClampNeg) - 1), u19, z271, u26, u20, u21, rfl, ho18, ho22, ho23, hW414, pw_bd h (fun S419 r422 h f420 hW421 => ?_)⟩
                                conv => whnf
                                refine pw_br h (fun _ h => ?_) (fun _ h => ?_)
                                · conv => whnf
                                  exact ⟨(by omega), (by omega), ⟨_, rfl, by decide⟩, _, fun _ _ h9 => h9, pw_ps h _ hW421⟩
                                · conv => whnf
                                  exact ⟨(by omega), (by omega), ⟨_, rfl, by decide⟩, _, fun _ _ h9 => h9, pw_ps h _ hW421⟩
                              · conv => whnf
                                exact ⟨(by omega), (by omega), ⟨_, rfl, by decide⟩, _, fun _ _ h9 => h9, pw_ps h _ hW414⟩
                            · exact (pw_pn h).elim
                        · conv => whnf
                          refine pw_st h (fun z424 h => ?_)
                          conv => whnf
                          refine np_rd_i (hW403.ga ho22 ho23) ?_
                          conv => whnf
                          refine pw_ck h (fun _ h => ?_)
                          conv => whnf
                          refine pw_wr (a := u20) (i := u21) (d := upd (S401 u20 u21) ((u24 + 3) : Int32).toNatClampNeg z384) hW403 ho23 (pw_ent_arr ho22).symm h (fun S425 f426 hW427 h => ?_)
                          conv => whnf
                          refine pw_br h (fun _ h => ?_) (fun _ h => ?_)
                          · conv => whnf
                            exact ⟨(by omega), (by omega), ⟨_, rfl, by decide⟩, _, fun _ _ h9 => h9, pw_ps h _ hW427⟩
                          · conv => whnf
                            refine np_rd_i (hW427.g ho18) ?_
                            conv => whnf
                            refine np_chk_i (pw_and rfl (pw_and rfl (pw_and rfl (pw_and rfl ((pw_and (pw_le (by omega)) (pw_le (by omega)))))))) ?_
                            conv => whnf
                            refine ⟨q, S425, u17, u19, rfl, ho18, hW427, pw_bd h (fun S428 r431 h f429 hW430 => ?_)⟩
                            rcases r431 with r433 | e434
                            · replace h := pw_ei h
                              conv => whnf
                              refine np_rd_i (hW430.ga ho22 ho23) ?_
                              conv => whnf
                              refine pw_ck h (fun _ h => ?_)
                              conv => whnf
                              refine np_rd_i (hW430.ga ho22 ho23) ?_
                              conv => whnf
                              refine pw_ck h (fun _ h => ?_)
                              conv => whnf
                              refine pw_br h (fun _ h => ?_) (fun _ h => ?_)
                              · conv => whnf
                                refine np_rd_i (hW430.ga ho22 ho23) ?_
                                conv => whnf
                                refine pw_ck h (fun _ h => ?_)
                                conv => whnf
                                refine np_chk_i (pw_and rfl (pw_and rfl (pw_and rfl ((pw_and (pw_le (by omega)) (pw_le (by omega))))))) ?_
                                conv => whnf
                                refine ⟨q, S428, u17, ((S428 u20 u21 (u24 : Int32).toNatClampNeg) - 1), u19, z271, u26, u20, u21, rfl, ho18, ho22, ho23, hW430, pw_bd h (fun S435 r438 h f436 hW437 => ?_)⟩
                                conv => whnf
                                refine pw_br h (fun _ h => ?_) (fun _ h => ?_)
                                · conv => whnf
                                  exact ⟨(by omega), (by omega), ⟨_, rfl, by decide⟩, _, fun _ _ h9 => h9, pw_ps h _ hW437⟩
                                · conv => whnf
                                  exact ⟨(by omega), (by omega), ⟨_, rfl, by decide⟩, _, fun _ _ h9 => h9, pw_ps h _ hW437⟩
                              · conv => whnf
                                exact ⟨(by omega), (by omega), ⟨_, rfl, by decide⟩, _, fun _ _ h9 => h9, pw_ps h _ hW430⟩
                            · exact (pw_pn h).elim
                      · exact (pw_pn h).elim
                    · conv => whnf
                      refine pw_st h (fun z440 h => ?_)
                      conv => whnf
                      refine np_rd_i (hW379.ga ho22 ho23) ?_
                      conv => whnf
                      refine pw_ck h (fun _ h => ?_)
                      conv => whnf
                      refine pw_wr (a := u20) (i := u21) (d := upd (S377 u20 u21) ((u24 + 3) : Int32).toNatClampNeg z384) hW379 ho23 (pw_ent_arr ho22).symm h (fun S441 f442 hW443 h => ?_)
                      conv => whnf
                      refine pw_br h (fun _ h => ?_) (fun _ h => ?_)
                      · conv => whnf
                        exact ⟨(by omega), (by omega), ⟨_, rfl, by decide⟩, _, fun _ _ h9 => h9, pw_ps h _ hW443⟩
                      · conv => whnf
                        refine np_rd_i (hW443.g ho18) ?_
                        conv => whnf
                        refine np_chk_i (pw_and rfl (pw_and rfl (pw_and rfl (pw_and rfl ((pw_and (pw_le (by omega)) (pw_le (by omega)))))))) ?_
                        conv => whnf
                        refine ⟨q, S441, u17, u19, rfl, ho18, hW443, pw_bd h (fun S444 r447 h f445 hW446 => ?_)⟩
                        rcases r447 with r449 | e450
                        · replace h := pw_ei h
                          conv => whnf
                          refine np_rd_i (hW446.ga ho22 ho23) ?_
                          conv => whnf
                          refine pw_ck h (fun _ h => ?_)
                          conv => whnf
                          refine np_rd_i (hW446.ga ho22 ho23) ?_
                          conv => whnf
                          refine pw_ck h (fun _ h => ?_)
                          conv => whnf
                          refine pw_br h (fun _ h => ?_) (fun _ h => ?_)
                          · conv => whnf
                            refine np_rd_i (hW446.ga ho22 ho23) ?_
                            conv => whnf
                            refine pw_ck h (fun _ h => ?_)
                            conv => whnf
                            refine np_chk_i (pw_and rfl (pw_and rfl (pw_and rfl ((pw_and (pw_le (by omega)) (pw_le (by omega))))))) ?_
                            conv => whnf
                            refine ⟨q, S444, u17, ((S444 u20 u21 (u24 : Int32).toNatClampNeg) - 1), u19, z271, u26, u20, u21, rfl, ho18, ho22, ho23, hW446, pw_bd h (fun S451 r454 h f452 hW453 => ?_)⟩
                            conv => whnf
                            refine pw_br h (fun _ h => ?_) (fun _ h => ?_)
                            · conv => whnf
                              exact ⟨(by omega), (by omega), ⟨_, rfl, by decide⟩, _, fun _ _ h9 => h9, pw_ps h _ hW453⟩
                            · conv => whnf
                              exact ⟨(by omega), (by omega), ⟨_, rfl, by decide⟩, _, fun _ _ h9 => h9, pw_ps h _ hW453⟩
                          · conv => whnf
                            exact ⟨(by omega), (by omega), ⟨_, rfl, by decide⟩, _, fun _ _ h9 => h9, pw_ps h _ hW446⟩
                        · exact (pw_pn h).elim
                · exact (pw_pn h).elim
              · conv => whnf
                refine np_rd_i (hW373.ga ho22 ho23) ?_
                conv => whnf
                refine pw_ck h (fun _ h => ?_)
                conv => whnf
                refine np_chk_i (pw_and rfl (pw_and rfl (pw_and rfl ((pw_and (pw_le (by omega)) (pw_le (by omega))))))) ?_
                conv => whnf
                refine ⟨q, S371, u17, 4, u19, (S371 u20 u21 ((u24 + 4) : Int32).toNatClampNeg), 0, rfl, ho18, hW373, pw_bd h (fun S456 r459 h f457 hW458 => ?_)⟩
                conv => whnf
                refine pw_st h (fun z461 h => ?_)
                conv => whnf
                refine np_rd_i (hW458.ga ho22 ho23) ?_
                conv => whnf
                refine pw_ck h (fun _ h => ?_)
                conv => whnf
                refine np_rd_i (hW458.ga ho22 ho23) ?_
                conv => whnf
                refine pw_ck h (fun _ h => ?_)
                conv => whnf
                refine pw_wr (a := u20) (i := u21) (d := upd (S456 u20 u21) ((u24 + 4) : Int32).toNatClampNeg ((S456 u20 u21 ((u24 + 4) : Int32).toNatClampNeg) + 1)) hW458 ho23 (pw_ent_arr ho22).symm h (fun S462 f463 hW464 h => ?_)
                conv => whnf
                refine pw_br h (fun _ h => ?_) (fun _ h => ?_)
                · conv => whnf
                  refine pw_br h (fun _ h => ?_) (fun _ h => ?_)
                  · conv => whnf
                    exact ⟨(by omega), (by omega), ⟨_, rfl, by decide⟩, _, fun _ _ h9 => h9, pw_ps h _ hW464⟩
                  · conv => whnf
                    refine np_rd_i (hW464.ga ho22 ho23) ?_
                    conv => whnf
                    refine pw_ck h (fun _ h => ?_)
                    conv => whnf
                    refine pw_br h (fun _ h => ?_) (fun _ h => ?_)
                    · conv => whnf
                      refine np_rd_i (hW464.ga ho22 ho23) ?_
                      conv => whnf
                      refine pw_ck h (fun _ h => ?_)
                      conv => whnf
                      refine np_chk_i (pw_and rfl (pw_and rfl (pw_and rfl ((pw_and (pw_le (by omega)) (pw_le (by omega))))))) ?_
                      conv => whnf
                      refine ⟨q, S462, u17, 4, u19, (S462 u20 u21 ((u24 + 4) : Int32).toNatClampNeg), 0, rfl, ho18, hW464, pw_bd h (fun S465 r468 h f466 hW467 => ?_)⟩
                      conv => whnf
                      refine pw_br h (fun _ h => ?_) (fun _ h => ?_)
                      · conv => whnf
                        exact ⟨(by omega), (by omega), ⟨_, rfl, by decide⟩, _, fun _ _ h9 => h9, pw_ps h _ hW467⟩
                      · conv => whnf
                        exact ⟨(by omega), (by omega), ⟨_, rfl, by decide⟩, _, fun _ _ h9 => h9, pw_ps h _ hW467⟩
                    · conv => whnf
                      exact ⟨(by omega), (by omega), ⟨_, rfl, by decide⟩, _, fun _ _ h9 => h9, pw_ps h _ hW464⟩
                · conv => whnf
                  exact ⟨(by omega), (by omega), ⟨_, rfl, by decide⟩, _, fun _ _ h9 => h9, pw_ps h _ hW464⟩
      · conv => whnf
        refine pw_st h (fun z470 h => ?_)
        conv => whnf
        refine pw_br h (fun _ h => ?_) (fun _ h => ?_)
        · conv => whnf
          refine pw_br h (fun _ h => ?_) (fun _ h => ?_)
          · conv => whnf
            refine np_rd_i (hW32.ga ho22 ho23) ?_
            conv => whnf
            refine pw_ck h (fun _ h => ?_)
            conv => whnf
            refine pw_br h (fun _ h => ?_) (fun _ h => ?_)
            · conv => whnf
              refine pw_br h (fun _ h => ?_) (fun _ h => ?_)
              · conv => whnf
                refine pw_br h (fun _ h => ?_) (fun _ h => ?_)
                · conv => whnf
                  refine np_rd_i (hW32.g ho18) ?_
                  conv => whnf
                  refine np_chk_i (pw_and rfl (pw_and rfl (pw_and rfl (pw_and rfl ((pw_and (pw_le (by omega)) (pw_le (by omega)))))))) ?_
                  conv => whnf
                  refine ⟨q, S30, u17, u19, rfl, ho18, hW32, pw_bd h (fun S471 r474 h f472 hW473 => ?_)⟩
                  rcases r474 with r476 | e477
                  · replace h := pw_ei h
                    conv => whnf
                    refine np_rd_i (hW473.ga ho22 ho23) ?_
                    conv => whnf
                    refine pw_ck h (fun _ h => ?_)
                    conv => whnf
                    refine np_rd_i (hW473.ga ho22 ho23) ?_
                    conv => whnf
                    refine pw_ck h (fun _ h => ?_)
                    conv => whnf
                    refine pw_br h (fun _ h => ?_) (fun _ h => ?_)
                    · conv => whnf
                      refine np_rd_i (hW473.ga ho22 ho23) ?_
                      conv => whnf
                      refine pw_ck h (fun _ h => ?_)
                      conv => whnf
                      refine pw_br h (fun _ h => ?_) (fun _ h => ?_)
                      · conv => whnf
                        exact ⟨(by omega), (by omega), ⟨_, rfl, by decide⟩, _, fun _ _ h9 => h9, pw_ps h _ hW473⟩
                      · conv => whnf
                        exact ⟨(by omega), (by omega), ⟨_, rfl, by decide⟩, _, fun _ _ h9 => h9, pw_ps h _ hW473⟩
                    · conv => whnf
                      refine np_rd_i (hW473.ga ho22 ho23) ?_
                      conv => whnf
                      refine pw_ck h (fun _ h => ?_)
                      conv => whnf
                      refine np_rd_i (hW473.ga ho22 ho23) ?_
                      conv => whnf
                      refine pw_ck h (fun _ h => ?_)
                      conv => whnf
                      refine pw_br h (fun _ h => ?_) (fun _ h => ?_)
                      · conv => whnf
                        exact ⟨(by omega), (by omega), ⟨_, rfl, by decide⟩, _, fun _ _ h9 => h9, pw_ps h _ hW473⟩
                      · conv => whnf
                        exact ⟨(by omega), (by omega), ⟨_, rfl, by decide⟩, _, fun _ _ h9 => h9, pw_ps h _ hW473⟩
                  · exact (pw_pn h).elim
                · conv => whnf
                  exact ⟨(by omega), (by omega), ⟨_, rfl, by decide⟩, _, fun _ _ h9 => h9, pw_ps h _ hW32⟩
              · conv => whnf
                refine pw_br h (fun _ h => ?_) (fun _ h => ?_)
                · conv => whnf
                  refine np_rd_i (hW32.g ho18) ?_
                  conv => whnf
                  refine np_chk_i (pw_and rfl (pw_and rfl (pw_and rfl (pw_and rfl ((pw_and (pw_le (by omega)) (pw_le (by omega)))))))) ?_
                  conv => whnf
                  refine ⟨q, S30, u17, u19, rfl, ho18, hW32, pw_bd h (fun S478 r481 h f479 hW480 => ?_)⟩
                  rcases r481 with r483 | e484
                  · replace h := pw_ei h
                    conv => whnf
                    refine np_rd_i (hW480.ga ho22 ho23) ?_
                    conv => whnf
                    refine pw_ck h (fun _ h => ?_)
                    conv => whnf
                    refine np_rd_i (hW480.ga ho22 ho23) ?_
                    conv => whnf
                    refine pw_ck h (fun _ h => ?_)
                    conv => whnf
                    refine pw_br h (fun _ h => ?_) (fun _ h => ?_)
                    · conv => whnf
                      refine np_rd_i (hW480.ga ho22 ho23) ?_
                      conv => whnf
                      refine pw_ck h (fun _ h => ?_)
                      conv => whnf
                      refine pw_br h (fun _ h => ?_) (fun _ h => ?_)
                      · conv => whnf
                        exact ⟨(by omega), (by omega), ⟨_, rfl, by decide⟩, _, fun _ _ h9 => h9, pw_ps h _ hW480⟩
                      · conv => whnf
                        exact ⟨(by omega), (by omega), ⟨_, rfl, by decide⟩, _, fun _ _ h9 => h9, pw_ps h _ hW480⟩
                    · conv => whnf
                      refine np_rd_i (hW480.ga ho22 ho23) ?_
                      conv => whnf
                      refine pw_ck h (fun _ h => ?_)
                      conv => whnf
                      refine np_rd_i (hW480.ga ho22 ho23) ?_
                      conv => whnf
                      refine pw_ck h (fun _ h => ?_)
                      conv => whnf
                      refine pw_br h (fun _ h => ?_) (fun _ h => ?_)
                      · conv => whnf
                        exact ⟨(by omega), (by omega), ⟨_, rfl, by decide⟩, _, fun _ _ h9 => h9, pw_ps h _ hW480⟩
                      · conv => whnf
                        exact ⟨(by omega), (by omega), ⟨_, rfl, by decide⟩, _, fun _ _ h9 => h9, pw_ps h _ hW480⟩
                  · exact (pw_pn h).elim
                · conv => whnf
                  exact ⟨(by omega), (by omega), ⟨_, rfl, by decide⟩, _, fun _ _ h9 => h9, pw_ps h _ hW32⟩
            · conv => whnf
              refine np_rd_i (hW32.ga ho22 ho23) ?_
              conv => whnf
              refine pw_ck h (fun _ h => ?_)
              conv => whnf
              refine pw_br h (fun _ h => ?_) (fun _ h => ?_)
              · conv => whnf
                refine pw_br h (fun _ h => ?_) (fun _ h => ?_)
                · conv => whnf
                  exact ⟨(by omega), (by omega), ⟨_, rfl, by decide⟩, _, fun _ _ h9 => h9, pw_ps h _ hW32⟩
                · conv => whnf
                  exact ⟨(by omega), (by omega), ⟨_, rfl, by decide⟩, _, fun _ _ h9 => h9, pw_ps h _ hW32⟩
              · conv => whnf
                refine np_rd_i (hW32.ga ho22 ho23) ?_
                conv => whnf
                refine pw_ck h (fun _ h => ?_)
                conv => whnf
                refine pw_st h (fun z485 h => ?_)
                conv => whnf
                refine pw_br h (fun _ h => ?_) (fun _ h => ?_)
                · conv => whnf
                  refine np_rd_i (hW32.ga ho22 ho23) ?_
                  conv => whnf
                  refine pw_ck h (fun _ h => ?_)
                  conv => whnf
                  refine pw_wr (a := u20) (i := u21) (d := upd (S30 u20 u21) ((u24 + 1) : Int32).toNatClampNeg u26) hW32 ho23 (pw_ent_arr ho22).symm h (fun S486 f487 hW488 h => ?_)
                  conv => whnf
                  refine pw_br h (fun _ h => ?_) (fun _ h => ?_)
                  · conv => whnf
                    refine np_rd_i (hW488.ga ho22 ho23) ?_
                    conv => whnf
                    refine pw_ck h (fun _ h => ?_)
                    conv => whnf
                    refine np_rd_i (hW488.ga ho22 ho23) ?_
                    conv => whnf
                    refine pw_ck h (fun _ h => ?_)
                    conv => whnf
                    refine pw_wr (a := u20) (i := u21) (d := upd (S486 u20 u21) ((u24 + 2) : Int32).toNatClampNeg ((S486 u20 u21 ((u24 + 2) : Int32).toNatClampNeg) + 1)) hW488 ho23 (pw_ent_arr ho22).symm h (fun S489 f490 hW491 h => ?_)
                    conv => whnf
                    refine np_rd_i (hW491.g ho18) ?_
                    conv => whnf
                    refine np_chk_i (pw_and rfl (pw_and rfl (pw_and rfl (pw_and rfl ((pw_and (pw_le (by omega)) (pw_le (by omega)))))))) ?_
                    conv => whnf
                    refine ⟨q, S489, u17, u19, rfl, ho18, hW491, pw_bd h (fun S492 r495 h f493 hW494 => ?_)⟩
                    rcases r495 with r497 | e498
                    · replace h := pw_ei h
                      conv => whnf
                      refine pw_st h (fun z499 h => ?_)
                      conv => whnf
                      refine np_rd_i (hW494.ga ho22 ho23) ?_
                      conv => whnf
                      refine pw_ck h (fun _ h => ?_)
                      conv => whnf
                      refine pw_br h (fun _ h => ?_) (fun _ h => ?_)
                      · conv => whnf
                        refine pw_st h (fun z500 h => ?_)
                        conv => whnf
                        refine np_rd_i (hW494.ga ho22 ho23) ?_
                        conv => whnf
                        refine pw_ck h (fun _ h => ?_)
                        conv => whnf
                        refine pw_wr (a := u20) (i := u21) (d := upd (S492 u20 u21) ((u24 + 3) : Int32).toNatClampNeg z499) hW494 ho23 (pw_ent_arr ho22).symm h (fun S501 f502 hW503 h => ?_)
                        conv => whnf
                        refine pw_br h (fun _ h => ?_) (fun _ h => ?_)
                        · conv => whnf
                          exact ⟨(by omega), (by omega), ⟨_, rfl, by decide⟩, _, fun _ _ h9 => h9, pw_ps h _ hW503⟩
                        · conv => whnf
                          refine np_rd_i (hW503.g ho18) ?_
                          conv => whnf
                          refine np_chk_i (pw_and rfl (pw_and rfl (pw_and rfl (pw_and rfl ((pw_and (pw_le (by omega)) (pw_le (by omega)))))))) ?_
                          conv => whnf
                          refine ⟨q, S501, u17, u19, rfl, ho18, hW503, pw_bd h (fun S504 r507 h f505 hW506 => ?_)⟩
                          rcases r507 with r509 | e510
                          · replace h := pw_ei h
                            conv => whnf
                            refine np_rd_i (hW506.ga ho22 ho23) ?_
                            conv => whnf
                            refine pw_ck h (fun _ h => ?_)
                            conv => whnf
                            refine np_rd_i (hW506.ga ho22 ho23) ?_
                            conv => whnf
                            refine pw_ck h (fun _ h => ?_)
                            conv => whnf
                            refine pw_br h (fun _ h => ?_) (fun _ h => ?_)
                            · conv => whnf
                              refine np_rd_i (hW506.ga ho22 ho23) ?_
                              conv => whnf
                              refine pw_ck h (fun _ h => ?_)
                              conv => whnf
                              refine np_chk_i (pw_and rfl (pw_and rfl (pw_and rfl ((pw_and (pw_le (by omega)) (pw_le (by omega))))))) ?_
                              conv => whnf
                              refine ⟨q, S504, u17, ((S504 u20 u21 (u24 : Int32).toNatClampNeg) - 1), u19, z485, u26, u20, u21, rfl, ho18, ho22, ho23, hW506, pw_bd h (fun S511 r514 h f512 hW513 => ?_)⟩
                              conv => whnf
                              refine pw_br h (fun _ h => ?_) (fun _ h => ?_)
                              · conv => whnf
                                exact ⟨(by omega), (by omega), ⟨_, rfl, by decide⟩, _, fun _ _ h9 => h9, pw_ps h _ hW513⟩
                              · conv => whnf
                                exact ⟨(by omega), (by omega), ⟨_, rfl, by decide⟩, _, fun _ _ h9 => h9, pw_ps h _ hW513⟩
                            · conv => whnf
                              exact ⟨(by omega), (by omega), ⟨_, rfl, by decide⟩, _, fun _ _ h9 => h9, pw_ps h _ hW506⟩
                          · exact (pw_pn h).elim
                      · conv => whnf
                        refine np_rd_i (hW494.ga ho22 ho23) ?_
                        conv => whnf
                        refine pw_ck h (fun _ h => ?_)
                        conv => whnf
                        refine pw_br h (fun _ h => ?_) (fun _ h => ?_)
                        · conv => whnf
                          refine np_rd_i (hW494.ga ho22 ho23) ?_
                          conv => whnf
                          refine pw_ck h (fun _ h => ?_)
                          conv => whnf
                          refine np_rd_i (hW494.g ho18) ?_
                          conv => whnf
                          refine np_chk_i (pw_and rfl (pw_and rfl (pw_and rfl (pw_and rfl ((pw_and (pw_le (by omega)) (pw_le (by omega)))))))) ?_
                          conv => whnf
                          refine ⟨q, S492, u17, ((S492 u20 u21 (u24 : Int32).toNatClampNeg) - 1), rfl, ho18, hW494, pw_bd h (fun S516 r519 h f517 hW518 => ?_)⟩
                          rcases r519 with r521 | e522
                          · replace h := pw_ei h
                            conv => whnf
                            refine pw_br h (fun _ h => ?_) (fun _ h => ?_)
                            · conv => whnf
                              refine pw_st h (fun z523 h => ?_)
                              conv => whnf
                              refine np_rd_i (hW518.ga ho22 ho23) ?_
                              conv => whnf
                              refine pw_ck h (fun _ h => ?_)
                              conv => whnf
                              refine pw_wr (a := u20) (i := u21) (d := upd (S516 u20 u21) ((u24 + 3) : Int32).toNatClampNeg z499) hW518 ho23 (pw_ent_arr ho22).symm h (fun S524 f525 hW526 h => ?_)
                              conv => whnf
                              refine pw_br h (fun _ h => ?_) (fun _ h => ?_)
                              · conv => whnf
                                exact ⟨(by omega), (by omega), ⟨_, rfl, by decide⟩, _, fun _ _ h9 => h9, pw_ps h _ hW526⟩
                              · conv => whnf
                                refine np_rd_i (hW526.g ho18) ?_
                                conv => whnf
                                refine np_chk_i (pw_and rfl (pw_and rfl (pw_and rfl (pw_and rfl ((pw_and (pw_le (by omega)) (pw_le (by omega)))))))) ?_
                                conv => whnf
                                refine ⟨q, S524, u17, u19, rfl, ho18, hW526, pw_bd h (fun S527 r530 h f528 hW529 => ?_)⟩
                                rcases r530 with r532 | e533
                                · replace h := pw_ei h
                                  conv => whnf
                                  refine np_rd_i (hW529.ga ho22 ho23) ?_
                                  conv => whnf
                                  refine pw_ck h (fun _ h => ?_)
                                  conv => whnf
                                  refine np_rd_i (hW529.ga ho22 ho23) ?_
                                  conv => whnf
                                  refine pw_ck h (fun _ h => ?_)
                                  conv => whnf
                                  refine pw_br h (fun _ h => ?_) (fun _ h => ?_)
                                  · conv => whnf
                                    refine np_rd_i (hW529.ga ho22 ho23) ?_
                                    conv => whnf
                                    refine pw_ck h (fun _ h => ?_)
                                    conv => whnf
                                    refine np_chk_i (pw_and rfl (pw_and rfl (pw_and rfl ((pw_and (pw_le (by omega)) (pw_le (by omega))))))) ?_
                                    conv => whnf
                                    refine ⟨q, S527, u17, ((S527 u20 u21 (u24 : Int32).toNatClampNeg) - 1), u19, z485, u26, u20, u21, rfl, ho18, ho22, ho23, hW529, pw_bd h (fun S534 r537 h f535 hW536 => ?_)⟩
                                    conv => whnf
                                    refine pw_br h (fun _ h => ?_) (fun _ h => ?_)
                                    · conv => whnf
                                      exact ⟨(by omega), (by omega), ⟨_, rfl, by decide⟩, _, fun _ _ h9 => h9, pw_ps h _ hW536⟩
                                    · conv => whnf
                                      exact ⟨(by omega), (by omega), ⟨_, rfl, by decide⟩, _, fun _ _ h9 => h9, pw_ps h _ hW536⟩
                                  · conv => whnf
                                    exact ⟨(by omega), (by omega), ⟨_, rfl, by decide⟩, _, fun _ _ h9 => h9, pw_ps h _ hW529⟩
                                · exact (pw_pn h).elim
                            · conv => whnf
                              refine pw_st h (fun z539 h => ?_)
                              conv => whnf
                              refine np_rd_i (hW518.ga ho22 ho23) ?_
                              conv => whnf
                              refine pw_ck h (fun _ h => ?_)
                              conv => whnf
                              refine pw_wr (a := u20) (i := u21) (d := upd (S516 u20 u21) ((u24 + 3) : Int32).toNatClampNeg z499) hW518 ho23 (pw_ent_arr ho22).symm h (fun S540 f541 hW542 h => ?_)
                              conv => whnf
                              refine pw_br h (fun _ h => ?_) (fun _ h => ?_)
                              · conv => whnf
                                exact ⟨(by omega), (by omega), ⟨_, rfl, by decide⟩, _, fun _ _ h9 => h9, pw_ps h _ hW542⟩
                              · conv => whnf
                                refine np_rd_i (hW542.g ho18) ?_
                                conv => whnf
                                refine np_chk_i (pw_and rfl (pw_and rfl (pw_and rfl (pw_and rfl ((pw_and (pw_le (by omega)) (pw_le (by omega)))))))) ?_
                                conv => whnf
                                refine ⟨q, S540, u17, u19, rfl, ho18, hW542, pw_bd h (fun S543 r546 h f544 hW545 => ?_)⟩
                                rcases r546 with r548 | e549
                                · replace h := pw_ei h
                                  conv => whnf
                                  refine np_rd_i (hW545.ga ho22 ho23) ?_
                                  conv => whnf
                                  refine pw_ck h (fun _ h => ?_)
                                  conv => whnf
                                  refine np_rd_i (hW545.ga ho22 ho23) ?_
                                  conv => whnf
                                  refine pw_ck h (fun _ h => ?_)
                                  conv => whnf
                                  refine pw_br h (fun _ h => ?_) (fun _ h => ?_)
                                  · conv => whnf
                                    refine np_rd_i (hW545.ga ho22 ho23) ?_
                                    conv => whnf
                                    refine pw_ck h (fun _ h => ?_)
                                    conv => whnf
                                    refine np_chk_i (pw_and rfl (pw_and rfl (pw_and rfl ((pw_and (pw_le (by omega)) (pw_le (by omega))))))) ?_
                                    conv => whnf
                                    refine ⟨q, S543, u17, ((S543 u20 u21 (u24 : Int32).toNatClampNeg) - 1), u19, z485, u26, u20, u21, rfl, ho18, ho22, ho23, hW545, pw_bd h (fun S550 r553 h f551 hW552 => ?_)⟩
                                    conv => whnf
                                    refine pw_br h (fun _ h => ?_) (fun _ h => ?_)
                                    · conv => whnf
                                      exact ⟨(by omega), (by omega), ⟨_, rfl, by decide⟩, _, fun _ _ h9 => h9, pw_ps h _ hW552⟩
                                    · conv => whnf
                                      exact ⟨(by omega), (by omega), ⟨_, rfl, by decide⟩, _, fun _ _ h9 => h9, pw_ps h _ hW552⟩
                                  · conv => whnf
                                    exact ⟨(by omega), (by omega), ⟨_, rfl, by decide⟩, _, fun _ _ h9 => h9, pw_ps h _ hW545⟩
                                · exact (pw_pn h).elim
                          · exact (pw_pn h).elim
                        · conv => whnf
                          refine pw_st h (fun z555 h => ?_)
                          conv => whnf
                          refine np_rd_i (hW494.ga ho22 ho23) ?_
                          conv => whnf
                          refine pw_ck h (fun _ h => ?_)
                          conv => whnf
                          refine pw_wr (a := u20) (i := u21) (d := upd (S492 u20 u21) ((u24 + 3) : Int32).toNatClampNeg z499) hW494 ho23 (pw_ent_arr ho22).symm h (fun S556 f557 hW558 h => ?_)
                          conv => whnf
                          refine pw_br h (fun _ h => ?_) (fun _ h => ?_)
                          · conv => whnf
                            exact ⟨(by omega), (by omega), ⟨_, rfl, by decide⟩, _, fun _ _ h9 => h9, pw_ps h _ hW558⟩
                          · conv => whnf
                            refine np_rd_i (hW558.g ho18) ?_
                            conv => whnf
                            refine np_chk_i (pw_and rfl (pw_and rfl (pw_and rfl (pw_and rfl ((pw_and (pw_le (by omega)) (pw_le (by omega)))))))) ?_
                            conv => whnf
                            refine ⟨q, S556, u17, u19, rfl, ho18, hW558, pw_bd h (fun S559 r562 h f560 hW561 => ?_)⟩
                            rcases r562 with r564 | e565
                            · replace h := pw_ei h
                              conv => whnf
                              refine np_rd_i (hW561.ga ho22 ho23) ?_
                              conv => whnf
                              refine pw_ck h (fun _ h => ?_)
                              conv => whnf
                              refine np_rd_i (hW561.ga ho22 ho23) ?_
                              conv => whnf
                              refine pw_ck h (fun _ h => ?_)
                              conv => whnf
                              refine pw_br h (fun _ h => ?_) (fun _ h => ?_)
                              · conv => whnf
                                refine np_rd_i (hW561.ga ho22 ho23) ?_
                                conv => whnf
                                refine pw_ck h (fun _ h => ?_)
                                conv => whnf
                                refine np_chk_i (pw_and rfl (pw_and rfl (pw_and rfl ((pw_and (pw_le (by omega)) (pw_le (by omega))))))) ?_
                                conv => whnf
                                refine ⟨q, S559, u17, ((S559 u20 u21 (u24 : Int32).toNatClampNeg) - 1), u19, z485, u26, u20, u21, rfl, ho18, ho22, ho23, hW561, pw_bd h (fun S566 r569 h f567 hW568 => ?_)⟩
                                conv => whnf
                                refine pw_br h (fun _ h => ?_) (fun _ h => ?_)
                                · conv => whnf
                                  exact ⟨(by omega), (by omega), ⟨_, rfl, by decide⟩, _, fun _ _ h9 => h9, pw_ps h _ hW568⟩
                                · conv => whnf
                                  exact ⟨(by omega), (by omega), ⟨_, rfl, by decide⟩, _, fun _ _ h9 => h9, pw_ps h _ hW568⟩
                              · conv => whnf
                                exact ⟨(by omega), (by omega), ⟨_, rfl, by decide⟩, _, fun _ _ h9 => h9, pw_ps h _ hW561⟩
                            · exact (pw_pn h).elim
                    · exact (pw_pn h).elim
                  · conv => whnf
                    refine np_rd_i (hW488.ga ho22 ho23) ?_
                    conv => whnf
                    refine pw_ck h (fun _ h => ?_)
                    conv => whnf
                    refine np_chk_i (pw_and rfl (pw_and rfl (pw_and rfl ((pw_and (pw_le (by omega)) (pw_le (by omega))))))) ?_
                    conv => whnf
                    refine ⟨q, S486, u17, 4, u19, (S486 u20 u21 ((u24 + 4) : Int32).toNatClampNeg), 0, rfl, ho18, hW488, pw_bd h (fun S571 r574 h f572 hW573 => ?_)⟩
                    conv => whnf
                    refine pw_st h (fun z576 h => ?_)
                    conv => whnf
                    refine np_rd_i (hW573.ga ho22 ho23) ?_
                    conv => whnf
                    refine pw_ck h (fun _ h => ?_)
                    conv => whnf
                    refine np_rd_i (hW573.ga ho22 ho23) ?_
                    conv => whnf
                    refine pw_ck h (fun _ h => ?_)
                    conv => whnf
                    refine pw_wr (a := u20) (i := u21) (d := upd (S571 u20 u21) ((u24 + 4) : Int32).toNatClampNeg ((S571 u20 u21 ((u24 + 4) : Int32).toNatClampNeg) + 1)) hW573 ho23 (pw_ent_arr ho22).symm h (fun S577 f578 hW579 h => ?_)
                    conv => whnf
                    refine pw_br h (fun _ h => ?_) (fun _ h => ?_)
                    · conv => whnf
                      refine pw_br h (fun _ h => ?_) (fun _ h => ?_)
                      · conv => whnf
                        exact ⟨(by omega), (by omega), ⟨_, rfl, by decide⟩, _, fun _ _ h9 => h9, pw_ps h _ hW579⟩
                      · conv => whnf
                        refine np_rd_i (hW579.ga ho22 ho23) ?_
                        conv => whnf
                        refine pw_ck h (fun _ h => ?_)
                        conv => whnf
                        refine pw_br h (fun _ h => ?_) (fun _ h => ?_)
                        · conv => whnf
                          refine np_rd_i (hW579.ga ho22 ho23) ?_
                          conv => whnf
                          refine pw_ck h (fun _ h => ?_)
                          conv => whnf
                          refine np_chk_i (pw_and rfl (pw_and rfl (pw_and rfl ((pw_and (pw_le (by omega)) (pw_le (by omega))))))) ?_
                          conv => whnf
                          refine ⟨q, S577, u17, 4, u19, (S577 u20 u21 ((u24 + 4) : Int32).toNatClampNeg), 0, rfl, ho18, hW579, pw_bd h (fun S580 r583 h f581 hW582 => ?_)⟩
                          conv => whnf
                          refine pw_br h (fun _ h => ?_) (fun _ h => ?_)
                          · conv => whnf
                            exact ⟨(by omega), (by omega), ⟨_, rfl, by decide⟩, _, fun _ _ h9 => h9, pw_ps h _ hW582⟩
                          · conv => whnf
                            exact ⟨(by omega), (by omega), ⟨_, rfl, by decide⟩, _, fun _ _ h9 => h9, pw_ps h _ hW582⟩
                        · conv => whnf
                          exact ⟨(by omega), (by omega), ⟨_, rfl, by decide⟩, _, fun _ _ h9 => h9, pw_ps h _ hW579⟩
                    · conv => whnf
                      exact ⟨(by omega), (by omega), ⟨_, rfl, by decide⟩, _, fun _ _ h9 => h9, pw_ps h _ hW579⟩
                · conv => whnf
                  refine np_rd_i (hW32.ga ho22 ho23) ?_
                  conv => whnf
                  refine pw_ck h (fun _ h => ?_)
                  conv => whnf
                  refine pw_wr (a := u20) (i := u21) (d := upd (S30 u20 u21) ((u24 + 1) : Int32).toNatClampNeg (u26 + 1)) hW32 ho23 (pw_ent_arr ho22).symm h (fun S585 f586 hW587 h => ?_)
                  conv => whnf
                  refine pw_br h (fun _ h => ?_) (fun _ h => ?_)
                  · conv => whnf
                    refine np_rd_i (hW587.ga ho22 ho23) ?_
                    conv => whnf
                    refine pw_ck h (fun _ h => ?_)
                    conv => whnf
                    refine np_rd_i (hW587.ga ho22 ho23) ?_
                    conv => whnf
                    refine pw_ck h (fun _ h => ?_)
                    conv => whnf
                    refine pw_wr (a := u20) (i := u21) (d := upd (S585 u20 u21) ((u24 + 2) : Int32).toNatClampNeg ((S585 u20 u21 ((u24 + 2) : Int32).toNatClampNeg) + 1)) hW587 ho23 (pw_ent_arr ho22).symm h (fun S588 f589 hW590 h => ?_)
                    conv => whnf
                    refine np_rd_i (hW590.g ho18) ?_
                    conv => whnf
                    refine np_chk_i (pw_and rfl (pw_and rfl (pw_and rfl (pw_and rfl ((pw_and (pw_le (by omega)) (pw_le (by omega)))))))) ?_
                    conv => whnf
                    refine ⟨q, S588, u17, u19, rfl, ho18, hW590, pw_bd h (fun S591 r594 h f592 hW593 => ?_)⟩
                    rcases r594 with r596 | e597
                    · replace h := pw_ei h
                      conv => whnf
                      refine pw_st h (fun z598 h => ?_)
                      conv => whnf
                      refine np_rd_i (hW593.ga ho22 ho23) ?_
                      conv => whnf
                      refine pw_ck h (fun _ h => ?_)
                      conv => whnf
                      refine pw_br h (fun _ h => ?_) (fun _ h => ?_)
                      · conv => whnf
                        refine pw_st h (fun z599 h => ?_)
                        conv => whnf
                        refine np_rd_i (hW593.ga ho22 ho23) ?_
                        conv => whnf
                        refine pw_ck h (fun _ h => ?_)
                        conv => whnf
                        refine pw_wr (a := u20) (i := u21) (d := upd (S591 u20 u21) ((u24 + 3) : Int32).toNatClampNeg z598) hW593 ho23 (pw_ent_arr ho22).symm h (fun S600 f601 hW602 h => ?_)
                        conv => whnf
                        refine pw_br h (fun _ h => ?_) (fun _ h => ?_)
                        · conv => whnf
                          exact ⟨(by omega), (by omega), ⟨_, rfl, by decide⟩, _, fun _ _ h9 => h9, pw_ps h _ hW602⟩
                        · conv => whnf
                          refine np_rd_i (hW602.g ho18) ?_
                          conv => whnf
                          refine np_chk_i (pw_and rfl (pw_and rfl (pw_and rfl (pw_and rfl ((pw_and (pw_le (by omega)) (pw_le (by omega)))))))) ?_
                          conv => whnf
                          refine ⟨q, S600, u17, u19, rfl, ho18, hW602, pw_bd h (fun S603 r606 h f604 hW605 => ?_)⟩
                          rcases r606 with r608 | e609
                          · replace h := pw_ei h
                            conv => whnf
                            refine np_rd_i (hW605.ga ho22 ho23) ?_
                            conv => whnf
                            refine pw_ck h (fun _ h => ?_)
                            conv => whnf
                            refine np_rd_i (hW605.ga ho22 ho23) ?_
                            conv => whnf
                            refine pw_ck h (fun _ h => ?_)
                            conv => whnf
                            refine pw_br h (fun _ h => ?_) (fun _ h => ?_)
                            · conv => whnf
                              refine np_rd_i (hW605.ga ho22 ho23) ?_
                              conv => whnf
                              refine pw_ck h (fun _ h => ?_)
                              conv => whnf
                              refine np_chk_i (pw_and rfl (pw_and rfl (pw_and rfl ((pw_and (pw_le (by omega)) (pw_le (by omega))))))) ?_
                              conv => whnf
                              refine ⟨q, S603, u17, ((S603 u20 u21 (u24 : Int32).toNatClampNeg) - 1), u19, z485, u26, u20, u21, rfl, ho18, ho22, ho23, hW605, pw_bd h (fun S610 r613 h f611 hW612 => ?_)⟩
                              conv => whnf
                              refine pw_br h (fun _ h => ?_) (fun _ h => ?_)
                              · conv => whnf
                                exact ⟨(by omega), (by omega), ⟨_, rfl, by decide⟩, _, fun _ _ h9 => h9, pw_ps h _ hW612⟩
                              · conv => whnf
                                exact ⟨(by omega), (by omega), ⟨_, rfl, by decide⟩, _, fun _ _ h9 => h9, pw_ps h _ hW612⟩
                            · conv => whnf
                              exact ⟨(by omega), (by omega), ⟨_, rfl, by decide⟩, _, fun _ _ h9 => h9, pw_ps h _ hW605⟩
                          · exact (pw_pn h).elim
                      · conv => whnf
                        refine np_rd_i (hW593.ga ho22 ho23) ?_
                        conv => whnf
                        refine pw_ck h (fun _ h => ?_)
                        conv => whnf
                        refine pw_br h (fun _ h => ?_) (fun _ h => ?_)
                        · conv => whnf
                          refine np_rd_i (hW593.ga ho22 ho23) ?_
                          conv => whnf
                          refine pw_ck h (fun _ h => ?_)
                          conv => whnf
                          refine np_rd_i (hW593.g ho18) ?_
                          conv => whnf
                          refine np_chk_i (pw_and rfl (pw_and rfl (pw_and rfl (pw_and rfl ((pw_and (pw_le (by omega)) (pw_le (by omega)))))))) ?_
                          conv => whnf
                          refine ⟨q, S591, u17, ((S591 u20 u21 (u24 : Int32).toNatClampNeg) - 1), rfl, ho18, hW593, pw_bd h (fun S615 r618 h f616 hW617 => ?_)⟩
                          rcases r618 with r620 | e621
                          · replace h := pw_ei h
                            conv => whnf
                            refine pw_br h (fun _ h => ?_) (fun _ h => ?_)
                            · conv => whnf
                              refine pw_st h (fun z622 h => ?_)
                              conv => whnf
                              refine np_rd_i (hW617.ga ho22 ho23) ?_
                              conv => whnf
                              refine pw_ck h (fun _ h => ?_)
                              conv => whnf
                              refine pw_wr (a := u20) (i := u21) (d := upd (S615 u20 u21) ((u24 + 3) : Int32).toNatClampNeg z598) hW617 ho23 (pw_ent_arr ho22).symm h (fun S623 f624 hW625 h => ?_)
                              conv => whnf
                              refine pw_br h (fun _ h => ?_) (fun _ h => ?_)
                              · conv => whnf
                                exact ⟨(by omega), (by omega), ⟨_, rfl, by decide⟩, _, fun _ _ h9 => h9, pw_ps h _ hW625⟩
                              · conv => whnf
                                refine np_rd_i (hW625.g ho18) ?_
                                conv => whnf
                                refine np_chk_i (pw_and rfl (pw_and rfl (pw_and rfl (pw_and rfl ((pw_and (pw_le (by omega)) (pw_le (by omega)))))))) ?_
                                conv => whnf
                                refine ⟨q, S623, u17, u19, rfl, ho18, hW625, pw_bd h (fun S626 r629 h f627 hW628 => ?_)⟩
                                rcases r629 with r631 | e632
                                · replace h := pw_ei h
                                  conv => whnf
                                  refine np_rd_i (hW628.ga ho22 ho23) ?_
                                  conv => whnf
                                  refine pw_ck h (fun _ h => ?_)
                                  conv => whnf
                                  refine np_rd_i (hW628.ga ho22 ho23) ?_
                                  conv => whnf
                                  refine pw_ck h (fun _ h => ?_)
                                  conv => whnf
                                  refine pw_br h (fun _ h => ?_) (fun _ h => ?_)
                                  · conv => whnf
                                    refine np_rd_i (hW628.ga ho22 ho23) ?_
                                    conv => whnf
                                    refine pw_ck h (fun _ h => ?_)
                                    conv => whnf
                                    refine np_chk_i (pw_and rfl (pw_and rfl (pw_and rfl ((pw_and (pw_le (by omega)) (pw_le (by omega))))))) ?_
                                    conv => whnf
                                    refine ⟨q, S626, u17, ((S626 u20 u21 (u24 : Int32).toNatClampNeg) - 1), u19, z485, u26, u20, u21, rfl, ho18, ho22, ho23, hW628, pw_bd h (fun S633 r636 h f634 hW635 => ?_)⟩
                                    conv => whnf
                                    refine pw_br h (fun _ h => ?_) (fun _ h => ?_)
                                    · conv => whnf
                                      exact ⟨(by omega), (by omega), ⟨_, rfl, by decide⟩, _, fun _ _ h9 => h9, pw_ps h _ hW635⟩
                                    · conv => whnf
                                      exact ⟨(by omega), (by omega), ⟨_, rfl, by decide⟩, _, fun _ _ h9 => h9, pw_ps h _ hW635⟩
                                  · conv => whnf
                                    exact ⟨(by omega), (by omega), ⟨_, rfl, by decide⟩, _, fun _ _ h9 => h9, pw_ps h _ hW628⟩
                                · exact (pw_pn h).elim
                            · conv => whnf
                              refine pw_st h (fun z638 h => ?_)
                              conv => whnf
                              refine np_rd_i (hW617.ga ho22 ho23) ?_
                              conv => whnf
                              refine pw_ck h (fun _ h => ?_)
                              conv => whnf
                              refine pw_wr (a := u20) (i := u21) (d := upd (S615 u20 u21) ((u24 + 3) : Int32).toNatClampNeg z598) hW617 ho23 (pw_ent_arr ho22).symm h (fun S639 f640 hW641 h => ?_)
                              conv => whnf
                              refine pw_br h (fun _ h => ?_) (fun _ h => ?_)
                              · conv => whnf
                                exact ⟨(by omega), (by omega), ⟨_, rfl, by decide⟩, _, fun _ _ h9 => h9, pw_ps h _ hW641⟩
                              · conv => whnf
                                refine np_rd_i (hW641.g ho18) ?_
                                conv => whnf
                                refine np_chk_i (pw_and rfl (pw_and rfl (pw_and rfl (pw_and rfl ((pw_and (pw_le (by omega)) (pw_le (by omega)))))))) ?_
                                conv => whnf
                                refine ⟨q, S639, u17, u19, rfl, ho18, hW641, pw_bd h (fun S642 r645 h f643 hW644 => ?_)⟩
                                rcases r645 with r647 | e648
                                · replace h := pw_ei h
                                  conv => whnf
                                  refine np_rd_i (hW644.ga ho22 ho23) ?_
                                  conv => whnf
                                  refine pw_ck h (fun _ h => ?_)
                                  conv => whnf
                                  refine np_rd_i (hW644.ga ho22 ho23) ?_
                                  conv => whnf
                                  refine pw_ck h (fun _ h => ?_)
                                  conv => whnf
                                  refine pw_br h (fun _ h => ?_) (fun _ h => ?_)
                                  · conv => whnf
                                    refine np_rd_i (hW644.ga ho22 ho23) ?_
                                    conv => whnf
                                    refine pw_ck h (fun _ h => ?_)
                                    conv => whnf
                                    refine np_chk_i (pw_and rfl (pw_and rfl (pw_and rfl ((pw_and (pw_le (by omega)) (pw_le (by omega))))))) ?_
                                    conv => whnf
                                    refine ⟨q, S642, u17, ((S642 u20 u21 (u24 : Int32).toNatClampNeg) - 1), u19, z485, u26, u20, u21, rfl, ho18, ho22, ho23, hW644, pw_bd h (fun S649 r652 h f650 hW651 => ?_)⟩
                                    conv => whnf
                                    refine pw_br h (fun _ h => ?_) (fun _ h => ?_)
                                    · conv => whnf
                                      exact ⟨(by omega), (by omega), ⟨_, rfl, by decide⟩, _, fun _ _ h9 => h9, pw_ps h _ hW651⟩
                                    · conv => whnf
                                      exact ⟨(by omega), (by omega), ⟨_, rfl, by decide⟩, _, fun _ _ h9 => h9, pw_ps h _ hW651⟩
                                  · conv => whnf
                                    exact ⟨(by omega), (by omega), ⟨_, rfl, by decide⟩, _, fun _ _ h9 => h9, pw_ps h _ hW644⟩
                                · exact (pw_pn h).elim
                          · exact (pw_pn h).elim
                        · conv => whnf
                          refine pw_st h (fun z654 h => ?_)
                          conv => whnf
                          refine np_rd_i (hW593.ga ho22 ho23) ?_
                          conv => whnf
                          refine pw_ck h (fun _ h => ?_)
                          conv => whnf
                          refine pw_wr (a := u20) (i := u21) (d := upd (S591 u20 u21) ((u24 + 3) : Int32).toNatClampNeg z598) hW593 ho23 (pw_ent_arr ho22).symm h (fun S655 f656 hW657 h => ?_)
                          conv => whnf
                          refine pw_br h (fun _ h => ?_) (fun _ h => ?_)
                          · conv => whnf
                            exact ⟨(by omega), (by omega), ⟨_, rfl, by decide⟩, _, fun _ _ h9 => h9, pw_ps h _ hW657⟩
                          · conv => whnf
                            refine np_rd_i (hW657.g ho18) ?_
                            conv => whnf
                            refine np_chk_i (pw_and rfl (pw_and rfl (pw_and rfl (pw_and rfl ((pw_and (pw_le (by omega)) (pw_le (by omega)))))))) ?_
                            conv => whnf
                            refine ⟨q, S655, u17, u19, rfl, ho18, hW657, pw_bd h (fun S658 r661 h f659 hW660 => ?_)⟩
                            rcases r661 with r663 | e664
                            · replace h := pw_ei h
                              conv => whnf
                              refine np_rd_i (hW660.ga ho22 ho23) ?_
                              conv => whnf
                              refine pw_ck h (fun _ h => ?_)
                              conv => whnf
                              refine np_rd_i (hW660.ga ho22 ho23) ?_
                              conv => whnf
                              refine pw_ck h (fun _ h => ?_)
                              conv => whnf
                              refine pw_br h (fun _ h => ?_) (fun _ h => ?_)
                              · conv => whnf
                                refine np_rd_i (hW660.ga ho22 ho23) ?_
                                conv => whnf
                                refine pw_ck h (fun _ h => ?_)
                                conv => whnf
                                refine np_chk_i (pw_and rfl (pw_and rfl (pw_and rfl ((pw_and (pw_le (by omega)) (pw_le (by omega))))))) ?_
                                conv => whnf
                                refine ⟨q, S658, u17, ((S658 u20 u21 (u24 : Int32).toNatClampNeg) - 1), u19, z485, u26, u20, u21, rfl, ho18, ho22, ho23, hW660, pw_bd h (fun S665 r668 h f666 hW667 => ?_)⟩
                                conv => whnf
                                refine pw_br h (fun _ h => ?_) (fun _ h => ?_)
                                · conv => whnf
                                  exact ⟨(by omega), (by omega), ⟨_, rfl, by decide⟩, _, fun _ _ h9 => h9, pw_ps h _ hW667⟩
                                · conv => whnf
                                  exact ⟨(by omega), (by omega), ⟨_, rfl, by decide⟩, _, fun _ _ h9 => h9, pw_ps h _ hW667⟩
                              · conv => whnf
                                exact ⟨(by omega), (by omega), ⟨_, rfl, by decide⟩, _, fun _ _ h9 => h9, pw_ps h _ hW660⟩
                            · exact (pw_pn h).elim
                    · exact (pw_pn h).elim
                  · conv => whnf
                    refine np_rd_i (hW587.ga ho22 ho23) ?_
                    conv => whnf
                    refine pw_ck h (fun _ h => ?_)
                    conv => whnf
                    refine np_chk_i (pw_and rfl (pw_and rfl (pw_and rfl ((pw_and (pw_le (by omega)) (pw_le (by omega))))))) ?_
                    conv => whnf
                    refine ⟨q, S585, u17, 4, u19, (S585 u20 u21 ((u24 + 4) : Int32).toNatClampNeg), 0, rfl, ho18, hW587, pw_bd h (fun S670 r673 h f671 hW672 => ?_)⟩
                    conv => whnf
                    refine pw_st h (fun z675 h => ?_)
                    conv => whnf
                    refine np_rd_i (hW672.ga ho22 ho23) ?_
                    conv => whnf
                    refine pw_ck h (fun _ h => ?_)
                    conv => whnf
                    refine np_rd_i (hW672.ga ho22 ho23) ?_
                    conv => whnf
                    refine pw_ck h (fun _ h => ?_)
                    conv => whnf
                    refine pw_wr (a := u20) (i := u21) (d := upd (S670 u20 u21) ((u24 + 4) : Int32).toNatClampNeg ((S670 u20 u21 ((u24 + 4) : Int32).toNatClampNeg) + 1)) hW672 ho23 (pw_ent_arr ho22).symm h (fun S676 f677 hW678 h => ?_)
                    conv => whnf
                    refine pw_br h (fun _ h => ?_) (fun _ h => ?_)
                    · conv => whnf
                      refine pw_br h (fun _ h => ?_) (fun _ h => ?_)
                      · conv => whnf
                        exact ⟨(by omega), (by omega), ⟨_, rfl, by decide⟩, _, fun _ _ h9 => h9, pw_ps h _ hW678⟩
                      · conv => whnf
                        refine np_rd_i (hW678.ga ho22 ho23) ?_
                        conv => whnf
                        refine pw_ck h (fun _ h => ?_)
                        conv => whnf
                        refine pw_br h (fun _ h => ?_) (fun _ h => ?_)
                        · conv => whnf
                          refine np_rd_i (hW678.ga ho22 ho23) ?_
                          conv => whnf
                          refine pw_ck h (fun _ h => ?_)
                          conv => whnf
                          refine np_chk_i (pw_and rfl (pw_and rfl (pw_and rfl ((pw_and (pw_le (by omega)) (pw_le (by omega))))))) ?_
                          conv => whnf
                          refine ⟨q, S676, u17, 4, u19, (S676 u20 u21 ((u24 + 4) : Int32).toNatClampNeg), 0, rfl, ho18, hW678, pw_bd h (fun S679 r682 h f680 hW681 => ?_)⟩
                          conv => whnf
                          refine pw_br h (fun _ h => ?_) (fun _ h => ?_)
                          · conv => whnf
                            exact ⟨(by omega), (by omega), ⟨_, rfl, by decide⟩, _, fun _ _ h9 => h9, pw_ps h _ hW681⟩
                          · conv => whnf
                            exact ⟨(by omega), (by omega), ⟨_, rfl, by decide⟩, _, fun _ _ h9 => h9, pw_ps h _ hW681⟩
                        · conv => whnf
                          exact ⟨(by omega), (by omega), ⟨_, rfl, by decide⟩, _, fun _ _ h9 => h9, pw_ps h _ hW678⟩
                    · conv => whnf
                      exact ⟨(by omega), (by omega), ⟨_, rfl, by decide⟩, _, fun _ _ h9 => h9, pw_ps h _ hW678⟩
          · conv => whnf
            refine pw_br h (fun _ h => ?_) (fun _ h => ?_)
            · conv => whnf
              refine pw_br h (fun _ h => ?_) (fun _ h => ?_)
              · conv => whnf
                refine np_rd_i (hW32.g ho18) ?_
                conv => whnf
                refine np_chk_i (pw_and rfl (pw_and rfl (pw_and rfl (pw_and rfl ((pw_and (pw_le (by omega)) (pw_le (by omega)))))))) ?_
                conv => whnf
                refine ⟨q, S30, u17, u19, rfl, ho18, hW32, pw_bd h (fun S684 r687 h f685 hW686 => ?_)⟩
                rcases r687 with r689 | e690
                · replace h := pw_ei h
                  conv => whnf
                  refine np_rd_i (hW686.ga ho22 ho23) ?_
                  conv => whnf
                  refine pw_ck h (fun _ h => ?_)
                  conv => whnf
                  refine np_rd_i (hW686.ga ho22 ho23) ?_
                  conv => whnf
                  refine pw_ck h (fun _ h => ?_)
                  conv => whnf
                  refine pw_br h (fun _ h => ?_) (fun _ h => ?_)
                  · conv => whnf
                    refine np_rd_i (hW686.ga ho22 ho23) ?_
                    conv => whnf
                    refine pw_ck h (fun _ h => ?_)
                    conv => whnf
                    refine pw_br h (fun _ h => ?_) (fun _ h => ?_)
                    · conv => whnf
                      exact ⟨(by omega), (by omega), ⟨_, rfl, by decide⟩, _, fun _ _ h9 => h9, pw_ps h _ hW686⟩
                    · conv => whnf
                      exact ⟨(by omega), (by omega), ⟨_, rfl, by decide⟩, _, fun _ _ h9 => h9, pw_ps h _ hW686⟩
                  · conv => whnf
                    refine np_rd_i (hW686.ga ho22 ho23) ?_
                    conv => whnf
                    refine pw_ck h (fun _ h => ?_)
                    conv => whnf
                    refine np_rd_i (hW686.ga ho22 ho23) ?_
                    conv => whnf
                    refine pw_ck h (fun _ h => ?_)
                    conv => whnf
                    refine pw_br h (fun _ h => ?_) (fun _ h => ?_)
                    · conv => whnf
                      exact ⟨(by omega), (by omega), ⟨_, rfl, by decide⟩, _, fun _ _ h9 => h9, pw_ps h _ hW686⟩
                    · conv => whnf
                      exact ⟨(by omega), (by omega), ⟨_, rfl, by decide⟩, _, fun _ _ h9 => h9, pw_ps h _ hW686⟩
                · exact (pw_pn h).elim
              · conv => whnf
                exact ⟨(by omega), (by omega), ⟨_, rfl, by decide⟩, _, fun _ _ h9 => h9, pw_ps h _ hW32⟩
            · conv => whnf
              refine pw_br h (fun _ h => ?_) (fun _ h => ?_)
              · conv => whnf
                refine np_rd_i (hW32.g ho18) ?_
                conv => whnf
                refine np_chk_i (pw_and rfl (pw_and rfl (pw_and rfl (pw_and rfl ((pw_and (pw_le (by omega)) (pw_le (by omega)))))))) ?_
                conv => whnf
                refine ⟨q, S30, u17, u19, rfl, ho18, hW32, pw_bd h (fun S691 r694 h f692 hW693 => ?_)⟩
                rcases r694 with r696 | e697
                · replace h := pw_ei h
                  conv => whnf
                  refine np_rd_i (hW693.ga ho22 ho23) ?_
                  conv => whnf
                  refine pw_ck h (fun _ h => ?_)
                  conv => whnf
                  refine np_rd_i (hW693.ga ho22 ho23) ?_
                  conv => whnf
                  refine pw_ck h (fun _ h => ?_)
                  conv => whnf
                  refine pw_br h (fun _ h => ?_) (fun _ h => ?_)
                  · conv => whnf
                    refine np_rd_i (hW693.ga ho22 ho23) ?_
                    conv => whnf
                    refine pw_ck h (fun _ h => ?_)
                    conv => whnf
                    refine pw_br h (fun _ h => ?_) (fun _ h => ?_)
                    · conv => whnf
                      exact ⟨(by omega), (by omega), ⟨_, rfl, by decide⟩, _, fun _ _ h9 => h9, pw_ps h _ hW693⟩
                    · conv => whnf
                      exact ⟨(by omega), (by omega), ⟨_, rfl, by decide⟩, _, fun _ _ h9 => h9, pw_ps h _ hW693⟩
                  · conv => whnf
                    refine np_rd_i (hW693.ga ho22 ho23) ?_
                    conv => whnf
                    refine pw_ck h (fun _ h => ?_)
                    conv => whnf
                    refine np_rd_i (hW693.ga ho22 ho23) ?_
                    conv => whnf
                    refine pw_ck h (fun _ h => ?_)
                    conv => whnf
                    refine pw_br h (fun _ h => ?_) (fun _ h => ?_)
                    · conv => whnf
                      exact ⟨(by omega), (by omega), ⟨_, rfl, by decide⟩, _, fun _ _ h9 => h9, pw_ps h _ hW693⟩
                    · conv => whnf
                      exact ⟨(by omega), (by omega), ⟨_, rfl, by decide⟩, _, fun _ _ h9 => h9, pw_ps h _ hW693⟩
                · exact (pw_pn h).elim
              · conv => whnf
                exact ⟨(by omega), (by omega), ⟨_, rfl, by decide⟩, _, fun _ _ h9 => h9, pw_ps h _ hW32⟩
        · conv => whnf
          refine np_rd_i (hW32.ga ho22 ho23) ?_
          conv => whnf
          refine pw_ck h (fun _ h => ?_)
          conv => whnf
          refine pw_br h (fun _ h => ?_) (fun _ h => ?_)
          · conv => whnf
            refine pw_br h (fun _ h => ?_) (fun _ h => ?_)
            · conv => whnf
              exact ⟨(by omega), (by omega), ⟨_, rfl, by decide⟩, _, fun _ _ h9 => h9, pw_ps h _ hW32⟩
            · conv => whnf
              exact ⟨(by omega), (by omega), ⟨_, rfl, by decide⟩, _, fun _ _ h9 => h9, pw_ps h _ hW32⟩
          · conv => whnf
            refine np_rd_i (hW32.ga ho22 ho23) ?_
            conv => whnf
            refine pw_ck h (fun _ h => ?_)
            conv => whnf
            refine pw_st h (fun z698 h => ?_)
            conv => whnf
            refine pw_br h (fun _ h => ?_) (fun _ h => ?_)
            · conv => whnf
              refine np_rd_i (hW32.ga ho22 ho23) ?_
              conv => whnf
              refine pw_ck h (fun _ h => ?_)
              conv => whnf
              refine pw_wr (a := u20) (i := u21) (d := upd (S30 u20 u21) ((u24 + 1) : Int32).toNatClampNeg u26) hW32 ho23 (pw_ent_arr ho22).symm h (fun S699 f700 hW701 h => ?_)
              conv => whnf
              refine pw_br h (fun _ h => ?_) (fun _ h => ?_)
              · conv => whnf
                refine np_rd_i (hW701.ga ho22 ho23) ?_
                conv => whnf
                refine pw_ck h (fun _ h => ?_)
                conv => whnf
                refine np_rd_i (hW701.ga ho22 ho23) ?_
                conv => whnf
                refine pw_ck h (fun _ h => ?_)
                conv => whnf
                refine pw_wr (a := u20) (i := u21) (d := upd (S699 u20 u21) ((u24 + 2) : Int32).toNatClampNeg ((S699 u20 u21 ((u24 + 2) : Int32).toNatClampNeg) + 1)) hW701 ho23 (pw_ent_arr ho22).symm h (fun S702 f703 hW704 h => ?_)
                conv => whnf
                refine np_rd_i (hW704.g ho18) ?_
                conv => whnf
                refine np_chk_i (pw_and rfl (pw_and rfl (pw_and rfl (pw_and rfl ((pw_and (pw_le (by omega)) (pw_le (by omega)))))))) ?_
                conv => whnf
                refine ⟨q, S702, u17, u19, rfl, ho18, hW704, pw_bd h (fun S705 r708 h f706 hW707 => ?_)⟩
                rcases r708 with r710 | e711
                · replace h := pw_ei h
                  conv => whnf
                  refine pw_st h (fun z712 h => ?_)
                  conv => whnf
                  refine np_rd_i (hW707.ga ho22 ho23) ?_
                  conv => whnf
                  refine pw_ck h (fun _ h => ?_)
                  conv => whnf
                  refine pw_br h (fun _ h => ?_) (fun _ h => ?_)
                  · conv => whnf
                    refine pw_st h (fun z713 h => ?_)
                    conv => whnf
                    refine np_rd_i (hW707.ga ho22 ho23) ?_
                    conv => whnf
                    refine pw_ck h (fun _ h => ?_)
                    conv => whnf
                    refine pw_wr (a := u20) (i := u21) (d := upd (S705 u20 u21) ((u24 + 3) : Int32).toNatClampNeg z712) hW707 ho23 (pw_ent_arr ho22).symm h (fun S714 f715 hW716 h => ?_)
                    conv => whnf
                    refine pw_br h (fun _ h => ?_) (fun _ h => ?_)
                    · conv => whnf
                      exact ⟨(by omega), (by omega), ⟨_, rfl, by decide⟩, _, fun _ _ h9 => h9, pw_ps h _ hW716⟩
                    · conv => whnf
                      refine np_rd_i (hW716.g ho18) ?_
                      conv => whnf
                      refine np_chk_i (pw_and rfl (pw_and rfl (pw_and rfl (pw_and rfl ((pw_and (pw_le (by omega)) (pw_le (by omega)))))))) ?_
                      conv => whnf
                      refine ⟨q, S714, u17, u19, rfl, ho18, hW716, pw_bd h (fun S717 r720 h f718 hW719 => ?_)⟩
                      rcases r720 with r722 | e723
                      · replace h := pw_ei h
                        conv => whnf
                        refine np_rd_i (hW719.ga ho22 ho23) ?_
                        conv => whnf
                        refine pw_ck h (fun _ h => ?_)
                        conv => whnf
                        refine np_rd_i (hW719.ga ho22 ho23) ?_
                        conv => whnf
                        refine pw_ck h (fun _ h => ?_)
                        conv => whnf
                        refine pw_br h (fun _ h => ?_) (fun _ h => ?_)
                        · conv => whnf
                          refine np_rd_i (hW719.ga ho22 ho23) ?_
                          conv => whnf
                          refine pw_ck h (fun _ h => ?_)
                          conv => whnf
                          refine np_chk_i (pw_and rfl (pw_and rfl (pw_and rfl ((pw_and (pw_le (by omega)) (pw_le (by omega))))))) ?_
                          conv => whnf
                          refine ⟨q, S717, u17, ((S717 u20 u21 (u24 : Int32).toNatClampNeg) - 1), u19, z698, u26, u20, u21, rfl, ho18, ho22, ho23, hW719, pw_bd h (fun S724 r727 h f725 hW726 => ?_)⟩
                          conv => whnf
                          refine pw_br h (fun _ h => ?_) (fun _ h => ?_)
                          · conv => whnf
                            exact ⟨(by omega), (by omega), ⟨_, rfl, by decide⟩, _, fun _ _ h9 => h9, pw_ps h _ hW726⟩
                          · conv => whnf
                            exact ⟨(by omega), (by omega), ⟨_, rfl, by decide⟩, _, fun _ _ h9 => h9, pw_ps h _ hW726⟩
                        · conv => whnf
                          exact ⟨(by omega), (by omega), ⟨_, rfl, by decide⟩, _, fun _ _ h9 => h9, pw_ps h _ hW719⟩
                      · exact (pw_pn h).elim
                  · conv => whnf
                    refine np_rd_i (hW707.ga ho22 ho23) ?_
                    conv => whnf
                    refine pw_ck h (fun _ h => ?_)
                    conv => whnf
                    refine pw_br h (fun _ h => ?_) (fun _ h => ?_)
                    · conv => whnf
                      refine np_rd_i (hW707.ga ho22 ho23) ?_
                      conv => whnf
                      refine pw_ck h (fun _ h => ?_)
                      conv => whnf
                      refine np_rd_i (hW707.g ho18) ?_
                      conv => whnf
                      refine np_chk_i (pw_and rfl (pw_and rfl (pw_and rfl (pw_and rfl ((pw_and (pw_le (by omega)) (pw_le (by omega)))))))) ?_
                      conv => whnf
                      refine ⟨q, S705, u17, ((S705 u20 u21 (u24 : Int32).toNatClampNeg) - 1), rfl, ho18, hW707, pw_bd h (fun S729 r732 h f730 hW731 => ?_)⟩
                      rcases r732 with r734 | e735
                      · replace h := pw_ei h
                        conv => whnf
                        refine pw_br h (fun _ h => ?_) (fun _ h => ?_)
                        · conv => whnf
                          refine pw_st h (fun z736 h => ?_)
                          conv => whnf
                          refine np_rd_i (hW731.ga ho22 ho23) ?_
                          conv => whnf
                          refine pw_ck h (fun _ h => ?_)
                          conv => whnf
                          refine pw_wr (a := u20) (i := u21) (d := upd (S729 u20 u21) ((u24 + 3) : Int32).toNatClampNeg z712) hW731 ho23 (pw_ent_arr ho22).symm h (fun S737 f738 hW739 h => ?_)
                          conv => whnf
                          refine pw_br h (fun _ h => ?_) (fun _ h => ?_)
                          · conv => whnf
                            exact ⟨(by omega), (by omega), ⟨_, rfl, by decide⟩, _, fun _ _ h9 => h9, pw_ps h _ hW739⟩
                          · conv => whnf
                            refine np_rd_i (hW739.g ho18) ?_
                            conv => whnf
                            refine np_chk_i (pw_and rfl (pw_and rfl (pw_and rfl (pw_and rfl ((pw_and (pw_le (by omega)) (pw_le (by omega)))))))) ?_
                            conv => whnf
                            refine ⟨q, S737, u17, u19, rfl, ho18, hW739, pw_bd h (fun S740 r743 h f741 hW742 => ?_)⟩
                            rcases r743 with r745 | e746
                            · replace h := pw_ei h
                              conv => whnf
                              refine np_rd_i (hW742.ga ho22 ho23) ?_
                              conv => whnf
                              refine pw_ck h (fun _ h => ?_)
                              conv => whnf
                              refine np_rd_i (hW742.ga ho22 ho23) ?_
                              conv => whnf
                              refine pw_ck h (fun _ h => ?_)
                              conv => whnf
                              refine pw_br h (fun _ h => ?_) (fun _ h => ?_)
                              · conv => whnf
                                refine np_rd_i (hW742.ga ho22 ho23) ?_
                                conv => whnf
                                refine pw_ck h (fun _ h => ?_)
                                conv => whnf
                                refine np_chk_i (pw_and rfl (pw_and rfl (pw_and rfl ((pw_and (pw_le (by omega)) (pw_le (by omega))))))) ?_
                                conv => whnf
                                refine ⟨q, S740, u17, ((S740 u20 u21 (u24 : Int32).toNatClampNeg) - 1), u19, z698, u26, u20, u21, rfl, ho18, ho22, ho23, hW742, pw_bd h (fun S747 r750 h f748 hW749 => ?_)⟩
                                conv => whnf
                                refine pw_br h (fun _ h => ?_) (fun _ h => ?_)
                                · conv => whnf
                                  exact ⟨(by omega), (by omega), ⟨_, rfl, by decide⟩, _, fun _ _ h9 => h9, pw_ps h _ hW749⟩
                                · conv => whnf
                                  exact ⟨(by omega), (by omega), ⟨_, rfl, by decide⟩, _, fun _ _ h9 => h9, pw_ps h _ hW749⟩
                              · conv => whnf
                                exact ⟨(by omega), (by omega), ⟨_, rfl, by decide⟩, _, fun _ _ h9 => h9, pw_ps h _ hW742⟩
                            · exact (pw_pn h).elim
                        · conv => whnf
                          refine pw_st h (fun z752 h => ?_)
                          conv => whnf
                          refine np_rd_i (hW731.ga ho22 ho23) ?_
                          conv => whnf
                          refine pw_ck h (fun _ h => ?_)
                          conv => whnf
                          refine pw_wr (a := u20) (i := u21) (d := upd (S729 u20 u21) ((u24 + 3) : Int32).toNatClampNeg z712) hW731 ho23 (pw_ent_arr ho22).symm h (fun S753 f754 hW755 h => ?_)
                          conv => whnf
                          refine pw_br h (fun _ h => ?_) (fun _ h => ?_)
                          · conv => whnf
                            exact ⟨(by omega), (by omega), ⟨_, rfl, by decide⟩, _, fun _ _ h9 => h9, pw_ps h _ hW755⟩
                          · conv => whnf
                            refine np_rd_i (hW755.g ho18) ?_
                            conv => whnf
                            refine np_chk_i (pw_and rfl (pw_and rfl (pw_and rfl (pw_and rfl ((pw_and (pw_le (by omega)) (pw_le (by omega)))))))) ?_
                            conv => whnf
                            refine ⟨q, S753, u17, u19, rfl, ho18, hW755, pw_bd h (fun S756 r759 h f757 hW758 => ?_)⟩
                            rcases r759 with r761 | e762
                            · replace h := pw_ei h
                              conv => whnf
                              refine np_rd_i (hW758.ga ho22 ho23) ?_
                              conv => whnf
                              refine pw_ck h (fun _ h => ?_)
                              conv => whnf
                              refine np_rd_i (hW758.ga ho22 ho23) ?_
                              conv => whnf
                              refine pw_ck h (fun _ h => ?_)
                              conv => whnf
                              refine pw_br h (fun _ h => ?_) (fun _ h => ?_)
                              · conv => whnf
                                refine np_rd_i (hW758.ga ho22 ho23) ?_
                                conv => whnf
                                refine pw_ck h (fun _ h => ?_)
                                conv => whnf
                                refine np_chk_i (pw_and rfl (pw_and rfl (pw_and rfl ((pw_and (pw_le (by omega)) (pw_le (by omega))))))) ?_
                                conv => whnf
                                refine ⟨q, S756, u17, ((S756 u20 u21 (u24 : Int32).toNatClampNeg) - 1), u19, z698, u26, u20, u21, rfl, ho18, ho22, ho23, hW758, pw_bd h (fun S763 r766 h f764 hW765 => ?_)⟩
                                conv => whnf
                                refine pw_br h (fun _ h => ?_) (fun _ h => ?_)
                                · conv => whnf
                                  exact ⟨(by omega), (by omega), ⟨_, rfl, by decide⟩, _, fun _ _ h9 => h9, pw_ps h _ hW765⟩
                                · conv => whnf
                                  exact ⟨(by omega), (by omega), ⟨_, rfl, by decide⟩, _, fun _ _ h9 => h9, pw_ps h _ hW765⟩
                              · conv => whnf
                                exact ⟨(by omega), (by omega), ⟨_, rfl, by decide⟩, _, fun _ _ h9 => h9, pw_ps h _ hW758⟩
                            · exact (pw_pn h).elim
                      · exact (pw_pn h).elim
                    · conv => whnf
                      refine pw_st h (fun z768 h => ?_)
                      conv => whnf
                      refine np_rd_i (hW707.ga ho22 ho23) ?_
                      conv => whnf
                      refine pw_ck h (fun _ h => ?_)
                      conv => whnf
                      refine pw_wr (a := u20) (i := u21) (d := upd (S705 u20 u21) ((u24 + 3) : Int32).toNatClampNeg z712) hW707 ho23 (pw_ent_arr ho22).symm h (fun S769 f770 hW771 h => ?_)
                      conv => whnf
                      refine pw_br h (fun _ h => ?_) (fun _ h => ?_)
                      · conv => whnf
                        exact ⟨(by omega), (by omega), ⟨_, rfl, by decide⟩, _, fun _ _ h9 => h9, pw_ps h _ hW771⟩
                      · conv => whnf
                        refine np_rd_i (hW771.g ho18) ?_
                        conv => whnf
                        refine np_chk_i (pw_and rfl (pw_and rfl (pw_and rfl (pw_and rfl ((pw_and (pw_le (by omega)) (pw_le (by omega)))))))) ?_
                        conv => whnf
                        refine ⟨q, S769, u17, u19, rfl, ho18, hW771, pw_bd h (fun S772 r775 h f773 hW774 => ?_)⟩
                        rcases r775 with r777 | e778
                        · replace h := pw_ei h
                          conv => whnf
                          refine np_rd_i (hW774.ga ho22 ho23) ?_
                          conv => whnf
                          refine pw_ck h (fun _ h => ?_)
                          conv => whnf
                          refine np_rd_i (hW774.ga ho22 ho23) ?_
                          conv => whnf
                          refine pw_ck h (fun _ h => ?_)
                          conv => whnf
                          refine pw_br h (fun _ h => ?_) (fun _ h => ?_)
                          · conv => whnf
                            refine np_rd_i (hW774.ga ho22 ho23) ?_
                            conv => whnf
                            refine pw_ck h (fun _ h => ?_)
                            conv => whnf
                            refine np_chk_i (pw_and rfl (pw_and rfl (pw_and rfl ((pw_and (pw_le (by omega)) (pw_le (by omega))))))) ?_
                            conv => whnf
                            refine ⟨q, S772, u17, ((S772 u20 u21 (u24 : Int32).toNatClampNeg) - 1), u19, z698, u26, u20, u21, rfl, ho18, ho22, ho23, hW774, pw_bd h (fun S779 r782 h f780 hW781 => ?_)⟩
                            conv => whnf
                            refine pw_br h (fun _ h => ?_) (fun _ h => ?_)
                            · conv => whnf
                              exact ⟨(by omega), (by omega), ⟨_, rfl, by decide⟩, _, fun _ _ h9 => h9, pw_ps h _ hW781⟩
                            · conv => whnf
                              exact ⟨(by omega), (by omega), ⟨_, rfl, by decide⟩, _, fun _ _ h9 => h9, pw_ps h _ hW781⟩
                          · conv => whnf
                            exact ⟨(by omega), (by omega), ⟨_, rfl, by decide⟩, _, fun _ _ h9 => h9, pw_ps h _ hW774⟩
                        · exact (pw_pn h).elim
                · exact (pw_pn h).elim
              · conv => whnf
                refine np_rd_i (hW701.ga ho22 ho23) ?_
                conv => whnf
                refine pw_ck h (fun _ h => ?_)
                conv => whnf
                refine np_chk_i (pw_and rfl (pw_and rfl (pw_and rfl ((pw_and (pw_le (by omega)) (pw_le (by omega))))))) ?_
                conv => whnf
                refine ⟨q, S699, u17, 4, u19, (S699 u20 u21 ((u24 + 4) : Int32).toNatClampNeg), 0, rfl, ho18, hW701, pw_bd h (fun S784 r787 h f785 hW786 => ?_)⟩
                conv => whnf
                refine pw_st h (fun z789 h => ?_)
                conv => whnf
                refine np_rd_i (hW786.ga ho22 ho23) ?_
                conv => whnf
                refine pw_ck h (fun _ h => ?_)
                conv => whnf
                refine np_rd_i (hW786.ga ho22 ho23) ?_
                conv => whnf
                refine pw_ck h (fun _ h => ?_)
                conv => whnf
                refine pw_wr (a := u20) (i := u21) (d := upd (S784 u20 u21) ((u24 + 4) : Int32).toNatClampNeg ((S784 u20 u21 ((u24 + 4) : Int32).toNatClampNeg) + 1)) hW786 ho23 (pw_ent_arr ho22).symm h (fun S790 f791 hW792 h => ?_)
                conv => whnf
                refine pw_br h (fun _ h => ?_) (fun _ h => ?_)
                · conv => whnf
                  refine pw_br h (fun _ h => ?_) (fun _ h => ?_)
                  · conv => whnf
                    exact ⟨(by omega), (by omega), ⟨_, rfl, by decide⟩, _, fun _ _ h9 => h9, pw_ps h _ hW792⟩
                  · conv => whnf
                    refine np_rd_i (hW792.ga ho22 ho23) ?_
                    conv => whnf
                    refine pw_ck h (fun _ h => ?_)
                    conv => whnf
                    refine pw_br h (fun _ h => ?_) (fun _ h => ?_)
                    · conv => whnf
                      refine np_rd_i (hW792.ga ho22 ho23) ?_
                      conv => whnf
                      refine pw_ck h (fun _ h => ?_)
                      conv => whnf
                      refine np_chk_i (pw_and rfl (pw_and rfl (pw_and rfl ((pw_and (pw_le (by omega)) (pw_le (by omega))))))) ?_
                      conv => whnf
                      refine ⟨q, S790, u17, 4, u19, (S790 u20 u21 ((u24 + 4) : Int32).toNatClampNeg), 0, rfl, ho18, hW792, pw_bd h (fun S793 r796 h f794 hW795 => ?_)⟩
                      conv => whnf
                      refine pw_br h (fun _ h => ?_) (fun _ h => ?_)
                      · conv => whnf
                        exact ⟨(by omega), (by omega), ⟨_, rfl, by decide⟩, _, fun _ _ h9 => h9, pw_ps h _ hW795⟩
                      · conv => whnf
                        exact ⟨(by omega), (by omega), ⟨_, rfl, by decide⟩, _, fun _ _ h9 => h9, pw_ps h _ hW795⟩
                    · conv => whnf
                      exact ⟨(by omega), (by omega), ⟨_, rfl, by decide⟩, _, fun _ _ h9 => h9, pw_ps h _ hW792⟩
                · conv => whnf
                  exact ⟨(by omega), (by omega), ⟨_, rfl, by decide⟩, _, fun _ _ h9 => h9, pw_ps h _ hW792⟩
            · conv => whnf
              refine np_rd_i (hW32.ga ho22 ho23) ?_
              conv => whnf
              refine pw_ck h (fun _ h => ?_)
              conv => whnf
              refine pw_wr (a := u20) (i := u21) (d := upd (S30 u20 u21) ((u24 + 1) : Int32).toNatClampNeg (u26 + 1)) hW32 ho23 (pw_ent_arr ho22).symm h (fun S798 f799 hW800 h => ?_)
              conv => whnf
              refine pw_br h (fun _ h => ?_) (fun _ h => ?_)
              · conv => whnf
                refine np_rd_i (hW800.ga ho22 ho23) ?_
                conv => whnf
                refine pw_ck h (fun _ h => ?_)
                conv => whnf
                refine np_rd_i (hW800.ga ho22 ho23) ?_
                conv => whnf
                refine pw_ck h (fun _ h => ?_)
                conv => whnf
                refine pw_wr (a := u20) (i := u21) (d := upd (S798 u20 u21) ((u24 + 2) : Int32).toNatClampNeg ((S798 u20 u21 ((u24 + 2) : Int32).toNatClampNeg) + 1)) hW800 ho23 (pw_ent_arr ho22).symm h (fun S801 f802 hW803 h => ?_)
                conv => whnf
                refine np_rd_i (hW803.g ho18) ?_
                conv => whnf
                refine np_chk_i (pw_and rfl (pw_and rfl (pw_and rfl (pw_and rfl ((pw_and (pw_le (by omega)) (pw_le (by omega)))))))) ?_
                conv => whnf
                refine ⟨q, S801, u17, u19, rfl, ho18, hW803, pw_bd h (fun S804 r807 h f805 hW806 => ?_)⟩
                rcases r807 with r809 | e810
                · replace h := pw_ei h
                  conv => whnf
                  refine pw_st h (fun z811 h => ?_)
                  conv => whnf
                  refine np_rd_i (hW806.ga ho22 ho23) ?_
                  conv => whnf
                  refine pw_ck h (fun _ h => ?_)
                  conv => whnf
                  refine pw_br h (fun _ h => ?_) (fun _ h => ?_)
                  · conv => whnf
                    refine pw_st h (fun z812 h => ?_)
                    conv => whnf
                    refine np_rd_i (hW806.ga ho22 ho23) ?_
                    conv => whnf
                    refine pw_ck h (fun _ h => ?_)
                    conv => whnf
                    refine pw_wr (a := u20) (i := u21) (d := upd (S804 u20 u21) ((u24 + 3) : Int32).toNatClampNeg z811) hW806 ho23 (pw_ent_arr ho22).symm h (fun S813 f814 hW815 h => ?_)
                    conv => whnf
                    refine pw_br h (fun _ h => ?_) (fun _ h => ?_)
                    · conv => whnf
                      exact ⟨(by omega), (by omega), ⟨_, rfl, by decide⟩, _, fun _ _ h9 => h9, pw_ps h _ hW815⟩
                    · conv => whnf
                      refine np_rd_i (hW815.g ho18) ?_
                      conv => whnf
                      refine np_chk_i (pw_and rfl (pw_and rfl (pw_and rfl (pw_and rfl ((pw_and (pw_le (by omega)) (pw_le (by omega)))))))) ?_
                      conv => whnf
                      refine ⟨q, S813, u17, u19, rfl, ho18, hW815, pw_bd h (fun S816 r819 h f817 hW818 => ?_)⟩
                      rcases r819 with r821 | e822
                      · replace h := pw_ei h
                        conv => whnf
                        refine np_rd_i (hW818.ga ho22 ho23) ?_
                        conv => whnf
                        refine pw_ck h (fun _ h => ?_)
                        conv => whnf
                        refine np_rd_i (hW818.ga ho22 ho23) ?_
                        conv => whnf
                        refine pw_ck h (fun _ h => ?_)
                        conv => whnf
                        refine pw_br h (fun _ h => ?_) (fun _ h => ?_)
                        · conv => whnf
                          refine np_rd_i (hW818.ga ho22 ho23) ?_
                          conv => whnf
                          refine pw_ck h (fun _ h => ?_)
                          conv => whnf
                          refine np_chk_i (pw_and rfl (pw_and rfl (pw_and rfl ((pw_and (pw_le (by omega)) (pw_le (by omega))))))) ?_
                          conv => whnf
                          refine ⟨q, S816, u17, ((S816 u20 u21 (u24 : Int32).toNatClampNeg) - 1), u19, z698, u26, u20, u21, rfl, ho18, ho22, ho23, hW818, pw_bd h (fun S823 r826 h f824 hW825 => ?_)⟩
                          conv => whnf
                          refine pw_br h (fun _ h => ?_) (fun _ h => ?_)
                          · conv => whnf
                            exact ⟨(by omega), (by omega), ⟨_, rfl, by decide⟩, _, fun _ _ h9 => h9, pw_ps h _ hW825⟩
                          · conv => whnf
                            exact ⟨(by omega), (by omega), ⟨_, rfl, by decide⟩, _, fun _ _ h9 => h9, pw_ps h _ hW825⟩
                        · conv => whnf
                          exact ⟨(by omega), (by omega), ⟨_, rfl, by decide⟩, _, fun _ _ h9 => h9, pw_ps h _ hW818⟩
                      · exact (pw_pn h).elim
                  · conv => whnf
                    refine np_rd_i (hW806.ga ho22 ho23) ?_
                    conv => whnf
                    refine pw_ck h (fun _ h => ?_)
                    conv => whnf
                    refine pw_br h (fun _ h => ?_) (fun _ h => ?_)
                    · conv => whnf
                      refine np_rd_i (hW806.ga ho22 ho23) ?_
                      conv => whnf
                      refine pw_ck h (fun _ h => ?_)
                      conv => whnf
                      refine np_rd_i (hW806.g ho18) ?_
                      conv => whnf
                      refine np_chk_i (pw_and rfl (pw_and rfl (pw_and rfl (pw_and rfl ((pw_and (pw_le (by omega)) (pw_le (by omega)))))))) ?_
                      conv => whnf
                      refine ⟨q, S804, u17, ((S804 u20 u21 (u24 : Int32).toNatClampNeg) - 1), rfl, ho18, hW806, pw_bd h (fun S828 r831 h f829 hW830 => ?_)⟩
                      rcases r831 with r833 | e834
                      · replace h := pw_ei h
                        conv => whnf
                        refine pw_br h (fun _ h => ?_) (fun _ h => ?_)
                        · conv => whnf
                          refine pw_st h (fun z835 h => ?_)
                          conv => whnf
                          refine np_rd_i (hW830.ga ho22 ho23) ?_
                          conv => whnf
                          refine pw_ck h (fun _ h => ?_)
                          conv => whnf
                          refine pw_wr (a := u20) (i := u21) (d := upd (S828 u20 u21) ((u24 + 3) : Int32).toNatClampNeg z811) hW830 ho23 (pw_ent_arr ho22).symm h (fun S836 f837 hW838 h => ?_)
                          conv => whnf
                          refine pw_br h (fun _ h => ?_) (fun _ h => ?_)
                          · conv => whnf
                            exact ⟨(by omega), (by omega), ⟨_, rfl, by decide⟩, _, fun _ _ h9 => h9, pw_ps h _ hW838⟩
                          · conv => whnf
                            refine np_rd_i (hW838.g ho18) ?_
                            conv => whnf
                            refine np_chk_i (pw_and rfl (pw_and rfl (pw_and rfl (pw_and rfl ((pw_and (pw_le (by omega)) (pw_le (by omega)))))))) ?_
                            conv => whnf
                            refine ⟨q, S836, u17, u19, rfl, ho18, hW838, pw_bd h (fun S839 r842 h f840 hW841 => ?_)⟩
                            rcases r842 with r844 | e845
                            · replace h := pw_ei h
                              conv => whnf
                              refine np_rd_i (hW841.ga ho22 ho23) ?_
                              conv => whnf
                              refine pw_ck h (fun _ h => ?_)
                              conv => whnf
                              refine np_rd_i (hW841.ga ho22 ho23) ?_
                              conv => whnf
                              refine pw_ck h (fun _ h => ?_)
                              conv => whnf
                              refine pw_br h (fun _ h => ?_) (fun _ h => ?_)
                              · conv => whnf
                                refine np_rd_i (hW841.ga ho22 ho23) ?_
                                conv => whnf
                                refine pw_ck h (fun _ h => ?_)
                                conv => whnf
                                refine np_chk_i (pw_and rfl (pw_and rfl (pw_and rfl ((pw_and (pw_le (by omega)) (pw_le (by omega))))))) ?_
                                conv => whnf
                                refine ⟨q, S839, u17, ((S839 u20 u21 (u24 : Int32).toNatClampNeg) - 1), u19, z698, u26, u20, u21, rfl, ho18, ho22, ho23, hW841, pw_bd h (fun S846 r849 h f847 hW848 => ?_)⟩
                                conv => whnf
                                refine pw_br h (fun _ h => ?_) (fun _ h => ?_)
                                · conv => whnf
                                  exact ⟨(by omega), (by omega), ⟨_, rfl, by decide⟩, _, fun _ _ h9 => h9, pw_ps h _ hW848⟩
                                · conv => whnf
                                  exact ⟨(by omega), (by omega), ⟨_, rfl, by decide⟩, _, fun _ _ h9 => h9, pw_ps h _ hW848⟩
                              · conv => whnf
                                exact ⟨(by omega), (by omega), ⟨_, rfl, by decide⟩, _, fun _ _ h9 => h9, pw_ps h _ hW841⟩
                            · exact (pw_pn h).elim
                        · conv => whnf
                          refine pw_st h (fun z851 h => ?_)
                          conv => whnf
                          refine np_rd_i (hW830.ga ho22 ho23) ?_
                          conv => whnf
                          refine pw_ck h (fun _ h => ?_)
                          conv => whnf
                          refine pw_wr (a := u20) (i := u21) (d := upd (S828 u20 u21) ((u24 + 3) : Int32).toNatClampNeg z811) hW830 ho23 (pw_ent_arr ho22).symm h (fun S852 f853 hW854 h => ?_)
                          conv => whnf
                          refine pw_br h (fun _ h => ?_) (fun _ h => ?_)
                          · conv => whnf
                            exact ⟨(by omega), (by omega), ⟨_, rfl, by decide⟩, _, fun _ _ h9 => h9, pw_ps h _ hW854⟩
                          · conv => whnf
                            refine np_rd_i (hW854.g ho18) ?_
                            conv => whnf
                            refine np_chk_i (pw_and rfl (pw_and rfl (pw_and rfl (pw_and rfl ((pw_and (pw_le (by omega)) (pw_le (by omega)))))))) ?_
                            conv => whnf
                            refine ⟨q, S852, u17, u19, rfl, ho18, hW854, pw_bd h (fun S855 r858 h f856 hW857 => ?_)⟩
                            rcases r858 with r860 | e861
                            · replace h := pw_ei h
                              conv => whnf
                              refine np_rd_i (hW857.ga ho22 ho23) ?_
                              conv => whnf
                              refine pw_ck h (fun _ h => ?_)
                              conv => whnf
                              refine np_rd_i (hW857.ga ho22 ho23) ?_
                              conv => whnf
                              refine pw_ck h (fun _ h => ?_)
                              conv => whnf
                              refine pw_br h (fun _ h => ?_) (fun _ h => ?_)
                              · conv => whnf
                                refine np_rd_i (hW857.ga ho22 ho23) ?_
                                conv => whnf
                                refine pw_ck h (fun _ h => ?_)
                                conv => whnf
                                refine np_chk_i (pw_and rfl (pw_and rfl (pw_and rfl ((pw_and (pw_le (by omega)) (pw_le (by omega))))))) ?_
                                conv => whnf
                                refine ⟨q, S855, u17, ((S855 u20 u21 (u24 : Int32).toNatClampNeg) - 1), u19, z698, u26, u20, u21, rfl, ho18, ho22, ho23, hW857, pw_bd h (fun S862 r865 h f863 hW864 => ?_)⟩
                                conv => whnf
                                refine pw_br h (fun _ h => ?_) (fun _ h => ?_)
                                · conv => whnf
                                  exact ⟨(by omega), (by omega), ⟨_, rfl, by decide⟩, _, fun _ _ h9 => h9, pw_ps h _ hW864⟩
                                · conv => whnf
                                  exact ⟨(by omega), (by omega), ⟨_, rfl, by decide⟩, _, fun _ _ h9 => h9, pw_ps h _ hW864⟩
                              · conv => whnf
                                exact ⟨(by omega), (by omega), ⟨_, rfl, by decide⟩, _, fun _ _ h9 => h9, pw_ps h _ hW857⟩
                            · exact (pw_pn h).elim
                      · exact (pw_pn h).elim
                    · conv => whnf
                      refine pw_st h (fun z867 h => ?_)
                      conv => whnf
                      refine np_rd_i (hW806.ga ho22 ho23) ?_
                      conv => whnf
                      refine pw_ck h (fun _ h => ?_)
                      conv => whnf
                      refine pw_wr (a := u20) (i := u21) (d := upd (S804 u20 u21) ((u24 + 3) : Int32).toNatClampNeg z811) hW806 ho23 (pw_ent_arr ho22).symm h (fun S868 f869 hW870 h => ?_)
                      conv => whnf
                      refine pw_br h (fun _ h => ?_) (fun _ h => ?_)
                      · conv => whnf
                        exact ⟨(by omega), (by omega), ⟨_, rfl, by decide⟩, _, fun _ _ h9 => h9, pw_ps h _ hW870⟩
                      · conv => whnf
                        refine np_rd_i (hW870.g ho18) ?_
                        conv => whnf
                        refine np_chk_i (pw_and rfl (pw_and rfl (pw_and rfl (pw_and rfl ((pw_and (pw_le (by omega)) (pw_le (by omega)))))))) ?_
                        conv => whnf
                        refine ⟨q, S868, u17, u19, rfl, ho18, hW870, pw_bd h (fun S871 r874 h f872 hW873 => ?_)⟩
                        rcases r874 with r876 | e877
                        · replace h := pw_ei h
                          conv => whnf
                          refine np_rd_i (hW873.ga ho22 ho23) ?_
                          conv => whnf
                          refine pw_ck h (fun _ h => ?_)
                          conv => whnf
                          refine np_rd_i (hW873.ga ho22 ho23) ?_
                          conv => whnf
                          refine pw_ck h (fun _ h => ?_)
                          conv => whnf
                          refine pw_br h (fun _ h => ?_) (fun _ h => ?_)
                          · conv => whnf
                            refine np_rd_i (hW873.ga ho22 ho23) ?_
                            conv => whnf
                            refine pw_ck h (fun _ h => ?_)
                            conv => whnf
                            refine np_chk_i (pw_and rfl (pw_and rfl (pw_and rfl ((pw_and (pw_le (by omega)) (pw_le (by omega))))))) ?_
                            conv => whnf
                            refine ⟨q, S871, u17, ((S871 u20 u21 (u24 : Int32).toNatClampNeg) - 1), u19, z698, u26, u20, u21, rfl, ho18, ho22, ho23, hW873, pw_bd h (fun S878 r881 h f879 hW880 => ?_)⟩
                            conv => whnf
                            refine pw_br h (fun _ h => ?_) (fun _ h => ?_)
                            · conv => whnf
                              exact ⟨(by omega), (by omega), ⟨_, rfl, by decide⟩, _, fun _ _ h9 => h9, pw_ps h _ hW880⟩
                            · conv => whnf
                              exact ⟨(by omega), (by omega), ⟨_, rfl, by decide⟩, _, fun _ _ h9 => h9, pw_ps h _ hW880⟩
                          · conv => whnf
                            exact ⟨(by omega), (by omega), ⟨_, rfl, by decide⟩, _, fun _ _ h9 => h9, pw_ps h _ hW873⟩
                        · exact (pw_pn h).elim
                · exact (pw_pn h).elim
              · conv => whnf
                refine np_rd_i (hW800.ga ho22 ho23) ?_
                conv => whnf
                refine pw_ck h (fun _ h => ?_)
                conv => whnf
                refine np_chk_i (pw_and rfl (pw_and rfl (pw_and rfl ((pw_and (pw_le (by omega)) (pw_le (by omega))))))) ?_
                conv => whnf
                refine ⟨q, S798, u17, 4, u19, (S798 u20 u21 ((u24 + 4) : Int32).toNatClampNeg), 0, rfl, ho18, hW800, pw_bd h (fun S883 r886 h f884 hW885 => ?_)⟩
                conv => whnf
                refine pw_st h (fun z888 h => ?_)
                conv => whnf
                refine np_rd_i (hW885.ga ho22 ho23) ?_
                conv => whnf
                refine pw_ck h (fun _ h => ?_)
                conv => whnf
                refine np_rd_i (hW885.ga ho22 ho23) ?_
                conv => whnf
                refine pw_ck h (fun _ h => ?_)
                conv => whnf
                refine pw_wr (a := u20) (i := u21) (d := upd (S883 u20 u21) ((u24 + 4) : Int32).toNatClampNeg ((S883 u20 u21 ((u24 + 4) : Int32).toNatClampNeg) + 1)) hW885 ho23 (pw_ent_arr ho22).symm h (fun S889 f890 hW891 h => ?_)
                conv => whnf
                refine pw_br h (fun _ h => ?_) (fun _ h => ?_)
                · conv => whnf
                  refine pw_br h (fun _ h => ?_) (fun _ h => ?_)
                  · conv => whnf
                    exact ⟨(by omega), (by omega), ⟨_, rfl, by decide⟩, _, fun _ _ h9 => h9, pw_ps h _ hW891⟩
                  · conv => whnf
                    refine np_rd_i (hW891.ga ho22 ho23) ?_
                    conv => whnf
                    refine pw_ck h (fun _ h => ?_)
                    conv => whnf
                    refine pw_br h (fun _ h => ?_) (fun _ h => ?_)
                    · conv => whnf
                      refine np_rd_i (hW891.ga ho22 ho23) ?_
                      conv => whnf
                      refine pw_ck h (fun _ h => ?_)
                      conv => whnf
                      refine np_chk_i (pw_and rfl (pw_and rfl (pw_and rfl ((pw_and (pw_le (by omega)) (pw_le (by omega))))))) ?_
                      conv => whnf
                      refine ⟨q, S889, u17, 4, u19, (S889 u20 u21 ((u24 + 4) : Int32).toNatClampNeg), 0, rfl, ho18, hW891, pw_bd h (fun S892 r895 h f893 hW894 => ?_)⟩
                      conv => whnf
                      refine pw_br h (fun _ h => ?_) (fun _ h => ?_)
                      · conv => whnf
                        exact ⟨(by omega), (by omega), ⟨_, rfl, by decide⟩, _, fun _ _ h9 => h9, pw_ps h _ hW894⟩
                      · conv => whnf
                        exact ⟨(by omega), (by omega), ⟨_, rfl, by decide⟩, _, fun _ _ h9 => h9, pw_ps h _ hW894⟩
                    · conv => whnf
                      exact ⟨(by omega), (by omega), ⟨_, rfl, by decide⟩, _, fun _ _ h9 => h9, pw_ps h _ hW891⟩
                · conv => whnf
                  exact ⟨(by omega), (by omega), ⟨_, rfl, by decide⟩, _, fun _ _ h9 => h9, pw_ps h _ hW891⟩
theorem dL_cell_0 : decode cL_cell 0 = .ok (.iload_n 2, 1) := by decide +kernel
theorem dL_cell_1 : decode cL_cell 1 = .ok (.ifCond .ge 8, 3) := by decide +kernel
theorem dL_cell_4 : decode cL_cell 4 = .ok (.ldc 119, 2) := by decide +kernel
theorem dL_cell_6 : decode cL_cell 6 = .ok (.goto 11, 3) := by decide +kernel
theorem dL_cell_9 : decode cL_cell 9 = .ok (.aload_n 0, 1) := by decide +kernel
theorem dL_cell_10 : decode cL_cell 10 = .ok (.iload_n 1, 1) := by decide +kernel
theorem dL_cell_11 : decode cL_cell 11 = .ok (.iload_n 2, 1) := by decide +kernel
theorem dL_cell_12 : decode cL_cell 12 = .ok (.iload_n 3, 1) := by decide +kernel
theorem dL_cell_13 : decode cL_cell 13 = .ok (.iconst 0, 1) := by decide +kernel
theorem dL_cell_14 : decode cL_cell 14 = .ok (.invokevirtual 116, 3) := by decide +kernel
theorem dL_cell_17 : decode cL_cell 17 = .ok (.ireturn, 1) := by decide +kernel
def is_L_cell (Rt : np_Rt) : List (Nat × np_Op) := [(0, np_ild 1 2), (1, nq_if (fun x => 0 ≤ x) 9), (4, np_push 2 (.int (-2147483648))), (6, np_goto 17), (9, np_ald 1 0), (10, np_ild 1 1), (11, np_ild 1 2), (12, np_ild 1 3), (13, np_push 1 (.int 0)), (14, nw_callVX 11 5 sp_X11_cell 6 1 6 1 6 []), (17, np_ret Rt)]
set_option maxRecDepth 20000 in
theorem so_L_cell {X : np_Ctx} {Rt : np_Rt} (hX : np_ok RL cL_cell 4 7 125 1 6 .ireturn X) (hR : ∀ st w ce sl, Rt st w ce sl → X.2.2.1 st w ce sl) : ∀ q ∈ is_L_cell Rt, np_S X q.1 q.2 :=
  List.forall_mem_cons.mpr ⟨np_s_iload_n hX dL_cell_0 rfl, List.forall_mem_cons.mpr ⟨np_S.mono (op := np_if (fun x => 0 ≤ x) 9) (np_s_if_ge hX dL_cell_1 (by decide)) nq_if_le, List.forall_mem_cons.mpr ⟨np_s_ldc hX dL_cell_4 gw1266, List.forall_mem_cons.mpr ⟨np_s_goto hX dL_cell_6 (by decide), List.forall_mem_cons.mpr ⟨np_s_aload_n hX dL_cell_9 rfl, List.forall_mem_cons.mpr ⟨np_s_iload_n hX dL_cell_10 rfl, List.forall_mem_cons.mpr ⟨np_s_iload_n hX dL_cell_11 rfl, List.forall_mem_cons.mpr ⟨np_s_iload_n hX dL_cell_12 rfl, List.forall_mem_cons.mpr ⟨np_s_iconst hX dL_cell_13 (by decide), List.forall_mem_cons.mpr ⟨np_S.mono (op := np_callVX 11 5 sp_X11_cell 6 1 6 1 6 []) (np_s_callVX hX C_X11_cell dL_cell_14 (q := (RX11, TX11, 14)) rfl rfl gw1264 gw63 gw1261 gw1262 gw1263 ⟨by decide, by decide, by decide⟩ (by decide) (by decide) (fun _ h => nomatch h)) (nw_callVX_le2 (ci := 11) (n := 5) (sp := sp_X11_cell) (maxL := 6) (mc := 1) (ms := 6) (RC := 1) (RS := 6) (hs := [])), List.forall_mem_cons.mpr ⟨np_S.mono (op := np_ret X.2.2.1) (np_s_ret hX dL_cell_17) (nq_ret_le hR), fun _ h => nomatch h⟩⟩⟩⟩⟩⟩⟩⟩⟩⟩⟩
noncomputable def m_L_cell (S : pw_S) (i0 : Nat) (x1 : Int32) (x2 : Int32) (x3 : Int32) : pw_R Int32 :=
 if 0 ≤ x2 then
 (pw_b (m_X11_cell S i0 x1 x2 x3 0) fun S1 r4 =>
 pw_e r4 (fun r6 =>
 (some (S1, r6))) (fun _ => none))
 else
 (some (S, (-2147483648)))
def sp_L_cell : np_Sp := fun vs w Q => ∃ (q : Nat) (S : pw_S) (i0 : Nat) (x1 : Int32) (x2 : Int32) (x3 : Int32), vs = [.ref (pw_pl 61 i0), .int x1, .int x2, .int x3] ∧ pw_ok q 61 i0 = true ∧ pw_W q w S ∧ pw_p (m_L_cell S i0 x1 x2 x3) (fun S' r => ∀ f', pw_W q (w.1, f') S' → Q (some (.int r)) (w.1, f'))
set_option maxRecDepth 100000 in
set_option maxHeartbeats 8000000 in
theorem C_L_cell : np_C yL_cell cL_cell 4 (some .int) 7 125 1 6 (sp_L_cell) := by
  refine np_of (by decide) ?_
  intro X vs w Q hsp hX hmn hRt hlt
  obtain ⟨q, S, i0, x1, x2, x3, rfl, hi0, hW, h⟩ := hsp
  obtain ⟨n, f⟩ := w
  unfold m_L_cell at h
  have hR : ∀ st w ce sl, np_rt (some .int) 1 6 Q st w ce sl → X.2.2.1 st w ce sl := fun _ _ _ _ h => by rw [hRt]; exact h
  refine np_soundW (so_L_cell hX hR) [] 400 0 _ _ _ _ _ ?_
  conv => whnf
  refine pw_br h (fun _ h => ?_) (fun _ h => ?_)
  · conv => whnf
    refine np_rd_i (hW.g hi0) ?_
    conv => whnf
    refine ⟨q, S, i0, x1, x2, x3, 0, rfl, hi0, hW, pw_bd h (fun S1 r4 h f2 hW3 => ?_)⟩
    rcases r4 with r6 | e7
    · replace h := pw_ei h
      conv => whnf
      exact ⟨Nat.le_of_ble_eq_true rfl, Nat.le_of_ble_eq_true rfl, ⟨_, rfl⟩, _, fun _ _ h9 => h9, pw_ps h _ hW3⟩
    · exact (pw_pn h).elim
  · conv => whnf
    exact ⟨Nat.le_of_ble_eq_true rfl, Nat.le_of_ble_eq_true rfl, ⟨_, rfl⟩, _, fun _ _ h9 => h9, pw_ps h _ hW⟩
