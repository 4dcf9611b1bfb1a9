theorem pw_Fr (x y : Int32) : ∃ z : Int32, z = x - x / y * y := ⟨_, rfl⟩
/-- a remainder, not worked out on the way -/
noncomputable def pw_rem (x y : Int32) : Int32 := Classical.choose (pw_Fr x y)
theorem pw_rem_eq (x y : Int32) : pw_rem x y = x - x / y * y := Classical.choose_spec (pw_Fr x y)
theorem np_s_iremO {X : np_Ctx} {pc : Nat} {own : String} {cc : ByteArray} {nL RF RL RC RS : Nat} {rI : Instr} (hX : np_ok own cc nL RF RL RC RS rI X) (d : decode cc pc = .ok (.irem, 1)) : np_S X pc (np_ibn (fun x y => pw_rem x y)) := by
  have e : (fun x y => pw_rem x y) = fun x y : Int32 => x - x / y * y := by
    funext x y
    exact pw_rem_eq x y
  rw [e]
  exact np_s_irem hX d
theorem dL_steps_0 : decode cL_steps 0 = .ok (.iconst 3, 1) := by decide +kernel
theorem dL_steps_1 : decode cL_steps 1 = .ok (.bipush 6, 2) := by decide +kernel
theorem dL_steps_3 : decode cL_steps 3 = .ok (.iload_n 1, 1) := by decide +kernel
theorem dL_steps_4 : decode cL_steps 4 = .ok (.imul, 1) := by decide +kernel
theorem dL_steps_5 : decode cL_steps 5 = .ok (.iadd, 1) := by decide +kernel
theorem dL_steps_6 : decode cL_steps 6 = .ok (.istore_n 3, 1) := by decide +kernel
theorem dL_steps_7 : decode cL_steps 7 = .ok (.aload_n 0, 1) := by decide +kernel
theorem dL_steps_8 : decode cL_steps 8 = .ok (.iload_n 1, 1) := by decide +kernel
theorem dL_steps_9 : decode cL_steps 9 = .ok (.invokestatic 105, 3) := by decide +kernel
theorem dL_steps_12 : decode cL_steps 12 = .ok (.istore 4, 2) := by decide +kernel
theorem dL_steps_14 : decode cL_steps 14 = .ok (.aload_n 2, 1) := by decide +kernel
theorem dL_steps_15 : decode cL_steps 15 = .ok (.iload_n 3, 1) := by decide +kernel
theorem dL_steps_16 : decode cL_steps 16 = .ok (.iconst 1, 1) := by decide +kernel
theorem dL_steps_17 : decode cL_steps 17 = .ok (.iadd, 1) := by decide +kernel
theorem dL_steps_18 : decode cL_steps 18 = .ok (.iaload, 1) := by decide +kernel
theorem dL_steps_19 : decode cL_steps 19 = .ok (.istore 5, 2) := by decide +kernel
theorem dL_steps_21 : decode cL_steps 21 = .ok (.iload 5, 2) := by decide +kernel
theorem dL_steps_23 : decode cL_steps 23 = .ok (.iload 4, 2) := by decide +kernel
theorem dL_steps_25 : decode cL_steps 25 = .ok (.if_icmp .ge 21, 3) := by decide +kernel
theorem dL_steps_28 : decode cL_steps 28 = .ok (.aload_n 0, 1) := by decide +kernel
theorem dL_steps_29 : decode cL_steps 29 = .ok (.iload_n 1, 1) := by decide +kernel
theorem dL_steps_30 : decode cL_steps 30 = .ok (.iload 5, 2) := by decide +kernel
theorem dL_steps_32 : decode cL_steps 32 = .ok (.invokevirtual 33, 3) := by decide +kernel
theorem dL_steps_35 : decode cL_steps 35 = .ok (.bipush 10, 2) := by decide +kernel
theorem dL_steps_37 : decode cL_steps 37 = .ok (.if_icmp .eq 9, 3) := by decide +kernel
theorem dL_steps_40 : decode cL_steps 40 = .ok (.iinc 5 1, 3) := by decide +kernel
theorem dL_steps_43 : decode cL_steps 43 = .ok (.goto (-22), 3) := by decide +kernel
theorem dL_steps_46 : decode cL_steps 46 = .ok (.aload_n 0, 1) := by decide +kernel
theorem dL_steps_47 : decode cL_steps 47 = .ok (.iconst 2, 1) := by decide +kernel
theorem dL_steps_48 : decode cL_steps 48 = .ok (.iload_n 1, 1) := by decide +kernel
theorem dL_steps_49 : decode cL_steps 49 = .ok (.iconst 0, 1) := by decide +kernel
theorem dL_steps_50 : decode cL_steps 50 = .ok (.iconst 0, 1) := by decide +kernel
theorem dL_steps_51 : decode cL_steps 51 = .ok (.invokestatic 52, 3) := by decide +kernel
theorem dL_steps_54 : decode cL_steps 54 = .ok (.istore 6, 2) := by decide +kernel
theorem dL_steps_56 : decode cL_steps 56 = .ok (.aload_n 2, 1) := by decide +kernel
theorem dL_steps_57 : decode cL_steps 57 = .ok (.iload_n 3, 1) := by decide +kernel
theorem dL_steps_58 : decode cL_steps 58 = .ok (.iaload, 1) := by decide +kernel
theorem dL_steps_59 : decode cL_steps 59 = .ok (.ifCond .ne 24, 3) := by decide +kernel
theorem dL_steps_62 : decode cL_steps 62 = .ok (.iload 6, 2) := by decide +kernel
theorem dL_steps_64 : decode cL_steps 64 = .ok (.ldc 42, 2) := by decide +kernel
theorem dL_steps_66 : decode cL_steps 66 = .ok (.if_icmp .ne 15, 3) := by decide +kernel
theorem dL_steps_69 : decode cL_steps 69 = .ok (.aload_n 0, 1) := by decide +kernel
theorem dL_steps_70 : decode cL_steps 70 = .ok (.iload_n 1, 1) := by decide +kernel
theorem dL_steps_71 : decode cL_steps 71 = .ok (.invokevirtual 120, 3) := by decide +kernel
theorem dL_steps_74 : decode cL_steps 74 = .ok (.ifCond .ne 7, 3) := by decide +kernel
theorem dL_steps_77 : decode cL_steps 77 = .ok (.iconst 1, 1) := by decide +kernel
theorem dL_steps_78 : decode cL_steps 78 = .ok (.goto 4, 3) := by decide +kernel
theorem dL_steps_81 : decode cL_steps 81 = .ok (.iconst 0, 1) := by decide +kernel
theorem dL_steps_82 : decode cL_steps 82 = .ok (.ireturn, 1) := by decide +kernel
theorem dL_steps_83 : decode cL_steps 83 = .ok (.aload_n 2, 1) := by decide +kernel
theorem dL_steps_84 : decode cL_steps 84 = .ok (.iload_n 3, 1) := by decide +kernel
theorem dL_steps_85 : decode cL_steps 85 = .ok (.iconst 5, 1) := by decide +kernel
theorem dL_steps_86 : decode cL_steps 86 = .ok (.iadd, 1) := by decide +kernel
theorem dL_steps_87 : decode cL_steps 87 = .ok (.iaload, 1) := by decide +kernel
theorem dL_steps_88 : decode cL_steps 88 = .ok (.ifCond .ne 7, 3) := by decide +kernel
theorem dL_steps_91 : decode cL_steps 91 = .ok (.iconst 1, 1) := by decide +kernel
theorem dL_steps_92 : decode cL_steps 92 = .ok (.goto 4, 3) := by decide +kernel
theorem dL_steps_95 : decode cL_steps 95 = .ok (.iconst 0, 1) := by decide +kernel
theorem dL_steps_96 : decode cL_steps 96 = .ok (.istore 7, 2) := by decide +kernel
theorem dL_steps_98 : decode cL_steps 98 = .ok (.iload 5, 2) := by decide +kernel
theorem dL_steps_100 : decode cL_steps 100 = .ok (.iload 4, 2) := by decide +kernel
theorem dL_steps_102 : decode cL_steps 102 = .ok (.if_icmp .ne 88, 3) := by decide +kernel
theorem dL_steps_105 : decode cL_steps 105 = .ok (.iload 7, 2) := by decide +kernel
theorem dL_steps_107 : decode cL_steps 107 = .ok (.ifCond .ne 13, 3) := by decide +kernel
theorem dL_steps_110 : decode cL_steps 110 = .ok (.aload_n 2, 1) := by decide +kernel
theorem dL_steps_111 : decode cL_steps 111 = .ok (.iload_n 3, 1) := by decide +kernel
theorem dL_steps_112 : decode cL_steps 112 = .ok (.iconst 1, 1) := by decide +kernel
theorem dL_steps_113 : decode cL_steps 113 = .ok (.iadd, 1) := by decide +kernel
theorem dL_steps_114 : decode cL_steps 114 = .ok (.iaload, 1) := by decide +kernel
theorem dL_steps_115 : decode cL_steps 115 = .ok (.iload 4, 2) := by decide +kernel
theorem dL_steps_117 : decode cL_steps 117 = .ok (.if_icmp .ne 73, 3) := by decide +kernel
theorem dL_steps_120 : decode cL_steps 120 = .ok (.iload 6, 2) := by decide +kernel
theorem dL_steps_122 : decode cL_steps 122 = .ok (.iload 7, 2) := by decide +kernel
theorem dL_steps_124 : decode cL_steps 124 = .ok (.ifCond .eq 7, 3) := by decide +kernel
theorem dL_steps_127 : decode cL_steps 127 = .ok (.iconst (-1), 1) := by decide +kernel
theorem dL_steps_128 : decode cL_steps 128 = .ok (.goto 5, 3) := by decide +kernel
theorem dL_steps_131 : decode cL_steps 131 = .ok (.bipush (-2), 2) := by decide +kernel
theorem dL_steps_133 : decode cL_steps 133 = .ok (.if_icmp .ne 55, 3) := by decide +kernel
theorem dL_steps_136 : decode cL_steps 136 = .ok (.aload_n 0, 1) := by decide +kernel
theorem dL_steps_137 : decode cL_steps 137 = .ok (.iload_n 1, 1) := by decide +kernel
theorem dL_steps_138 : decode cL_steps 138 = .ok (.invokevirtual 120, 3) := by decide +kernel
theorem dL_steps_141 : decode cL_steps 141 = .ok (.sipush 10000, 3) := by decide +kernel
theorem dL_steps_144 : decode cL_steps 144 = .ok (.aload_n 2, 1) := by decide +kernel
theorem dL_steps_145 : decode cL_steps 145 = .ok (.iload_n 3, 1) := by decide +kernel
theorem dL_steps_146 : decode cL_steps 146 = .ok (.iconst 2, 1) := by decide +kernel
theorem dL_steps_147 : decode cL_steps 147 = .ok (.iadd, 1) := by decide +kernel
theorem dL_steps_148 : decode cL_steps 148 = .ok (.iaload, 1) := by decide +kernel
theorem dL_steps_149 : decode cL_steps 149 = .ok (.imul, 1) := by decide +kernel
theorem dL_steps_150 : decode cL_steps 150 = .ok (.sipush 1000, 3) := by decide +kernel
theorem dL_steps_153 : decode cL_steps 153 = .ok (.aload_n 2, 1) := by decide +kernel
theorem dL_steps_154 : decode cL_steps 154 = .ok (.iload_n 3, 1) := by decide +kernel
theorem dL_steps_155 : decode cL_steps 155 = .ok (.iconst 3, 1) := by decide +kernel
theorem dL_steps_156 : decode cL_steps 156 = .ok (.iadd, 1) := by decide +kernel
theorem dL_steps_157 : decode cL_steps 157 = .ok (.iaload, 1) := by decide +kernel
theorem dL_steps_158 : decode cL_steps 158 = .ok (.bipush 9, 2) := by decide +kernel
theorem dL_steps_160 : decode cL_steps 160 = .ok (.if_icmp .ge 11, 3) := by decide +kernel
theorem dL_steps_163 : decode cL_steps 163 = .ok (.aload_n 2, 1) := by decide +kernel
theorem dL_steps_164 : decode cL_steps 164 = .ok (.iload_n 3, 1) := by decide +kernel
theorem dL_steps_165 : decode cL_steps 165 = .ok (.iconst 3, 1) := by decide +kernel
theorem dL_steps_166 : decode cL_steps 166 = .ok (.iadd, 1) := by decide +kernel
theorem dL_steps_167 : decode cL_steps 167 = .ok (.iaload, 1) := by decide +kernel
theorem dL_steps_168 : decode cL_steps 168 = .ok (.goto 5, 3) := by decide +kernel
theorem dL_steps_171 : decode cL_steps 171 = .ok (.bipush 9, 2) := by decide +kernel
theorem dL_steps_173 : decode cL_steps 173 = .ok (.imul, 1) := by decide +kernel
theorem dL_steps_174 : decode cL_steps 174 = .ok (.iadd, 1) := by decide +kernel
theorem dL_steps_175 : decode cL_steps 175 = .ok (.aload_n 2, 1) := by decide +kernel
theorem dL_steps_176 : decode cL_steps 176 = .ok (.iload_n 3, 1) := by decide +kernel
theorem dL_steps_177 : decode cL_steps 177 = .ok (.iconst 1, 1) := by decide +kernel
theorem dL_steps_178 : decode cL_steps 178 = .ok (.iadd, 1) := by decide +kernel
theorem dL_steps_179 : decode cL_steps 179 = .ok (.iaload, 1) := by decide +kernel
theorem dL_steps_180 : decode cL_steps 180 = .ok (.iadd, 1) := by decide +kernel
theorem dL_steps_181 : decode cL_steps 181 = .ok (.if_icmp .ne 7, 3) := by decide +kernel
theorem dL_steps_184 : decode cL_steps 184 = .ok (.iconst 1, 1) := by decide +kernel
theorem dL_steps_185 : decode cL_steps 185 = .ok (.goto 4, 3) := by decide +kernel
theorem dL_steps_188 : decode cL_steps 188 = .ok (.iconst 0, 1) := by decide +kernel
theorem dL_steps_189 : decode cL_steps 189 = .ok (.ireturn, 1) := by decide +kernel
theorem dL_steps_190 : decode cL_steps 190 = .ok (.aload_n 2, 1) := by decide +kernel
theorem dL_steps_191 : decode cL_steps 191 = .ok (.iload_n 3, 1) := by decide +kernel
theorem dL_steps_192 : decode cL_steps 192 = .ok (.iconst 2, 1) := by decide +kernel
theorem dL_steps_193 : decode cL_steps 193 = .ok (.iadd, 1) := by decide +kernel
theorem dL_steps_194 : decode cL_steps 194 = .ok (.iaload, 1) := by decide +kernel
theorem dL_steps_195 : decode cL_steps 195 = .ok (.bipush 24, 2) := by decide +kernel
theorem dL_steps_197 : decode cL_steps 197 = .ok (.if_icmp .ne 16, 3) := by decide +kernel
theorem dL_steps_200 : decode cL_steps 200 = .ok (.iload 6, 2) := by decide +kernel
theorem dL_steps_202 : decode cL_steps 202 = .ok (.ldc 42, 2) := by decide +kernel
theorem dL_steps_204 : decode cL_steps 204 = .ok (.if_icmp .ne 7, 3) := by decide +kernel
theorem dL_steps_207 : decode cL_steps 207 = .ok (.iconst 1, 1) := by decide +kernel
theorem dL_steps_208 : decode cL_steps 208 = .ok (.goto 4, 3) := by decide +kernel
theorem dL_steps_211 : decode cL_steps 211 = .ok (.iconst 0, 1) := by decide +kernel
theorem dL_steps_212 : decode cL_steps 212 = .ok (.ireturn, 1) := by decide +kernel
theorem dL_steps_213 : decode cL_steps 213 = .ok (.aload_n 2, 1) := by decide +kernel
theorem dL_steps_214 : decode cL_steps 214 = .ok (.iload_n 3, 1) := by decide +kernel
theorem dL_steps_215 : decode cL_steps 215 = .ok (.iconst 1, 1) := by decide +kernel
theorem dL_steps_216 : decode cL_steps 216 = .ok (.iadd, 1) := by decide +kernel
theorem dL_steps_217 : decode cL_steps 217 = .ok (.iaload, 1) := by decide +kernel
theorem dL_steps_218 : decode cL_steps 218 = .ok (.istore 8, 2) := by decide +kernel
theorem dL_steps_220 : decode cL_steps 220 = .ok (.aload_n 2, 1) := by decide +kernel
theorem dL_steps_221 : decode cL_steps 221 = .ok (.iload_n 3, 1) := by decide +kernel
theorem dL_steps_222 : decode cL_steps 222 = .ok (.iconst 1, 1) := by decide +kernel
theorem dL_steps_223 : decode cL_steps 223 = .ok (.iadd, 1) := by decide +kernel
theorem dL_steps_224 : decode cL_steps 224 = .ok (.iload 5, 2) := by decide +kernel
theorem dL_steps_226 : decode cL_steps 226 = .ok (.iload 4, 2) := by decide +kernel
theorem dL_steps_228 : decode cL_steps 228 = .ok (.if_icmp .ge 10, 3) := by decide +kernel
theorem dL_steps_231 : decode cL_steps 231 = .ok (.iload 5, 2) := by decide +kernel
theorem dL_steps_233 : decode cL_steps 233 = .ok (.iconst 1, 1) := by decide +kernel
theorem dL_steps_234 : decode cL_steps 234 = .ok (.iadd, 1) := by decide +kernel
theorem dL_steps_235 : decode cL_steps 235 = .ok (.goto 5, 3) := by decide +kernel
theorem dL_steps_238 : decode cL_steps 238 = .ok (.iload 5, 2) := by decide +kernel
theorem dL_steps_240 : decode cL_steps 240 = .ok (.iastore, 1) := by decide +kernel
theorem dL_steps_241 : decode cL_steps 241 = .ok (.iload 6, 2) := by decide +kernel
theorem dL_steps_243 : decode cL_steps 243 = .ok (.iconst 1, 1) := by decide +kernel
theorem dL_steps_244 : decode cL_steps 244 = .ok (.if_icmp .ne 133, 3) := by decide +kernel
theorem dL_steps_247 : decode cL_steps 247 = .ok (.aload_n 2, 1) := by decide +kernel
theorem dL_steps_248 : decode cL_steps 248 = .ok (.iload_n 3, 1) := by decide +kernel
theorem dL_steps_249 : decode cL_steps 249 = .ok (.iconst 2, 1) := by decide +kernel
theorem dL_steps_250 : decode cL_steps 250 = .ok (.iadd, 1) := by decide +kernel
theorem dL_steps_251 : decode cL_steps 251 = .ok (.dup2, 1) := by decide +kernel
theorem dL_steps_252 : decode cL_steps 252 = .ok (.iaload, 1) := by decide +kernel
theorem dL_steps_253 : decode cL_steps 253 = .ok (.iconst 1, 1) := by decide +kernel
theorem dL_steps_254 : decode cL_steps 254 = .ok (.iadd, 1) := by decide +kernel
theorem dL_steps_255 : decode cL_steps 255 = .ok (.iastore, 1) := by decide +kernel
theorem dL_steps_256 : decode cL_steps 256 = .ok (.aload_n 0, 1) := by decide +kernel
theorem dL_steps_257 : decode cL_steps 257 = .ok (.iload_n 1, 1) := by decide +kernel
theorem dL_steps_258 : decode cL_steps 258 = .ok (.invokevirtual 120, 3) := by decide +kernel
theorem dL_steps_261 : decode cL_steps 261 = .ok (.sipush 1000, 3) := by decide +kernel
theorem dL_steps_264 : decode cL_steps 264 = .ok (.idiv, 1) := by decide +kernel
theorem dL_steps_265 : decode cL_steps 265 = .ok (.bipush 10, 2) := by decide +kernel
theorem dL_steps_267 : decode cL_steps 267 = .ok (.irem, 1) := by decide +kernel
theorem dL_steps_268 : decode cL_steps 268 = .ok (.istore 9, 2) := by decide +kernel
theorem dL_steps_270 : decode cL_steps 270 = .ok (.iload 9, 2) := by decide +kernel
theorem dL_steps_272 : decode cL_steps 272 = .ok (.aload_n 2, 1) := by decide +kernel
theorem dL_steps_273 : decode cL_steps 273 = .ok (.iload_n 3, 1) := by decide +kernel
theorem dL_steps_274 : decode cL_steps 274 = .ok (.iconst 3, 1) := by decide +kernel
theorem dL_steps_275 : decode cL_steps 275 = .ok (.iadd, 1) := by decide +kernel
theorem dL_steps_276 : decode cL_steps 276 = .ok (.iaload, 1) := by decide +kernel
theorem dL_steps_277 : decode cL_steps 277 = .ok (.if_icmp .eq 27, 3) := by decide +kernel
theorem dL_steps_280 : decode cL_steps 280 = .ok (.iload 9, 2) := by decide +kernel
theorem dL_steps_282 : decode cL_steps 282 = .ok (.aload_n 2, 1) := by decide +kernel
theorem dL_steps_283 : decode cL_steps 283 = .ok (.iload_n 3, 1) := by decide +kernel
theorem dL_steps_284 : decode cL_steps 284 = .ok (.iconst 3, 1) := by decide +kernel
theorem dL_steps_285 : decode cL_steps 285 = .ok (.iadd, 1) := by decide +kernel
theorem dL_steps_286 : decode cL_steps 286 = .ok (.iaload, 1) := by decide +kernel
theorem dL_steps_287 : decode cL_steps 287 = .ok (.iconst 1, 1) := by decide +kernel
theorem dL_steps_288 : decode cL_steps 288 = .ok (.iadd, 1) := by decide +kernel
theorem dL_steps_289 : decode cL_steps 289 = .ok (.if_icmp .ne 19, 3) := by decide +kernel
theorem dL_steps_292 : decode cL_steps 292 = .ok (.aload_n 0, 1) := by decide +kernel
theorem dL_steps_293 : decode cL_steps 293 = .ok (.aload_n 2, 1) := by decide +kernel
theorem dL_steps_294 : decode cL_steps 294 = .ok (.iload_n 3, 1) := by decide +kernel
theorem dL_steps_295 : decode cL_steps 295 = .ok (.iaload, 1) := by decide +kernel
theorem dL_steps_296 : decode cL_steps 296 = .ok (.iconst 1, 1) := by decide +kernel
theorem dL_steps_297 : decode cL_steps 297 = .ok (.isub, 1) := by decide +kernel
theorem dL_steps_298 : decode cL_steps 298 = .ok (.invokevirtual 68, 3) := by decide +kernel
theorem dL_steps_301 : decode cL_steps 301 = .ok (.ifCond .lt 7, 3) := by decide +kernel
theorem dL_steps_304 : decode cL_steps 304 = .ok (.iconst 1, 1) := by decide +kernel
theorem dL_steps_305 : decode cL_steps 305 = .ok (.goto 4, 3) := by decide +kernel
theorem dL_steps_308 : decode cL_steps 308 = .ok (.iconst 0, 1) := by decide +kernel
theorem dL_steps_309 : decode cL_steps 309 = .ok (.istore 10, 2) := by decide +kernel
theorem dL_steps_311 : decode cL_steps 311 = .ok (.aload_n 2, 1) := by decide +kernel
theorem dL_steps_312 : decode cL_steps 312 = .ok (.iload_n 3, 1) := by decide +kernel
theorem dL_steps_313 : decode cL_steps 313 = .ok (.iconst 3, 1) := by decide +kernel
theorem dL_steps_314 : decode cL_steps 314 = .ok (.iadd, 1) := by decide +kernel
theorem dL_steps_315 : decode cL_steps 315 = .ok (.iload 9, 2) := by decide +kernel
theorem dL_steps_317 : decode cL_steps 317 = .ok (.iastore, 1) := by decide +kernel
theorem dL_steps_318 : decode cL_steps 318 = .ok (.iload 10, 2) := by decide +kernel
theorem dL_steps_320 : decode cL_steps 320 = .ok (.ifCond .eq 55, 3) := by decide +kernel
theorem dL_steps_323 : decode cL_steps 323 = .ok (.aload_n 0, 1) := by decide +kernel
theorem dL_steps_324 : decode cL_steps 324 = .ok (.iload_n 1, 1) := by decide +kernel
theorem dL_steps_325 : decode cL_steps 325 = .ok (.invokevirtual 120, 3) := by decide +kernel
theorem dL_steps_328 : decode cL_steps 328 = .ok (.sipush 10000, 3) := by decide +kernel
theorem dL_steps_331 : decode cL_steps 331 = .ok (.aload_n 2, 1) := by decide +kernel
theorem dL_steps_332 : decode cL_steps 332 = .ok (.iload_n 3, 1) := by decide +kernel
theorem dL_steps_333 : decode cL_steps 333 = .ok (.iconst 2, 1) := by decide +kernel
theorem dL_steps_334 : decode cL_steps 334 = .ok (.iadd, 1) := by decide +kernel
theorem dL_steps_335 : decode cL_steps 335 = .ok (.iaload, 1) := by decide +kernel
theorem dL_steps_336 : decode cL_steps 336 = .ok (.imul, 1) := by decide +kernel
theorem dL_steps_337 : decode cL_steps 337 = .ok (.sipush 1000, 3) := by decide +kernel
theorem dL_steps_340 : decode cL_steps 340 = .ok (.iload 9, 2) := by decide +kernel
theorem dL_steps_342 : decode cL_steps 342 = .ok (.imul, 1) := by decide +kernel
theorem dL_steps_343 : decode cL_steps 343 = .ok (.iadd, 1) := by decide +kernel
theorem dL_steps_344 : decode cL_steps 344 = .ok (.aload_n 2, 1) := by decide +kernel
theorem dL_steps_345 : decode cL_steps 345 = .ok (.iload_n 3, 1) := by decide +kernel
theorem dL_steps_346 : decode cL_steps 346 = .ok (.iconst 1, 1) := by decide +kernel
theorem dL_steps_347 : decode cL_steps 347 = .ok (.iadd, 1) := by decide +kernel
theorem dL_steps_348 : decode cL_steps 348 = .ok (.iaload, 1) := by decide +kernel
theorem dL_steps_349 : decode cL_steps 349 = .ok (.iadd, 1) := by decide +kernel
theorem dL_steps_350 : decode cL_steps 350 = .ok (.if_icmp .ne 25, 3) := by decide +kernel
theorem dL_steps_353 : decode cL_steps 353 = .ok (.aload_n 0, 1) := by decide +kernel
theorem dL_steps_354 : decode cL_steps 354 = .ok (.aload_n 2, 1) := by decide +kernel
theorem dL_steps_355 : decode cL_steps 355 = .ok (.iload_n 3, 1) := by decide +kernel
theorem dL_steps_356 : decode cL_steps 356 = .ok (.iaload, 1) := by decide +kernel
theorem dL_steps_357 : decode cL_steps 357 = .ok (.iconst 1, 1) := by decide +kernel
theorem dL_steps_358 : decode cL_steps 358 = .ok (.isub, 1) := by decide +kernel
theorem dL_steps_359 : decode cL_steps 359 = .ok (.iload_n 1, 1) := by decide +kernel
theorem dL_steps_360 : decode cL_steps 360 = .ok (.iload 8, 2) := by decide +kernel
theorem dL_steps_362 : decode cL_steps 362 = .ok (.iload 5, 2) := by decide +kernel
theorem dL_steps_364 : decode cL_steps 364 = .ok (.aload_n 2, 1) := by decide +kernel
theorem dL_steps_365 : decode cL_steps 365 = .ok (.invokestatic 123, 3) := by decide +kernel
theorem dL_steps_368 : decode cL_steps 368 = .ok (.ifCond .eq 7, 3) := by decide +kernel
theorem dL_steps_371 : decode cL_steps 371 = .ok (.iconst 1, 1) := by decide +kernel
theorem dL_steps_372 : decode cL_steps 372 = .ok (.goto 4, 3) := by decide +kernel
theorem dL_steps_375 : decode cL_steps 375 = .ok (.iconst 0, 1) := by decide +kernel
theorem dL_steps_376 : decode cL_steps 376 = .ok (.ireturn, 1) := by decide +kernel
theorem dL_steps_377 : decode cL_steps 377 = .ok (.aload_n 0, 1) := by decide +kernel
theorem dL_steps_378 : decode cL_steps 378 = .ok (.iconst 4, 1) := by decide +kernel
theorem dL_steps_379 : decode cL_steps 379 = .ok (.iload_n 1, 1) := by decide +kernel
theorem dL_steps_380 : decode cL_steps 380 = .ok (.aload_n 2, 1) := by decide +kernel
theorem dL_steps_381 : decode cL_steps 381 = .ok (.iload_n 3, 1) := by decide +kernel
theorem dL_steps_382 : decode cL_steps 382 = .ok (.iconst 4, 1) := by decide +kernel
theorem dL_steps_383 : decode cL_steps 383 = .ok (.iadd, 1) := by decide +kernel
theorem dL_steps_384 : decode cL_steps 384 = .ok (.iaload, 1) := by decide +kernel
theorem dL_steps_385 : decode cL_steps 385 = .ok (.iconst 0, 1) := by decide +kernel
theorem dL_steps_386 : decode cL_steps 386 = .ok (.invokestatic 52, 3) := by decide +kernel
theorem dL_steps_389 : decode cL_steps 389 = .ok (.istore 9, 2) := by decide +kernel
theorem dL_steps_391 : decode cL_steps 391 = .ok (.aload_n 2, 1) := by decide +kernel
theorem dL_steps_392 : decode cL_steps 392 = .ok (.iload_n 3, 1) := by decide +kernel
theorem dL_steps_393 : decode cL_steps 393 = .ok (.iconst 4, 1) := by decide +kernel
theorem dL_steps_394 : decode cL_steps 394 = .ok (.iadd, 1) := by decide +kernel
theorem dL_steps_395 : decode cL_steps 395 = .ok (.dup2, 1) := by decide +kernel
theorem dL_steps_396 : decode cL_steps 396 = .ok (.iaload, 1) := by decide +kernel
theorem dL_steps_397 : decode cL_steps 397 = .ok (.iconst 1, 1) := by decide +kernel
theorem dL_steps_398 : decode cL_steps 398 = .ok (.iadd, 1) := by decide +kernel
theorem dL_steps_399 : decode cL_steps 399 = .ok (.iastore, 1) := by decide +kernel
theorem dL_steps_400 : decode cL_steps 400 = .ok (.iload 6, 2) := by decide +kernel
theorem dL_steps_402 : decode cL_steps 402 = .ok (.ifCond .ne 54, 3) := by decide +kernel
theorem dL_steps_405 : decode cL_steps 405 = .ok (.iload 9, 2) := by decide +kernel
theorem dL_steps_407 : decode cL_steps 407 = .ok (.ldc 126, 2) := by decide +kernel
theorem dL_steps_409 : decode cL_steps 409 = .ok (.idiv, 1) := by decide +kernel
theorem dL_steps_410 : decode cL_steps 410 = .ok (.bipush 100, 2) := by decide +kernel
theorem dL_steps_412 : decode cL_steps 412 = .ok (.if_icmp .gt 44, 3) := by decide +kernel
theorem dL_steps_415 : decode cL_steps 415 = .ok (.iload 9, 2) := by decide +kernel
theorem dL_steps_417 : decode cL_steps 417 = .ok (.ldc 126, 2) := by decide +kernel
theorem dL_steps_419 : decode cL_steps 419 = .ok (.irem, 1) := by decide +kernel
theorem dL_steps_420 : decode cL_steps 420 = .ok (.sipush 1000, 3) := by decide +kernel
theorem dL_steps_423 : decode cL_steps 423 = .ok (.iload 8, 2) := by decide +kernel
theorem dL_steps_425 : decode cL_steps 425 = .ok (.imul, 1) := by decide +kernel
theorem dL_steps_426 : decode cL_steps 426 = .ok (.aload_n 2, 1) := by decide +kernel
theorem dL_steps_427 : decode cL_steps 427 = .ok (.iload_n 3, 1) := by decide +kernel
theorem dL_steps_428 : decode cL_steps 428 = .ok (.iconst 1, 1) := by decide +kernel
theorem dL_steps_429 : decode cL_steps 429 = .ok (.iadd, 1) := by decide +kernel
theorem dL_steps_430 : decode cL_steps 430 = .ok (.iaload, 1) := by decide +kernel
theorem dL_steps_431 : decode cL_steps 431 = .ok (.iadd, 1) := by decide +kernel
theorem dL_steps_432 : decode cL_steps 432 = .ok (.if_icmp .ne 24, 3) := by decide +kernel
theorem dL_steps_435 : decode cL_steps 435 = .ok (.aload_n 0, 1) := by decide +kernel
theorem dL_steps_436 : decode cL_steps 436 = .ok (.iconst 4, 1) := by decide +kernel
theorem dL_steps_437 : decode cL_steps 437 = .ok (.iload_n 1, 1) := by decide +kernel
theorem dL_steps_438 : decode cL_steps 438 = .ok (.aload_n 2, 1) := by decide +kernel
theorem dL_steps_439 : decode cL_steps 439 = .ok (.iload_n 3, 1) := by decide +kernel
theorem dL_steps_440 : decode cL_steps 440 = .ok (.iconst 4, 1) := by decide +kernel
theorem dL_steps_441 : decode cL_steps 441 = .ok (.iadd, 1) := by decide +kernel
theorem dL_steps_442 : decode cL_steps 442 = .ok (.iaload, 1) := by decide +kernel
theorem dL_steps_443 : decode cL_steps 443 = .ok (.iconst 0, 1) := by decide +kernel
theorem dL_steps_444 : decode cL_steps 444 = .ok (.invokestatic 52, 3) := by decide +kernel
theorem dL_steps_447 : decode cL_steps 447 = .ok (.ldc 39, 2) := by decide +kernel
theorem dL_steps_449 : decode cL_steps 449 = .ok (.if_icmp .ne 7, 3) := by decide +kernel
theorem dL_steps_452 : decode cL_steps 452 = .ok (.iconst 1, 1) := by decide +kernel
theorem dL_steps_453 : decode cL_steps 453 = .ok (.goto 4, 3) := by decide +kernel
theorem dL_steps_456 : decode cL_steps 456 = .ok (.iconst 0, 1) := by decide +kernel
theorem dL_steps_457 : decode cL_steps 457 = .ok (.ireturn, 1) := by decide +kernel
def is_L_steps (Rt : np_Rt) : List (Nat × np_Op) := [(0, np_push 1 (.int 3)), (1, np_push 2 (.int 6)), (3, np_ild 1 1), (4, np_ib (fun x y => x * y)), (5, np_ib (fun x y => x + y)), (6, nw_ist 1 3), (7, np_ald 1 0), (8, np_ild 1 1), (9, nq_call 2 sp_L_units 3 302 1812 1109 6654), (12, nw_ist 2 4), (14, np_ald 1 2), (15, np_ild 1 3), (16, np_push 1 (.int 1)), (17, np_ib (fun x y => x + y)), (18, nw_ialdT .int), (19, nw_ist 2 5), (21, np_ild 2 5), (23, np_ild 2 4), (25, nq_ic (fun x y => y ≤ x) 46), (28, np_ald 1 0), (29, np_ild 1 1), (30, np_ild 2 5), (32, nw_callVX 11 3 sp_X11_unit 5 1 6 1109 6654 []), (35, np_push 2 (.int 10)), (37, nq_ic (fun x y => x = y) 46), (40, nw_iinc 5 1), (43, np_goto 21), (46, np_ald 1 0), (47, np_push 1 (.int 2)), (48, np_ild 1 1), (49, np_push 1 (.int 0)), (50, np_push 1 (.int 0)), (51, nq_call 5 sp_L_asks 6 1 6 1109 6654), (54, nw_ist 2 6), (56, np_ald 1 2), (57, np_ild 1 3), (58, nw_ialdT .int), (59, nq_ifne 83), (62, np_ild 2 6), (64, np_push 2 (.int (-70008))), (66, nq_icne 81), (69, np_ald 1 0), (70, np_ild 1 1), (71, nw_callVX 11 2 sp_X11_progress 3 1 6 1109 6654 []), (74, nq_ifne 81), (77, np_push 1 (.int 1)), (78, np_goto 82), (81, np_push 1 (.int 0)), (82, np_ret Rt), (83, np_ald 1 2), (84, np_ild 1 3), (85, np_push 1 (.int 5)), (86, np_ib (fun x y => x + y)), (87, nw_ialdT .int), (88, nq_ifne 95), (91, np_push 1 (.int 1)), (92, np_goto 96), (95, np_push 1 (.int 0)), (96, nw_ist 2 7), (98, np_ild 2 5), (100, np_ild 2 4), (102, nq_icne 190), (105, np_ild 2 7), (107, nq_ifne 120), (110, np_ald 1 2), (111, np_ild 1 3), (112, np_push 1 (.int 1)), (113, np_ib (fun x y => x + y)), (114, nw_ialdT .int), (115, np_ild 2 4), (117, nq_icne 190), (120, np_ild 2 6), (122, np_ild 2 7), (124, nq_if (fun x => x = 0) 131), (127, np_push 1 (.int (-1))), (128, np_goto 133), (131, np_push 2 (.int (-2))), (133, nq_icne 188), (136, np_ald 1 0), (137, np_ild 1 1), (138, nw_callVX 11 2 sp_X11_progress 3 1 6 1109 6654 []), (141, np_push 3 (.int 10000)), (144, np_ald 1 2), (145, np_ild 1 3), (146, np_push 1 (.int 2)), (147, np_ib (fun x y => x + y)), (148, nw_ialdT .int), (149, np_ib (fun x y => x * y)), (150, np_push 3 (.int 1000)), (153, np_ald 1 2), (154, np_ild 1 3), (155, np_push 1 (.int 3)), (156, np_ib (fun x y => x + y)), (157, nw_ialdT .int), (158, np_push 2 (.int 9)), (160, nq_ic (fun x y => y ≤ x) 171), (163, np_ald 1 2), (164, np_ild 1 3), (165, np_push 1 (.int 3)), (166, np_ib (fun x y => x + y)), (167, nw_ialdT .int), (168, np_goto 173), (171, np_push 2 (.int 9)), (173, np_ib (fun x y => x * y)), (174, np_ib (fun x y => x + y)), (175, np_ald 1 2), (176, np_ild 1 3), (177, np_push 1 (.int 1)), (178, np_ib (fun x y => x + y)), (179, nw_ialdT .int), (180, np_ib (fun x y => x + y)), (181, nq_icne 188), (184, np_push 1 (.int 1)), (185, np_goto 189), (188, np_push 1 (.int 0)), (189, np_ret Rt), (190, np_ald 1 2), (191, np_ild 1 3), (192, np_push 1 (.int 2)), (193, np_ib (fun x y => x + y)), (194, nw_ialdT .int), (195, np_push 2 (.int 24)), (197, nq_icne 213), (200, np_ild 2 6), (202, np_push 2 (.int (-70008))), (204, nq_icne 211), (207, np_push 1 (.int 1)), (208, np_goto 212), (211, np_push 1 (.int 0)), (212, np_ret Rt), (213, np_ald 1 2), (214, np_ild 1 3), (215, np_push 1 (.int 1)), (216, np_ib (fun x y => x + y)), (217, nw_ialdT .int), (218, nw_ist 2 8), (220, np_ald 1 2), (221, np_ild 1 3), (222, np_push 1 (.int 1)), (223, np_ib (fun x y => x + y)), (224, np_ild 2 5), (226, np_ild 2 4), (228, nq_ic (fun x y => y ≤ x) 238), (231, np_ild 2 5), (233, np_push 1 (.int 1)), (234, np_ib (fun x y => x + y)), (235, np_goto 240), (238, np_ild 2 5), (240, nw_iastT .int), (241, np_ild 2 6), (243, np_push 1 (.int 1)), (244, nq_icne 377), (247, np_ald 1 2), (248, np_ild 1 3), (249, np_push 1 (.int 2)), (250, np_ib (fun x y => x + y)), (251, nq_dup2), (252, nw_ialdT .int), (253, np_push 1 (.int 1)), (254, np_ib (fun x y => x + y)), (255, nw_iastT .int), (256, np_ald 1 0), (257, np_ild 1 1), (258, nw_callVX 11 2 sp_X11_progress 3 1 6 1109 6654 []), (261, np_push 3 (.int 1000)), (264, nq_ibn (fun x y => x / y)), (265, np_push 2 (.int 10)), (267, nq_ibn (fun x y => x - x / y * y)), (268, nw_ist 2 9), (270, np_ild 2 9), (272, np_ald 1 2), (273, np_ild 1 3), (274, np_push 1 (.int 3)), (275, np_ib (fun x y => x + y)), (276, nw_ialdT .int), (277, nq_ic (fun x y => x = y) 304), (280, np_ild 2 9), (282, np_ald 1 2), (283, np_ild 1 3), (284, np_push 1 (.int 3)), (285, np_ib (fun x y => x + y)), (286, nw_ialdT .int), (287, np_push 1 (.int 1)), (288, np_ib (fun x y => x + y)), (289, nq_icne 308), (292, np_ald 1 0), (293, np_ald 1 2), (294, np_ild 1 3), (295, nw_ialdT .int), (296, np_push 1 (.int 1)), (297, np_ib (fun x y => x - y)), (298, nw_callVX 11 2 sp_X11_sure 3 1 6 1109 6654 []), (301, nq_if (fun x => x < 0) 308), (304, np_push 1 (.int 1)), (305, np_goto 309), (308, np_push 1 (.int 0)), (309, nw_ist 2 10), (311, np_ald 1 2), (312, np_ild 1 3), (313, np_push 1 (.int 3)), (314, np_ib (fun x y => x + y)), (315, np_ild 2 9), (317, nw_iastT .int), (318, np_ild 2 10), (320, nq_if (fun x => x = 0) 375), (323, np_ald 1 0), (324, np_ild 1 1), (325, nw_callVX 11 2 sp_X11_progress 3 1 6 1109 6654 []), (328, np_push 3 (.int 10000)), (331, np_ald 1 2), (332, np_ild 1 3), (333, np_push 1 (.int 2)), (334, np_ib (fun x y => x + y)), (335, nw_ialdT .int), (336, np_ib (fun x y => x * y)), (337, np_push 3 (.int 1000)), (340, np_ild 2 9), (342, np_ib (fun x y => x * y)), (343, np_ib (fun x y => x + y)), (344, np_ald 1 2), (345, np_ild 1 3), (346, np_push 1 (.int 1)), (347, np_ib (fun x y => x + y)), (348, nw_ialdT .int), (349, np_ib (fun x y => x + y)), (350, nq_icne 375), (353, np_ald 1 0), (354, np_ald 1 2), (355, np_ild 1 3), (356, nw_ialdT .int), (357, np_push 1 (.int 1)), (358, np_ib (fun x y => x - y)), (359, np_ild 1 1), (360, np_ild 2 8), (362, np_ild 2 5), (364, np_ald 1 2), (365, nq_call 6 sp_L_isLine 13 501 3006 1109 6654), (368, nq_if (fun x => x = 0) 375), (371, np_push 1 (.int 1)), (372, np_goto 376), (375, np_push 1 (.int 0)), (376, np_ret Rt), (377, np_ald 1 0), (378, np_push 1 (.int 4)), (379, np_ild 1 1), (380, np_ald 1 2), (381, np_ild 1 3), (382, np_push 1 (.int 4)), (383, np_ib (fun x y => x + y)), (384, nw_ialdT .int), (385, np_push 1 (.int 0)), (386, nq_call 5 sp_L_asks 6 1 6 1109 6654), (389, nw_ist 2 9), (391, np_ald 1 2), (392, np_ild 1 3), (393, np_push 1 (.int 4)), (394, np_ib (fun x y => x + y)), (395, nq_dup2), (396, nw_ialdT .int), (397, np_push 1 (.int 1)), (398, np_ib (fun x y => x + y)), (399, nw_iastT .int), (400, np_ild 2 6), (402, nq_ifne 456), (405, np_ild 2 9), (407, np_push 2 (.int 1000000)), (409, nq_ibn (fun x y => x / y)), (410, np_push 2 (.int 100)), (412, nq_ic (fun x y => y < x) 456), (415, np_ild 2 9), (417, np_push 2 (.int 1000000)), (419, nq_ibn (fun x y => pw_rem x y)), (420, np_push 3 (.int 1000)), (423, np_ild 2 8), (425, np_ib (fun x y => x * y)), (426, np_ald 1 2), (427, np_ild 1 3), (428, np_push 1 (.int 1)), (429, np_ib (fun x y => x + y)), (430, nw_ialdT .int), (431, np_ib (fun x y => x + y)), (432, nq_icne 456), (435, np_ald 1 0), (436, np_push 1 (.int 4)), (437, np_ild 1 1), (438, np_ald 1 2), (439, np_ild 1 3), (440, np_push 1 (.int 4)), (441, np_ib (fun x y => x + y)), (442, nw_ialdT .int), (443, np_push 1 (.int 0)), (444, nq_call 5 sp_L_asks 6 1 6 1109 6654), (447, np_push 2 (.int (-70007))), (449, nq_icne 456), (452, np_push 1 (.int 1)), (453, np_goto 457), (456, np_push 1 (.int 0)), (457, np_ret Rt)]
set_option maxRecDepth 20000 in
theorem so_L_steps {X : np_Ctx} {Rt : np_Rt} (hX : np_ok RL cL_steps 11 11 304 1109 6654 .ireturn X) (hR : ∀ st w ce sl, Rt st w ce sl → X.2.2.1 st w ce sl) : ∀ q ∈ is_L_steps Rt, np_S X q.1 q.2 :=
  List.forall_mem_cons.mpr ⟨np_s_iconst hX dL_steps_0 (by decide), List.forall_mem_cons.mpr ⟨np_s_bipush hX dL_steps_1 (by decide), List.forall_mem_cons.mpr ⟨np_s_iload_n hX dL_steps_3 rfl, List.forall_mem_cons.mpr ⟨np_s_imul hX dL_steps_4, List.forall_mem_cons.mpr ⟨np_s_iadd hX dL_steps_5, List.forall_mem_cons.mpr ⟨np_S.mono (op := np_ist 1 3) (np_s_istore_n hX dL_steps_6 rfl (by decide)) nw_ist_le, List.forall_mem_cons.mpr ⟨np_s_aload_n hX dL_steps_7 rfl, List.forall_mem_cons.mpr ⟨np_s_iload_n hX dL_steps_8 rfl, List.forall_mem_cons.mpr ⟨np_S.mono (op := np_call 2 sp_L_units 3 302 1812 1109 6654) (np_s_callS hX C_L_units dL_steps_9 gw928 gw62 gw926 gw927 ⟨by decide, by decide, by decide⟩ (by decide) (by decide)) nq_call_le, List.forall_mem_cons.mpr ⟨np_S.mono (op := np_ist 2 4) (np_s_istore hX dL_steps_12 (by decide)) nw_ist_le, List.forall_mem_cons.mpr ⟨np_s_aload_n hX dL_steps_14 rfl, List.forall_mem_cons.mpr ⟨np_s_iload_n hX dL_steps_15 rfl, List.forall_mem_cons.mpr ⟨np_s_iconst hX dL_steps_16 (by decide), List.forall_mem_cons.mpr ⟨np_s_iadd hX dL_steps_17, List.forall_mem_cons.mpr ⟨np_S.mono (op := np_ialdT .int) (np_s_iald hX dL_steps_18) nw_ialdT_le, List.forall_mem_cons.mpr ⟨np_S.mono (op := np_ist 2 5) (np_s_istore hX dL_steps_19 (by decide)) nw_ist_le, List.forall_mem_cons.mpr ⟨np_s_iload hX dL_steps_21, List.forall_mem_cons.mpr ⟨np_s_iload hX dL_steps_23, List.forall_mem_cons.mpr ⟨np_S.mono (op := np_ic (fun x y => y ≤ x) 46) (np_s_icmp_ge hX dL_steps_25 (by decide)) nq_ic_le, List.forall_mem_cons.mpr ⟨np_s_aload_n hX dL_steps_28 rfl, List.forall_mem_cons.mpr ⟨np_s_iload_n hX dL_steps_29 rfl, List.forall_mem_cons.mpr ⟨np_s_iload hX dL_steps_30, List.forall_mem_cons.mpr ⟨np_S.mono (op := np_callVX 11 3 sp_X11_unit 5 1 6 1109 6654 []) (np_s_callVX hX C_X11_unit dL_steps_32 (q := (RX11, TX11, 14)) rfl rfl gw1181 gw63 gw1178 gw1179 gw1180 ⟨by decide, by decide, by decide⟩ (by decide) (by decide) (fun _ h => nomatch h)) (nw_callVX_le2 (ci := 11) (n := 3) (sp := sp_X11_unit) (maxL := 5) (mc := 1) (ms := 6) (RC := 1109) (RS := 6654) (hs := [])), List.forall_mem_cons.mpr ⟨np_s_bipush hX dL_steps_35 (by decide), List.forall_mem_cons.mpr ⟨np_S.mono (op := np_ic (fun x y => x = y) 46) (np_s_icmp_eq hX dL_steps_37 (by decide)) nq_ic_le, List.forall_mem_cons.mpr ⟨np_S.mono (op := np_iinc 5 1) (np_s_iinc hX dL_steps_40 (by decide)) nw_iinc_le, List.forall_mem_cons.mpr ⟨np_s_goto hX dL_steps_43 (by decide), List.forall_mem_cons.mpr ⟨np_s_aload_n hX dL_steps_46 rfl, List.forall_mem_cons.mpr ⟨np_s_iconst hX dL_steps_47 (by decide), List.forall_mem_cons.mpr ⟨np_s_iload_n hX dL_steps_48 rfl, List.forall_mem_cons.mpr ⟨np_s_iconst hX dL_steps_49 (by decide), List.forall_mem_cons.mpr ⟨np_s_iconst hX dL_steps_50 (by decide), List.forall_mem_cons.mpr ⟨np_S.mono (op := np_call 5 sp_L_asks 6 1 6 1109 6654) (np_s_callSW hX C_L_asks dL_steps_51 gw931 gw62 gw929 gw930 ⟨by decide, by decide, by decide⟩ (by decide) (by decide)) nq_call_le, List.forall_mem_cons.mpr ⟨np_S.mono (op := np_ist 2 6) (np_s_istore hX dL_steps_54 (by decide)) nw_ist_le, List.forall_mem_cons.mpr ⟨np_s_aload_n hX dL_steps_56 rfl, List.forall_mem_cons.mpr ⟨np_s_iload_n hX dL_steps_57 rfl, List.forall_mem_cons.mpr ⟨np_S.mono (op := np_ialdT .int) (np_s_iald hX dL_steps_58) nw_ialdT_le, List.forall_mem_cons.mpr ⟨np_S.mono (op := np_ifne 83) (np_s_if_ne hX dL_steps_59 (by decide)) nq_ifne_le, List.forall_mem_cons.mpr ⟨np_s_iload hX dL_steps_62, List.forall_mem_cons.mpr ⟨np_s_ldc hX dL_steps_64 gw1185, List.forall_mem_cons.mpr ⟨np_S.mono (op := np_icne 81) (np_s_icmp_ne hX dL_steps_66 (by decide)) nq_icne_le, List.forall_mem_cons.mpr ⟨np_s_aload_n hX dL_steps_69 rfl, List.forall_mem_cons.mpr ⟨np_s_iload_n hX dL_steps_70 rfl, List.forall_mem_cons.mpr ⟨np_S.mono (op := np_callVX 11 2 sp_X11_progress 3 1 6 1109 6654 []) (np_s_callVX hX C_X11_progress dL_steps_71 (q := (RX11, TX11, 14)) rfl rfl gw1251 gw63 gw1248 gw1249 gw1250 ⟨by decide, by decide, by decide⟩ (by decide) (by decide) (fun _ h => nomatch h)) (nw_callVX_le2 (ci := 11) (n := 2) (sp := sp_X11_progress) (maxL := 3) (mc := 1) (ms := 6) (RC := 1109) (RS := 6654) (hs := [])), List.forall_mem_cons.mpr ⟨np_S.mono (op := np_ifne 81) (np_s_if_ne hX dL_steps_74 (by decide)) nq_ifne_le, List.forall_mem_cons.mpr ⟨np_s_iconst hX dL_steps_77 (by decide), List.forall_mem_cons.mpr ⟨np_s_goto hX dL_steps_78 (by decide), List.forall_mem_cons.mpr ⟨np_s_iconst hX dL_steps_81 (by decide), List.forall_mem_cons.mpr ⟨np_S.mono (op := np_ret X.2.2.1) (np_s_ret hX dL_steps_82) (nq_ret_le hR), List.forall_mem_cons.mpr ⟨np_s_aload_n hX dL_steps_83 rfl, List.forall_mem_cons.mpr ⟨np_s_iload_n hX dL_steps_84 rfl, List.forall_mem_cons.mpr ⟨np_s_iconst hX dL_steps_85 (by decide), List.forall_mem_cons.mpr ⟨np_s_iadd hX dL_steps_86, List.forall_mem_cons.mpr ⟨np_S.mono (op := np_ialdT .int) (np_s_iald hX dL_steps_87) nw_ialdT_le, List.forall_mem_cons.mpr ⟨np_S.mono (op := np_ifne 95) (np_s_if_ne hX dL_steps_88 (by decide)) nq_ifne_le, List.forall_mem_cons.mpr ⟨np_s_iconst hX dL_steps_91 (by decide), List.forall_mem_cons.mpr ⟨np_s_goto hX dL_steps_92 (by decide), List.forall_mem_cons.mpr ⟨np_s_iconst hX dL_steps_95 (by decide), List.forall_mem_cons.mpr ⟨np_S.mono (op := np_ist 2 7) (np_s_istore hX dL_steps_96 (by decide)) nw_ist_le, List.forall_mem_cons.mpr ⟨np_s_iload hX dL_steps_98, List.forall_mem_cons.mpr ⟨np_s_iload hX dL_steps_100, List.forall_mem_cons.mpr ⟨np_S.mono (op := np_icne 190) (np_s_icmp_ne hX dL_steps_102 (by decide)) nq_icne_le, List.forall_mem_cons.mpr ⟨np_s_iload hX dL_steps_105, List.forall_mem_cons.mpr ⟨np_S.mono (op := np_ifne 120) (np_s_if_ne hX dL_steps_107 (by decide)) nq_ifne_le, List.forall_mem_cons.mpr ⟨np_s_aload_n hX dL_steps_110 rfl, List.forall_mem_cons.mpr ⟨np_s_iload_n hX dL_steps_111 rfl, List.forall_mem_cons.mpr ⟨np_s_iconst hX dL_steps_112 (by decide), List.forall_mem_cons.mpr ⟨np_s_iadd hX dL_steps_113, List.forall_mem_cons.mpr ⟨np_S.mono (op := np_ialdT .int) (np_s_iald hX dL_steps_114) nw_ialdT_le, List.forall_mem_cons.mpr ⟨np_s_iload hX dL_steps_115, List.forall_mem_cons.mpr ⟨np_S.mono (op := np_icne 190) (np_s_icmp_ne hX dL_steps_117 (by decide)) nq_icne_le, List.forall_mem_cons.mpr ⟨np_s_iload hX dL_steps_120, List.forall_mem_cons.mpr ⟨np_s_iload hX dL_steps_122, List.forall_mem_cons.mpr ⟨np_S.mono (op := np_if (fun x => x = 0) 131) (np_s_if_eq hX dL_steps_124 (by decide)) nq_if_le, List.forall_mem_cons.mpr ⟨np_s_iconst hX dL_steps_127 (by decide), List.forall_mem_cons.mpr ⟨np_s_goto hX dL_steps_128 (by decide), List.forall_mem_cons.mpr ⟨np_s_bipush hX dL_steps_131 (by decide), List.forall_mem_cons.mpr ⟨np_S.mono (op := np_icne 188) (np_s_icmp_ne hX dL_steps_133 (by decide)) nq_icne_le, List.forall_mem_cons.mpr ⟨np_s_aload_n hX dL_steps_136 rfl, List.forall_mem_cons.mpr ⟨np_s_iload_n hX dL_steps_137 rfl, List.forall_mem_cons.mpr ⟨np_S.mono (op := np_callVX 11 2 sp_X11_progress 3 1 6 1109 6654 []) (np_s_callVX hX C_X11_progress dL_steps_138 (q := (RX11, TX11, 14)) rfl rfl gw1251 gw63 gw1248 gw1249 gw1250 ⟨by decide, by decide, by decide⟩ (by decide) (by decide) (fun _ h => nomatch h)) (nw_callVX_le2 (ci := 11) (n := 2) (sp := sp_X11_progress) (maxL := 3) (mc := 1) (ms := 6) (RC := 1109) (RS := 6654) (hs := [])), List.forall_mem_cons.mpr ⟨np_s_sipush hX dL_steps_141 (by decide), List.forall_mem_cons.mpr ⟨np_s_aload_n hX dL_steps_144 rfl, List.forall_mem_cons.mpr ⟨np_s_iload_n hX dL_steps_145 rfl, List.forall_mem_cons.mpr ⟨np_s_iconst hX dL_steps_146 (by decide), List.forall_mem_cons.mpr ⟨np_s_iadd hX dL_steps_147, List.forall_mem_cons.mpr ⟨np_S.mono (op := np_ialdT .int) (np_s_iald hX dL_steps_148) nw_ialdT_le, List.forall_mem_cons.mpr ⟨np_s_imul hX dL_steps_149, List.forall_mem_cons.mpr ⟨np_s_sipush hX dL_steps_150 (by decide), List.forall_mem_cons.mpr ⟨np_s_aload_n hX dL_steps_153 rfl, List.forall_mem_cons.mpr ⟨np_s_iload_n hX dL_steps_154 rfl, List.forall_mem_cons.mpr ⟨np_s_iconst hX dL_steps_155 (by decide), List.forall_mem_cons.mpr ⟨np_s_iadd hX dL_steps_156, List.forall_mem_cons.mpr ⟨np_S.mono (op := np_ialdT .int) (np_s_iald hX dL_steps_157) nw_ialdT_le, List.forall_mem_cons.mpr ⟨np_s_bipush hX dL_steps_158 (by decide), List.forall_mem_cons.mpr ⟨np_S.mono (op := np_ic (fun x y => y ≤ x) 171) (np_s_icmp_ge hX dL_steps_160 (by decide)) nq_ic_le, List.forall_mem_cons.mpr ⟨np_s_aload_n hX dL_steps_163 rfl, List.forall_mem_cons.mpr ⟨np_s_iload_n hX dL_steps_164 rfl, List.forall_mem_cons.mpr ⟨np_s_iconst hX dL_steps_165 (by decide), List.forall_mem_cons.mpr ⟨np_s_iadd hX dL_steps_166, List.forall_mem_cons.mpr ⟨np_S.mono (op := np_ialdT .int) (np_s_iald hX dL_steps_167) nw_ialdT_le, List.forall_mem_cons.mpr ⟨np_s_goto hX dL_steps_168 (by decide), List.forall_mem_cons.mpr ⟨np_s_bipush hX dL_steps_171 (by decide), List.forall_mem_cons.mpr ⟨np_s_imul hX dL_steps_173, List.forall_mem_cons.mpr ⟨np_s_iadd hX dL_steps_174, List.forall_mem_cons.mpr ⟨np_s_aload_n hX dL_steps_175 rfl, List.forall_mem_cons.mpr ⟨np_s_iload_n hX dL_steps_176 rfl, List.forall_mem_cons.mpr ⟨np_s_iconst hX dL_steps_177 (by decide), List.forall_mem_cons.mpr ⟨np_s_iadd hX dL_steps_178, List.forall_mem_cons.mpr ⟨np_S.mono (op := np_ialdT .int) (np_s_iald hX dL_steps_179) nw_ialdT_le, List.forall_mem_cons.mpr ⟨np_s_iadd hX dL_steps_180, List.forall_mem_cons.mpr ⟨np_S.mono (op := np_icne 188) (np_s_icmp_ne hX dL_steps_181 (by decide)) nq_icne_le, List.forall_mem_cons.mpr ⟨np_s_iconst hX dL_steps_184 (by decide), List.forall_mem_cons.mpr ⟨np_s_goto hX dL_steps_185 (by decide), List.forall_mem_cons.mpr ⟨np_s_iconst hX dL_steps_188 (by decide), List.forall_mem_cons.mpr ⟨np_S.mono (op := np_ret X.2.2.1) (np_s_ret hX dL_steps_189) (nq_ret_le hR), List.forall_mem_cons.mpr ⟨np_s_aload_n hX dL_steps_190 rfl, List.forall_mem_cons.mpr ⟨np_s_iload_n hX dL_steps_191 rfl, List.forall_mem_cons.mpr ⟨np_s_iconst hX dL_steps_192 (by decide), List.forall_mem_cons.mpr ⟨np_s_iadd hX dL_steps_193, List.forall_mem_cons.mpr ⟨np_S.mono (op := np_ialdT .int) (np_s_iald hX dL_steps_194) nw_ialdT_le, List.forall_mem_cons.mpr ⟨np_s_bipush hX dL_steps_195 (by decide), List.forall_mem_cons.mpr ⟨np_S.mono (op := np_icne 213) (np_s_icmp_ne hX dL_steps_197 (by decide)) nq_icne_le, List.forall_mem_cons.mpr ⟨np_s_iload hX dL_steps_200, List.forall_mem_cons.mpr ⟨np_s_ldc hX dL_steps_202 gw1185, List.forall_mem_cons.mpr ⟨np_S.mono (op := np_icne 211) (np_s_icmp_ne hX dL_steps_204 (by decide)) nq_icne_le, List.forall_mem_cons.mpr ⟨np_s_iconst hX dL_steps_207 (by decide), List.forall_mem_cons.mpr ⟨np_s_goto hX dL_steps_208 (by decide), List.forall_mem_cons.mpr ⟨np_s_iconst hX dL_steps_211 (by decide), List.forall_mem_cons.mpr ⟨np_S.mono (op := np_ret X.2.2.1) (np_s_ret hX dL_steps_212) (nq_ret_le hR), List.forall_mem_cons.mpr ⟨np_s_aload_n hX dL_steps_213 rfl, List.forall_mem_cons.mpr ⟨np_s_iload_n hX dL_steps_214 rfl, List.forall_mem_cons.mpr ⟨np_s_iconst hX dL_steps_215 (by decide), List.forall_mem_cons.mpr ⟨np_s_iadd hX dL_steps_216, List.forall_mem_cons.mpr ⟨np_S.mono (op := np_ialdT .int) (np_s_iald hX dL_steps_217) nw_ialdT_le, List.forall_mem_cons.mpr ⟨np_S.mono (op := np_ist 2 8) (np_s_istore hX dL_steps_218 (by decide)) nw_ist_le, List.forall_mem_cons.mpr ⟨np_s_aload_n hX dL_steps_220 rfl, List.forall_mem_cons.mpr ⟨np_s_iload_n hX dL_steps_221 rfl, List.forall_mem_cons.mpr ⟨np_s_iconst hX dL_steps_222 (by decide), List.forall_mem_cons.mpr ⟨np_s_iadd hX dL_steps_223, List.forall_mem_cons.mpr ⟨np_s_iload hX dL_steps_224, List.forall_mem_cons.mpr ⟨np_s_iload hX dL_steps_226, List.forall_mem_cons.mpr ⟨np_S.mono (op := np_ic (fun x y => y ≤ x) 238) (np_s_icmp_ge hX dL_steps_228 (by decide)) nq_ic_le, List.forall_mem_cons.mpr ⟨np_s_iload hX dL_steps_231, List.forall_mem_cons.mpr ⟨np_s_iconst hX dL_steps_233 (by decide), List.forall_mem_cons.mpr ⟨np_s_iadd hX dL_steps_234, List.forall_mem_cons.mpr ⟨np_s_goto hX dL_steps_235 (by decide), List.forall_mem_cons.mpr ⟨np_s_iload hX dL_steps_238, List.forall_mem_cons.mpr ⟨np_S.mono (op := np_iastT .int) (np_s_iast hX dL_steps_240) nw_iastT_le, List.forall_mem_cons.mpr ⟨np_s_iload hX dL_steps_241, List.forall_mem_cons.mpr ⟨np_s_iconst hX dL_steps_243 (by decide), List.forall_mem_cons.mpr ⟨np_S.mono (op := np_icne 377) (np_s_icmp_ne hX dL_steps_244 (by decide)) nq_icne_le, List.forall_mem_cons.mpr ⟨np_s_aload_n hX dL_steps_247 rfl, List.forall_mem_cons.mpr ⟨np_s_iload_n hX dL_steps_248 rfl, List.forall_mem_cons.mpr ⟨np_s_iconst hX dL_steps_249 (by decide), List.forall_mem_cons.mpr ⟨np_s_iadd hX dL_steps_250, List.forall_mem_cons.mpr ⟨np_S.mono (op := np_dup2) (np_s_dup2 hX dL_steps_251) nq_dup2_le, List.forall_mem_cons.mpr ⟨np_S.mono (op := np_ialdT .int) (np_s_iald hX dL_steps_252) nw_ialdT_le, List.forall_mem_cons.mpr ⟨np_s_iconst hX dL_steps_253 (by decide), List.forall_mem_cons.mpr ⟨np_s_iadd hX dL_steps_254, List.forall_mem_cons.mpr ⟨np_S.mono (op := np_iastT .int) (np_s_iast hX dL_steps_255) nw_iastT_le, List.forall_mem_cons.mpr ⟨np_s_aload_n hX dL_steps_256 rfl, List.forall_mem_cons.mpr ⟨np_s_iload_n hX dL_steps_257 rfl, List.forall_mem_cons.mpr ⟨np_S.mono (op := np_callVX 11 2 sp_X11_progress 3 1 6 1109 6654 []) (np_s_callVX hX C_X11_progress dL_steps_258 (q := (RX11, TX11, 14)) rfl rfl gw1251 gw63 gw1248 gw1249 gw1250 ⟨by decide, by decide, by decide⟩ (by decide) (by decide) (fun _ h => nomatch h)) (nw_callVX_le2 (ci := 11) (n := 2) (sp := sp_X11_progress) (maxL := 3) (mc := 1) (ms := 6) (RC := 1109) (RS := 6654) (hs := [])), List.forall_mem_cons.mpr ⟨np_s_sipush hX dL_steps_261 (by decide), List.forall_mem_cons.mpr ⟨np_S.mono (op := np_ibn (fun x y => x / y)) (np_s_idiv hX dL_steps_264) nq_ibn_le, List.forall_mem_cons.mpr ⟨np_s_bipush hX dL_steps_265 (by decide), List.forall_mem_cons.mpr ⟨np_S.mono (op := np_ibn (fun x y => x - x / y * y)) (np_s_irem hX dL_steps_267) nq_ibn_le, List.forall_mem_cons.mpr ⟨np_S.mono (op := np_ist 2 9) (np_s_istore hX dL_steps_268 (by decide)) nw_ist_le, List.forall_mem_cons.mpr ⟨np_s_iload hX dL_steps_270, List.forall_mem_cons.mpr ⟨np_s_aload_n hX dL_steps_272 rfl, List.forall_mem_cons.mpr ⟨np_s_iload_n hX dL_steps_273 rfl, List.forall_mem_cons.mpr ⟨np_s_iconst hX dL_steps_274 (by decide), List.forall_mem_cons.mpr ⟨np_s_iadd hX dL_steps_275, List.forall_mem_cons.mpr ⟨np_S.mono (op := np_ialdT .int) (np_s_iald hX dL_steps_276) nw_ialdT_le, List.forall_mem_cons.mpr ⟨np_S.mono (op := np_ic (fun x y => x = y) 304) (np_s_icmp_eq hX dL_steps_277 (by decide)) nq_ic_le, List.forall_mem_cons.mpr ⟨np_s_iload hX dL_steps_280, List.forall_mem_cons.mpr ⟨np_s_aload_n hX dL_steps_282 rfl, List.forall_mem_cons.mpr ⟨np_s_iload_n hX dL_steps_283 rfl, List.forall_mem_cons.mpr ⟨np_s_iconst hX dL_steps_284 (by decide), List.forall_mem_cons.mpr ⟨np_s_iadd hX dL_steps_285, List.forall_mem_cons.mpr ⟨np_S.mono (op := np_ialdT .int) (np_s_iald hX dL_steps_286) nw_ialdT_le, List.forall_mem_cons.mpr ⟨np_s_iconst hX dL_steps_287 (by decide), List.forall_mem_cons.mpr ⟨np_s_iadd hX dL_steps_288, List.forall_mem_cons.mpr ⟨np_S.mono (op := np_icne 308) (np_s_icmp_ne hX dL_steps_289 (by decide)) nq_icne_le, List.forall_mem_cons.mpr ⟨np_s_aload_n hX dL_steps_292 rfl, List.forall_mem_cons.mpr ⟨np_s_aload_n hX dL_steps_293 rfl, List.forall_mem_cons.mpr ⟨np_s_iload_n hX dL_steps_294 rfl, List.forall_mem_cons.mpr ⟨np_S.mono (op := np_ialdT .int) (np_s_iald hX dL_steps_295) nw_ialdT_le, List.forall_mem_cons.mpr ⟨np_s_iconst hX dL_steps_296 (by decide), List.forall_mem_cons.mpr ⟨np_s_isub hX dL_steps_297, List.forall_mem_cons.mpr ⟨np_S.mono (op := np_callVX 11 2 sp_X11_sure 3 1 6 1109 6654 []) (np_s_callVX hX C_X11_sure dL_steps_298 (q := (RX11, TX11, 14)) rfl rfl gw695 gw63 gw692 gw693 gw694 ⟨by decide, by decide, by decide⟩ (by decide) (by decide) (fun _ h => nomatch h)) (nw_callVX_le2 (ci := 11) (n := 2) (sp := sp_X11_sure) (maxL := 3) (mc := 1) (ms := 6) (RC := 1109) (RS := 6654) (hs := [])), List.forall_mem_cons.mpr ⟨np_S.mono (op := np_if (fun x => x < 0) 308) (np_s_if_lt hX dL_steps_301 (by decide)) nq_if_le, List.forall_mem_cons.mpr ⟨np_s_iconst hX dL_steps_304 (by decide), List.forall_mem_cons.mpr ⟨np_s_goto hX dL_steps_305 (by decide), List.forall_mem_cons.mpr ⟨np_s_iconst hX dL_steps_308 (by decide), List.forall_mem_cons.mpr ⟨np_S.mono (op := np_ist 2 10) (np_s_istore hX dL_steps_309 (by decide)) nw_ist_le, List.forall_mem_cons.mpr ⟨np_s_aload_n hX dL_steps_311 rfl, List.forall_mem_cons.mpr ⟨np_s_iload_n hX dL_steps_312 rfl, List.forall_mem_cons.mpr ⟨np_s_iconst hX dL_steps_313 (by decide), List.forall_mem_cons.mpr ⟨np_s_iadd hX dL_steps_314, List.forall_mem_cons.mpr ⟨np_s_iload hX dL_steps_315, List.forall_mem_cons.mpr ⟨np_S.mono (op := np_iastT .int) (np_s_iast hX dL_steps_317) nw_iastT_le, List.forall_mem_cons.mpr ⟨np_s_iload hX dL_steps_318, List.forall_mem_cons.mpr ⟨np_S.mono (op := np_if (fun x => x = 0) 375) (np_s_if_eq hX dL_steps_320 (by decide)) nq_if_le, List.forall_mem_cons.mpr ⟨np_s_aload_n hX dL_steps_323 rfl, List.forall_mem_cons.mpr ⟨np_s_iload_n hX dL_steps_324 rfl, List.forall_mem_cons.mpr ⟨np_S.mono (op := np_callVX 11 2 sp_X11_progress 3 1 6 1109 6654 []) (np_s_callVX hX C_X11_progress dL_steps_325 (q := (RX11, TX11, 14)) rfl rfl gw1251 gw63 gw1248 gw1249 gw1250 ⟨by decide, by decide, by decide⟩ (by decide) (by decide) (fun _ h => nomatch h)) (nw_callVX_le2 (ci := 11) (n := 2) (sp := sp_X11_progress) (maxL := 3) (mc := 1) (ms := 6) (RC := 1109) (RS := 6654) (hs := [])), List.forall_mem_cons.mpr ⟨np_s_sipush hX dL_steps_328 (by decide), List.forall_mem_cons.mpr ⟨np_s_aload_n hX dL_steps_331 rfl, List.forall_mem_cons.mpr ⟨np_s_iload_n hX dL_steps_332 rfl, List.forall_mem_cons.mpr ⟨np_s_iconst hX dL_steps_333 (by decide), List.forall_mem_cons.mpr ⟨np_s_iadd hX dL_steps_334, List.forall_mem_cons.mpr ⟨np_S.mono (op := np_ialdT .int) (np_s_iald hX dL_steps_335) nw_ialdT_le, List.forall_mem_cons.mpr ⟨np_s_imul hX dL_steps_336, List.forall_mem_cons.mpr ⟨np_s_sipush hX dL_steps_337 (by decide), List.forall_mem_cons.mpr ⟨np_s_iload hX dL_steps_340, List.forall_mem_cons.mpr ⟨np_s_imul hX dL_steps_342, List.forall_mem_cons.mpr ⟨np_s_iadd hX dL_steps_343, List.forall_mem_cons.mpr ⟨np_s_aload_n hX dL_steps_344 rfl, List.forall_mem_cons.mpr ⟨np_s_iload_n hX dL_steps_345 rfl, List.forall_mem_cons.mpr ⟨np_s_iconst hX dL_steps_346 (by decide), List.forall_mem_cons.mpr ⟨np_s_iadd hX dL_steps_347, List.forall_mem_cons.mpr ⟨np_S.mono (op := np_ialdT .int) (np_s_iald hX dL_steps_348) nw_ialdT_le, List.forall_mem_cons.mpr ⟨np_s_iadd hX dL_steps_349, List.forall_mem_cons.mpr ⟨np_S.mono (op := np_icne 375) (np_s_icmp_ne hX dL_steps_350 (by decide)) nq_icne_le, List.forall_mem_cons.mpr ⟨np_s_aload_n hX dL_steps_353 rfl, List.forall_mem_cons.mpr ⟨np_s_aload_n hX dL_steps_354 rfl, List.forall_mem_cons.mpr ⟨np_s_iload_n hX dL_steps_355 rfl, List.forall_mem_cons.mpr ⟨np_S.mono (op := np_ialdT .int) (np_s_iald hX dL_steps_356) nw_ialdT_le, List.forall_mem_cons.mpr ⟨np_s_iconst hX dL_steps_357 (by decide), List.forall_mem_cons.mpr ⟨np_s_isub hX dL_steps_358, List.forall_mem_cons.mpr ⟨np_s_iload_n hX dL_steps_359 rfl, List.forall_mem_cons.mpr ⟨np_s_iload hX dL_steps_360, List.forall_mem_cons.mpr ⟨np_s_iload hX dL_steps_362, List.forall_mem_cons.mpr ⟨np_s_aload_n hX dL_steps_364 rfl, List.forall_mem_cons.mpr ⟨np_S.mono (op := np_call 6 sp_L_isLine 13 501 3006 1109 6654) (np_s_callS hX C_L_isLine dL_steps_365 gw1254 gw62 gw1252 gw1253 ⟨by decide, by decide, by decide⟩ (by decide) (by decide)) nq_call_le, List.forall_mem_cons.mpr ⟨np_S.mono (op := np_if (fun x => x = 0) 375) (np_s_if_eq hX dL_steps_368 (by decide)) nq_if_le, List.forall_mem_cons.mpr ⟨np_s_iconst hX dL_steps_371 (by decide), List.forall_mem_cons.mpr ⟨np_s_goto hX dL_steps_372 (by decide), List.forall_mem_cons.mpr ⟨np_s_iconst hX dL_steps_375 (by decide), List.forall_mem_cons.mpr ⟨np_S.mono (op := np_ret X.2.2.1) (np_s_ret hX dL_steps_376) (nq_ret_le hR), List.forall_mem_cons.mpr ⟨np_s_aload_n hX dL_steps_377 rfl, List.forall_mem_cons.mpr ⟨np_s_iconst hX dL_steps_378 (by decide), List.forall_mem_cons.mpr ⟨np_s_iload_n hX dL_steps_379 rfl, List.forall_mem_cons.mpr ⟨np_s_aload_n hX dL_steps_380 rfl, List.forall_mem_cons.mpr ⟨np_s_iload_n hX dL_steps_381 rfl, List.forall_mem_cons.mpr ⟨np_s_iconst hX dL_steps_382 (by decide), List.forall_mem_cons.mpr ⟨np_s_iadd hX dL_steps_383, List.forall_mem_cons.mpr ⟨np_S.mono (op := np_ialdT .int) (np_s_iald hX dL_steps_384) nw_ialdT_le, List.forall_mem_cons.mpr ⟨np_s_iconst hX dL_steps_385 (by decide), List.forall_mem_cons.mpr ⟨np_S.mono (op := np_call 5 sp_L_asks 6 1 6 1109 6654) (np_s_callSW hX C_L_asks dL_steps_386 gw931 gw62 gw929 gw930 ⟨by decide, by decide, by decide⟩ (by decide) (by decide)) nq_call_le, List.forall_mem_cons.mpr ⟨np_S.mono (op := np_ist 2 9) (np_s_istore hX dL_steps_389 (by decide)) nw_ist_le, List.forall_mem_cons.mpr ⟨np_s_aload_n hX dL_steps_391 rfl, List.forall_mem_cons.mpr ⟨np_s_iload_n hX dL_steps_392 rfl, List.forall_mem_cons.mpr ⟨np_s_iconst hX dL_steps_393 (by decide), List.forall_mem_cons.mpr ⟨np_s_iadd hX dL_steps_394, List.forall_mem_cons.mpr ⟨np_S.mono (op := np_dup2) (np_s_dup2 hX dL_steps_395) nq_dup2_le, List.forall_mem_cons.mpr ⟨np_S.mono (op := np_ialdT .int) (np_s_iald hX dL_steps_396) nw_ialdT_le, List.forall_mem_cons.mpr ⟨np_s_iconst hX dL_steps_397 (by decide), List.forall_mem_cons.mpr ⟨np_s_iadd hX dL_steps_398, List.forall_mem_cons.mpr ⟨np_S.mono (op := np_iastT .int) (np_s_iast hX dL_steps_399) nw_iastT_le, List.forall_mem_cons.mpr ⟨np_s_iload hX dL_steps_400, List.forall_mem_cons.mpr ⟨np_S.mono (op := np_ifne 456) (np_s_if_ne hX dL_steps_402 (by decide)) nq_ifne_le, List.forall_mem_cons.mpr ⟨np_s_iload hX dL_steps_405, List.forall_mem_cons.mpr ⟨np_s_ldc hX dL_steps_407 gw1267, List.forall_mem_cons.mpr ⟨np_S.mono (op := np_ibn (fun x y => x / y)) (np_s_idiv hX dL_steps_409) nq_ibn_le, List.forall_mem_cons.mpr ⟨np_s_bipush hX dL_steps_410 (by decide), List.forall_mem_cons.mpr ⟨np_S.mono (op := np_ic (fun x y => y < x) 456) (np_s_icmp_gt hX dL_steps_412 (by decide)) nq_ic_le, List.forall_mem_cons.mpr ⟨np_s_iload hX dL_steps_415, List.forall_mem_cons.mpr ⟨np_s_ldc hX dL_steps_417 gw1267, List.forall_mem_cons.mpr ⟨np_S.mono (op := np_ibn (fun x y => pw_rem x y)) (np_s_iremO hX dL_steps_419) nq_ibn_le, List.forall_mem_cons.mpr ⟨np_s_sipush hX dL_steps_420 (by decide), List.forall_mem_cons.mpr ⟨np_s_iload hX dL_steps_423, List.forall_mem_cons.mpr ⟨np_s_imul hX dL_steps_425, List.forall_mem_cons.mpr ⟨np_s_aload_n hX dL_steps_426 rfl, List.forall_mem_cons.mpr ⟨np_s_iload_n hX dL_steps_427 rfl, List.forall_mem_cons.mpr ⟨np_s_iconst hX dL_steps_428 (by decide), List.forall_mem_cons.mpr ⟨np_s_iadd hX dL_steps_429, List.forall_mem_cons.mpr ⟨np_S.mono (op := np_ialdT .int) (np_s_iald hX dL_steps_430) nw_ialdT_le, List.forall_mem_cons.mpr ⟨np_s_iadd hX dL_steps_431, List.forall_mem_cons.mpr ⟨np_S.mono (op := np_icne 456) (np_s_icmp_ne hX dL_steps_432 (by decide)) nq_icne_le, List.forall_mem_cons.mpr ⟨np_s_aload_n hX dL_steps_435 rfl, List.forall_mem_cons.mpr ⟨np_s_iconst hX dL_steps_436 (by decide), List.forall_mem_cons.mpr ⟨np_s_iload_n hX dL_steps_437 rfl, List.forall_mem_cons.mpr ⟨np_s_aload_n hX dL_steps_438 rfl, List.forall_mem_cons.mpr ⟨np_s_iload_n hX dL_steps_439 rfl, List.forall_mem_cons.mpr ⟨np_s_iconst hX dL_steps_440 (by decide), List.forall_mem_cons.mpr ⟨np_s_iadd hX dL_steps_441, List.forall_mem_cons.mpr ⟨np_S.mono (op := np_ialdT .int) (np_s_iald hX dL_steps_442) nw_ialdT_le, List.forall_mem_cons.mpr ⟨np_s_iconst hX dL_steps_443 (by decide), List.forall_mem_cons.mpr ⟨np_S.mono (op := np_call 5 sp_L_asks 6 1 6 1109 6654) (np_s_callSW hX C_L_asks dL_steps_444 gw931 gw62 gw929 gw930 ⟨by decide, by decide, by decide⟩ (by decide) (by decide)) nq_call_le, List.forall_mem_cons.mpr ⟨np_s_ldc hX dL_steps_447 gw1184, List.forall_mem_cons.mpr ⟨np_S.mono (op := np_icne 456) (np_s_icmp_ne hX dL_steps_449 (by decide)) nq_icne_le, List.forall_mem_cons.mpr ⟨np_s_iconst hX dL_steps_452 (by decide), List.forall_mem_cons.mpr ⟨np_s_goto hX dL_steps_453 (by decide), List.forall_mem_cons.mpr ⟨np_s_iconst hX dL_steps_456 (by decide), List.forall_mem_cons.mpr ⟨np_S.mono (op := np_ret X.2.2.1) (np_s_ret hX dL_steps_457) (nq_ret_le hR), fun _ h => nomatch h⟩⟩⟩⟩⟩⟩⟩⟩⟩⟩⟩⟩⟩⟩⟩⟩⟩⟩⟩⟩⟩⟩⟩⟩⟩⟩⟩⟩⟩⟩⟩⟩⟩⟩⟩⟩⟩⟩⟩⟩⟩⟩⟩⟩⟩⟩⟩⟩⟩⟩⟩⟩⟩⟩⟩⟩⟩⟩⟩⟩⟩⟩⟩⟩⟩⟩⟩⟩⟩⟩⟩⟩⟩⟩⟩⟩⟩⟩⟩⟩⟩⟩⟩⟩⟩⟩⟩⟩⟩⟩⟩⟩⟩⟩⟩⟩⟩⟩⟩⟩⟩⟩⟩⟩⟩⟩⟩⟩⟩⟩⟩⟩⟩⟩⟩⟩⟩⟩⟩⟩⟩⟩⟩⟩⟩⟩⟩⟩⟩⟩⟩⟩⟩⟩⟩⟩⟩⟩⟩⟩⟩⟩⟩⟩⟩⟩⟩⟩⟩⟩⟩⟩⟩⟩⟩⟩⟩⟩⟩⟩⟩⟩⟩⟩⟩⟩⟩⟩⟩⟩⟩⟩⟩⟩⟩⟩⟩⟩⟩⟩⟩⟩⟩⟩⟩⟩⟩⟩⟩⟩⟩⟩⟩⟩⟩⟩⟩⟩⟩⟩⟩⟩⟩⟩⟩⟩⟩⟩⟩⟩⟩⟩⟩⟩⟩⟩⟩⟩⟩⟩⟩⟩⟩⟩⟩⟩⟩⟩⟩⟩⟩⟩⟩⟩⟩⟩⟩⟩⟩⟩⟩⟩⟩⟩⟩⟩⟩⟩⟩⟩⟩⟩⟩⟩⟩⟩⟩⟩⟩⟩⟩⟩⟩⟩⟩⟩⟩⟩⟩⟩⟩⟩⟩⟩⟩⟩⟩⟩⟩⟩⟩⟩⟩⟩⟩⟩⟩⟩⟩⟩⟩⟩⟩⟩⟩⟩⟩⟩
noncomputable def m_L_steps_21 (k46 : pw_S → Nat → Int32 → Nat → Nat → Int32 → Int32 → Int32 → pw_R Int32) : Nat → pw_S → Nat → Int32 → Nat → Nat → Int32 → Int32 → Int32 → pw_R Int32
| 0, _, _, _, _, _, _, _, _ => none
| N + 1, S, v0, v1, va2, vi2, v3, v4, v5 =>
 if v4 ≤ v5 then
 (k46 S v0 v1 va2 vi2 v3 v4 v5)
 else
 (pw_b (m_X11_unit S v0 v1 v5) fun S1 r4 =>
 pw_e r4 (fun r6 =>
 (if r6 = 10 then
 (k46 S1 v0 v1 va2 vi2 v3 v4 v5)
 else
 (pw_l (v5 + 1 : Int32) fun z8 =>
 m_L_steps_21 k46 N S1 v0 v1 va2 vi2 v3 v4 z8))) (fun _ => none))
set_option maxRecDepth 100000 in
set_option maxHeartbeats 8000000 in
theorem L_L_steps_21 {X : np_Ctx} (hX : np_ok RL cL_steps 11 11 304 1109 6654 .ireturn X) {Q : Option Value → np_W → Prop} {q : Nat} {n dc ds : Nat} (hR : ∀ st w ce sl, np_rt (some .boolean) 1109 6654 Q st w ce sl → X.2.2.1 st w ce sl) {k46 : pw_S → Nat → Int32 → Nat → Nat → Int32 → Int32 → Int32 → pw_R Int32} (hk46 : ∀ (S : pw_S) (v0 : Nat) (v1 : Int32) (va2 : Nat) (vi2 : Nat) (v3 : Int32) (v4 : Int32) (v5 : Int32) (f : Nat → Option np_E) (ce sl : Nat) (hv0 : pw_ok q 61 v0 = true) (ha2 : pw_arr va2 = true) (hi2 : pw_ok q va2 vi2 = true), ce + dc ≤ 1109 → sl + ds ≤ 6654 → pw_W q (n, f) S → pw_p (k46 S v0 v1 va2 vi2 v3 v4 v5) (fun S' r => ∀ f', pw_W q (n, f') S' → Q (some (.int r)) (n, f')) → np_G X 46 [(0, .ref (pw_pl 61 v0)), (1, .int v1), (2, .ref (pw_pl va2 vi2)), (3, .int v3), (4, .int v4), (5, .int v5)] [] (n, f) ce sl) : ∀ (N : Nat) (S : pw_S) (v0 : Nat) (v1 : Int32) (va2 : Nat) (vi2 : Nat) (v3 : Int32) (v4 : Int32) (v5 : Int32) (f : Nat → Option np_E) (ce sl : Nat) (hv0 : pw_ok q 61 v0 = true) (ha2 : pw_arr va2 = true) (hi2 : pw_ok q va2 vi2 = true), ce + N * 1 + dc ≤ 1109 → sl + N * 6 + ds ≤ 6654 → pw_W q (n, f) S → pw_p (m_L_steps_21 k46 N S v0 v1 va2 vi2 v3 v4 v5) (fun S' r => ∀ f', pw_W q (n, f') S' → Q (some (.int r)) (n, f')) → np_G X 21 [(0, .ref (pw_pl 61 v0)), (1, .int v1), (2, .ref (pw_pl va2 vi2)), (3, .int v3), (4, .int v4), (5, .int v5)] [] (n, f) ce sl := by
  intro N
  induction N with
  | zero =>
    intro S v0 v1 va2 vi2 v3 v4 v5 f ce sl hv0 ha2 hi2 hc hs hW h
    exact (pw_pn h).elim
  | succ N ih =>
    intro S v0 v1 va2 vi2 v3 v4 v5 f ce sl hv0 ha2 hi2 hc hs hW h
    unfold m_L_steps_21 at h
    refine np_soundW (so_L_steps hX hR) [21, 46, 96, 133, 173, 190, 309] 400 21 _ _ _ _ _ ?_
    conv => whnf
    refine pw_br h (fun _ h => ?_) (fun _ h => ?_)
    · conv => whnf
      exact np_gl (hk46 S v0 v1 va2 vi2 v3 v4 v5 f _ _ hv0 ha2 hi2 (by omega) (by omega) hW h) ⟨rfl, rfl, rfl, rfl, rfl, rfl, trivial⟩
    · conv => whnf
      refine np_rd_i (hW.g hv0) ?_
      conv => whnf
      refine np_chk_i (pw_and rfl (pw_and rfl (pw_and rfl (pw_and rfl ((pw_and (pw_le (by omega)) (pw_le (by omega)))))))) ?_
      conv => whnf
      refine ⟨q, S, v0, v1, v5, rfl, hv0, hW, pw_bd h (fun S1 r4 h f2 hW3 => ?_)⟩
      rcases r4 with r6 | e7
      · replace h := pw_ei h
        conv => whnf
        refine pw_br h (fun _ h => ?_) (fun _ h => ?_)
        · conv => whnf
          exact np_gl (hk46 S1 v0 v1 va2 vi2 v3 v4 v5 f2 _ _ hv0 ha2 hi2 (by omega) (by omega) hW3 h) ⟨rfl, rfl, rfl, rfl, rfl, rfl, trivial⟩
        · conv => whnf
          refine pw_st h (fun z8 h => ?_)
          conv => whnf
          exact np_gl (ih S1 v0 v1 va2 vi2 v3 v4 z8 f2 _ _ hv0 ha2 hi2 (by omega) (by omega) hW3 h) ⟨rfl, rfl, rfl, rfl, rfl, rfl, trivial⟩
      · exact (pw_pn h).elim
noncomputable def m_L_steps_j309  (S : pw_S) (v0 : Nat) (v1 : Int32) (va2 : Nat) (vi2 : Nat) (v3 : Int32) (v5 : Int32) (v8 : Int32) (v9 : Int32) (s0 : Int32) : pw_R Int32 :=
 pw_l (s0 : Int32) fun z9 =>
 pw_c (np_inb (v3 + 3) (pw_len va2)) <|
 pw_l (pw_up S va2 vi2 (upd (S va2 vi2) ((v3 + 3) : Int32).toNatClampNeg v9)) fun S10 =>
 if z9 = 0 then
 (some (S10, 0))
 else
 (pw_b (m_X11_progress S10 v0 v1) fun S13 r16 =>
 pw_e r16 (fun r18 =>
 (pw_c (np_inb (v3 + 2) (pw_len va2)) <|
 pw_c (np_inb (v3 + 1) (pw_len va2)) <|
 if r18 = (((10000 * (S13 va2 vi2 ((v3 + 2) : Int32).toNatClampNeg)) + (1000 * v9)) + (S13 va2 vi2 ((v3 + 1) : Int32).toNatClampNeg)) then
 (pw_c (np_inb v3 (pw_len va2)) <|
 pw_b (m_L_isLine S13 v0 ((S13 va2 vi2 (v3 : Int32).toNatClampNeg) - 1) v1 v8 v5 va2 vi2) fun S20 r23 =>
 if r23 = 0 then
 (some (S20, 0))
 else
 (some (S20, 1)))
 else
 (some (S13, 0)))) (fun _ => none))
set_option maxRecDepth 100000 in
set_option maxHeartbeats 8000000 in
theorem J_L_steps_309 {X : np_Ctx} (hX : np_ok RL cL_steps 11 11 304 1109 6654 .ireturn X) {Q : Option Value → np_W → Prop} {q : Nat} {n dc ds : Nat} (hR : ∀ st w ce sl, np_rt (some .boolean) 1109 6654 Q st w ce sl → X.2.2.1 st w ce sl) (S : pw_S) (v0 : Nat) (v1 : Int32) (va2 : Nat) (vi2 : Nat) (v3 : Int32) (v5 : Int32) (v8 : Int32) (v9 : Int32) (s0 : Int32) (f : Nat → Option np_E) (ce sl : Nat) (hv0 : pw_ok q 61 v0 = true) (ha2 : pw_arr va2 = true) (hi2 : pw_ok q va2 vi2 = true) (hc : ce + 502 + dc ≤ 1109) (hs : sl + 3012 + ds ≤ 6654) (hW : pw_W q (n, f) S) (h : pw_p (m_L_steps_j309 S v0 v1 va2 vi2 v3 v5 v8 v9 s0) (fun S' r => ∀ f', pw_W q (n, f') S' → Q (some (.int r)) (n, f'))) : np_G X 309 [(0, .ref (pw_pl 61 v0)), (1, .int v1), (2, .ref (pw_pl va2 vi2)), (3, .int v3), (5, .int v5), (8, .int v8), (9, .int v9)] [.int s0] (n, f) ce sl := by
  unfold m_L_steps_j309 at h
  refine np_soundW (so_L_steps hX hR) [21, 46, 96, 133, 173, 190, 309] 400 309 _ _ _ _ _ ?_
  conv => whnf
  refine pw_st h (fun z9 h => ?_)
  conv => whnf
  refine np_rd_i (hW.ga ha2 hi2) ?_
  conv => whnf
  refine pw_ck h (fun _ h => ?_)
  conv => whnf
  refine pw_wr (a := va2) (i := vi2) (d := upd (S va2 vi2) ((v3 + 3) : Int32).toNatClampNeg v9) hW hi2 (pw_ent_arr ha2).symm h (fun S10 f11 hW12 h => ?_)
  conv => whnf
  refine pw_br h (fun _ h => ?_) (fun _ h => ?_)
  · conv => whnf
    exact ⟨(by omega), (by omega), ⟨_, rfl, by decide⟩, _, fun _ _ h9 => h9, pw_ps h _ hW12⟩
  · conv => whnf
    refine np_rd_i (hW12.g hv0) ?_
    conv => whnf
    refine np_chk_i (pw_and rfl (pw_and rfl (pw_and rfl (pw_and rfl ((pw_and (pw_le (by omega)) (pw_le (by omega)))))))) ?_
    conv => whnf
    refine ⟨q, S10, v0, v1, rfl, hv0, hW12, pw_bd h (fun S13 r16 h f14 hW15 => ?_)⟩
    rcases r16 with r18 | e19
    · replace h := pw_ei h
      conv => whnf
      refine np_rd_i (hW15.ga ha2 hi2) ?_
      conv => whnf
      refine pw_ck h (fun _ h => ?_)
      conv => whnf
      refine np_rd_i (hW15.ga ha2 hi2) ?_
      conv => whnf
      refine pw_ck h (fun _ h => ?_)
      conv => whnf
      refine pw_br h (fun _ h => ?_) (fun _ h => ?_)
      · conv => whnf
        refine np_rd_i (hW15.ga ha2 hi2) ?_
        conv => whnf
        refine pw_ck h (fun _ h => ?_)
        conv => whnf
        refine np_chk_i (pw_and rfl (pw_and rfl (pw_and rfl ((pw_and (pw_le (by omega)) (pw_le (by omega))))))) ?_
        conv => whnf
        refine ⟨q, S13, v0, ((S13 va2 vi2 (v3 : Int32).toNatClampNeg) - 1), v1, v8, v5, va2, vi2, rfl, hv0, ha2, hi2, hW15, pw_bd h (fun S20 r23 h f21 hW22 => ?_)⟩
        conv => whnf
        refine pw_br h (fun _ h => ?_) (fun _ h => ?_)
        · conv => whnf
          exact ⟨(by omega), (by omega), ⟨_, rfl, by decide⟩, _, fun _ _ h9 => h9, pw_ps h _ hW22⟩
        · conv => whnf
          exact ⟨(by omega), (by omega), ⟨_, rfl, by decide⟩, _, fun _ _ h9 => h9, pw_ps h _ hW22⟩
      · conv => whnf
        exact ⟨(by omega), (by omega), ⟨_, rfl, by decide⟩, _, fun _ _ h9 => h9, pw_ps h _ hW15⟩
    · exact (pw_pn h).elim
noncomputable def m_L_steps_j190  (S : pw_S) (v0 : Nat) (v1 : Int32) (va2 : Nat) (vi2 : Nat) (v3 : Int32) (v4 : Int32) (v5 : Int32) (v6 : Int32) : pw_R Int32 :=
 pw_c (np_inb (v3 + 2) (pw_len va2)) <|
 if (S va2 vi2 ((v3 + 2) : Int32).toNatClampNeg) = 24 then
 (if v6 = (-70008) then
 (some (S, 1))
 else
 (some (S, 0)))
 else
 (pw_c (np_inb (v3 + 1) (pw_len va2)) <|
 pw_l ((S va2 vi2 ((v3 + 1) : Int32).toNatClampNeg) : Int32) fun z25 =>
 if v4 ≤ v5 then
 (pw_c (np_inb (v3 + 1) (pw_len va2)) <|
 pw_l (pw_up S va2 vi2 (upd (S va2 vi2) ((v3 + 1) : Int32).toNatClampNeg v5)) fun S26 =>
 if v6 = 1 then
 (pw_c (np_inb (v3 + 2) (pw_len va2)) <|
 pw_c (np_inb (v3 + 2) (pw_len va2)) <|
 pw_l (pw_up S26 va2 vi2 (upd (S26 va2 vi2) ((v3 + 2) : Int32).toNatClampNeg ((S26 va2 vi2 ((v3 + 2) : Int32).toNatClampNeg) + 1))) fun S29 =>
 pw_b (m_X11_progress S29 v0 v1) fun S32 r35 =>
 pw_e r35 (fun r37 =>
 (pw_l (((r37 / 1000) - (r37 / 1000) / 10 * 10) : Int32) fun z39 =>
 pw_c (np_inb (v3 + 3) (pw_len va2)) <|
 if z39 = (S32 va2 vi2 ((v3 + 3) : Int32).toNatClampNeg) then
 (m_L_steps_j309 S32 v0 v1 va2 vi2 v3 v5 z25 z39 1)
 else
 (pw_c (np_inb (v3 + 3) (pw_len va2)) <|
 if z39 = ((S32 va2 vi2 ((v3 + 3) : Int32).toNatClampNeg) + 1) then
 (pw_c (np_inb v3 (pw_len va2)) <|
 pw_b (m_X11_sure S32 v0 ((S32 va2 vi2 (v3 : Int32).toNatClampNeg) - 1)) fun S40 r43 =>
 pw_e r43 (fun r45 =>
 (if r45 < 0 then
 (m_L_steps_j309 S40 v0 v1 va2 vi2 v3 v5 z25 z39 0)
 else
 (m_L_steps_j309 S40 v0 v1 va2 vi2 v3 v5 z25 z39 1))) (fun _ => none))
 else
 (m_L_steps_j309 S32 v0 v1 va2 vi2 v3 v5 z25 z39 0)))) (fun _ => none))
 else
 (pw_c (np_inb (v3 + 4) (pw_len va2)) <|
 pw_b (m_L_asks S26 v0 4 v1 (S26 va2 vi2 ((v3 + 4) : Int32).toNatClampNeg) 0) fun S47 r50 =>
 pw_l (r50 : Int32) fun z52 =>
 pw_c (np_inb (v3 + 4) (pw_len va2)) <|
 pw_c (np_inb (v3 + 4) (pw_len va2)) <|
 pw_l (pw_up S47 va2 vi2 (upd (S47 va2 vi2) ((v3 + 4) : Int32).toNatClampNeg ((S47 va2 vi2 ((v3 + 4) : Int32).toNatClampNeg) + 1))) fun S53 =>
 if v6 = 0 then
 (if 100 < (z52 / 1000000) then
 (some (S53, 0))
 else
 (pw_c (np_inb (v3 + 1) (pw_len va2)) <|
 if (pw_rem z52 1000000) = ((1000 * z25) + (S53 va2 vi2 ((v3 + 1) : Int32).toNatClampNeg)) then
 (pw_c (np_inb (v3 + 4) (pw_len va2)) <|
 pw_b (m_L_asks S53 v0 4 v1 (S53 va2 vi2 ((v3 + 4) : Int32).toNatClampNeg) 0) fun S56 r59 =>
 if r59 = (-70007) then
 (some (S56, 1))
 else
 (some (S56, 0)))
 else
 (some (S53, 0))))
 else
 (some (S53, 0))))
 else
 (pw_c (np_inb (v3 + 1) (pw_len va2)) <|
 pw_l (pw_up S va2 vi2 (upd (S va2 vi2) ((v3 + 1) : Int32).toNatClampNeg (v5 + 1))) fun S61 =>
 if v6 = 1 then
 (pw_c (np_inb (v3 + 2) (pw_len va2)) <|
 pw_c (np_inb (v3 + 2) (pw_len va2)) <|
 pw_l (pw_up S61 va2 vi2 (upd (S61 va2 vi2) ((v3 + 2) : Int32).toNatClampNeg ((S61 va2 vi2 ((v3 + 2) : Int32).toNatClampNeg) + 1))) fun S64 =>
 pw_b (m_X11_progress S64 v0 v1) fun S67 r70 =>
 pw_e r70 (fun r72 =>
 (pw_l (((r72 / 1000) - (r72 / 1000) / 10 * 10) : Int32) fun z74 =>
 pw_c (np_inb (v3 + 3) (pw_len va2)) <|
 if z74 = (S67 va2 vi2 ((v3 + 3) : Int32).toNatClampNeg) then
 (m_L_steps_j309 S67 v0 v1 va2 vi2 v3 v5 z25 z74 1)
 else
 (pw_c (np_inb (v3 + 3) (pw_len va2)) <|
 if z74 = ((S67 va2 vi2 ((v3 + 3) : Int32).toNatClampNeg) + 1) then
 (pw_c (np_inb v3 (pw_len va2)) <|
 pw_b (m_X11_sure S67 v0 ((S67 va2 vi2 (v3 : Int32).toNatClampNeg) - 1)) fun S75 r78 =>
 pw_e r78 (fun r80 =>
 (if r80 < 0 then
 (m_L_steps_j309 S75 v0 v1 va2 vi2 v3 v5 z25 z74 0)
 else
 (m_L_steps_j309 S75 v0 v1 va2 vi2 v3 v5 z25 z74 1))) (fun _ => none))
 else
 (m_L_steps_j309 S67 v0 v1 va2 vi2 v3 v5 z25 z74 0)))) (fun _ => none))
 else
 (pw_c (np_inb (v3 + 4) (pw_len va2)) <|
 pw_b (m_L_asks S61 v0 4 v1 (S61 va2 vi2 ((v3 + 4) : Int32).toNatClampNeg) 0) fun S82 r85 =>
 pw_l (r85 : Int32) fun z87 =>
 pw_c (np_inb (v3 + 4) (pw_len va2)) <|
 pw_c (np_inb (v3 + 4) (pw_len va2)) <|
 pw_l (pw_up S82 va2 vi2 (upd (S82 va2 vi2) ((v3 + 4) : Int32).toNatClampNeg ((S82 va2 vi2 ((v3 + 4) : Int32).toNatClampNeg) + 1))) fun S88 =>
 if v6 = 0 then
 (if 100 < (z87 / 1000000) then
 (some (S88, 0))
 else
 (pw_c (np_inb (v3 + 1) (pw_len va2)) <|
 if (pw_rem z87 1000000) = ((1000 * z25) + (S88 va2 vi2 ((v3 + 1) : Int32).toNatClampNeg)) then
 (pw_c (np_inb (v3 + 4) (pw_len va2)) <|
 pw_b (m_L_asks S88 v0 4 v1 (S88 va2 vi2 ((v3 + 4) : Int32).toNatClampNeg) 0) fun S91 r94 =>
 if r94 = (-70007) then
 (some (S91, 1))
 else
 (some (S91, 0)))
 else
 (some (S88, 0))))
 else
 (some (S88, 0)))))
set_option maxRecDepth 100000 in
set_option maxHeartbeats 8000000 in
theorem J_L_steps_190 {X : np_Ctx} (hX : np_ok RL cL_steps 11 11 304 1109 6654 .ireturn X) {Q : Option Value → np_W → Prop} {q : Nat} {n dc ds : Nat} (hR : ∀ st w ce sl, np_rt (some .boolean) 1109 6654 Q st w ce sl → X.2.2.1 st w ce sl) (S : pw_S) (v0 : Nat) (v1 : Int32) (va2 : Nat) (vi2 : Nat) (v3 : Int32) (v4 : Int32) (v5 : Int32) (v6 : Int32) (f : Nat → Option np_E) (ce sl : Nat) (hv0 : pw_ok q 61 v0 = true) (ha2 : pw_arr va2 = true) (hi2 : pw_ok q va2 vi2 = true) (hc : ce + 504 + dc ≤ 1109) (hs : sl + 3024 + ds ≤ 6654) (hW : pw_W q (n, f) S) (h : pw_p (m_L_steps_j190 S v0 v1 va2 vi2 v3 v4 v5 v6) (fun S' r => ∀ f', pw_W q (n, f') S' → Q (some (.int r)) (n, f'))) : np_G X 190 [(0, .ref (pw_pl 61 v0)), (1, .int v1), (2, .ref (pw_pl va2 vi2)), (3, .int v3), (4, .int v4), (5, .int v5), (6, .int v6)] [] (n, f) ce sl := by
  unfold m_L_steps_j190 at h
  refine np_soundW (so_L_steps hX hR) [21, 46, 96, 133, 173, 190, 309] 400 190 _ _ _ _ _ ?_
  conv => whnf
  refine np_rd_i (hW.ga ha2 hi2) ?_
  conv => whnf
  refine pw_ck h (fun _ h => ?_)
  conv => whnf
  refine pw_br h (fun _ h => ?_) (fun _ h => ?_)
  · conv => whnf
    refine pw_br h (fun _ h => ?_) (fun _ h => ?_)
    · conv => whnf
      exact ⟨(by omega), (by omega), ⟨_, rfl, by decide⟩, _, fun _ _ h9 => h9, pw_ps h _ hW⟩
    · conv => whnf
      exact ⟨(by omega), (by omega), ⟨_, rfl, by decide⟩, _, fun _ _ h9 => h9, pw_ps h _ hW⟩
  · conv => whnf
    refine np_rd_i (hW.ga ha2 hi2) ?_
    conv => whnf
    refine pw_ck h (fun _ h => ?_)
    conv => whnf
    refine pw_st h (fun z25 h => ?_)
    conv => whnf
    refine pw_br h (fun _ h => ?_) (fun _ h => ?_)
    · conv => whnf
      refine np_rd_i (hW.ga ha2 hi2) ?_
      conv => whnf
      refine pw_ck h (fun _ h => ?_)
      conv => whnf
      refine pw_wr (a := va2) (i := vi2) (d := upd (S va2 vi2) ((v3 + 1) : Int32).toNatClampNeg v5) hW hi2 (pw_ent_arr ha2).symm h (fun S26 f27 hW28 h => ?_)
      conv => whnf
      refine pw_br h (fun _ h => ?_) (fun _ h => ?_)
      · conv => whnf
        refine np_rd_i (hW28.ga ha2 hi2) ?_
        conv => whnf
        refine pw_ck h (fun _ h => ?_)
        conv => whnf
        refine np_rd_i (hW28.ga ha2 hi2) ?_
        conv => whnf
        refine pw_ck h (fun _ h => ?_)
        conv => whnf
        refine pw_wr (a := va2) (i := vi2) (d := upd (S26 va2 vi2) ((v3 + 2) : Int32).toNatClampNeg ((S26 va2 vi2 ((v3 + 2) : Int32).toNatClampNeg) + 1)) hW28 hi2 (pw_ent_arr ha2).symm h (fun S29 f30 hW31 h => ?_)
        conv => whnf
        refine np_rd_i (hW31.g hv0) ?_
        conv => whnf
        refine np_chk_i (pw_and rfl (pw_and rfl (pw_and rfl (pw_and rfl ((pw_and (pw_le (by omega)) (pw_le (by omega)))))))) ?_
        conv => whnf
        refine ⟨q, S29, v0, v1, rfl, hv0, hW31, pw_bd h (fun S32 r35 h f33 hW34 => ?_)⟩
        rcases r35 with r37 | e38
        · replace h := pw_ei h
          conv => whnf
          refine pw_st h (fun z39 h => ?_)
          conv => whnf
          refine np_rd_i (hW34.ga ha2 hi2) ?_
          conv => whnf
          refine pw_ck h (fun _ h => ?_)
          conv => whnf
          refine pw_br h (fun _ h => ?_) (fun _ h => ?_)
          · conv => whnf
            refine np_gl (J_L_steps_309 (dc := dc) (ds := ds) hX hR S32 v0 v1 va2 vi2 v3 v5 z25 z39 1 f33 _ _ hv0 ha2 hi2 (by omega) (by omega) hW34 h) ?_
            exact ⟨rfl, rfl, rfl, rfl, rfl, rfl, rfl, trivial⟩
          · conv => whnf
            refine np_rd_i (hW34.ga ha2 hi2) ?_
            conv => whnf
            refine pw_ck h (fun _ h => ?_)
            conv => whnf
            refine pw_br h (fun _ h => ?_) (fun _ h => ?_)
            · conv => whnf
              refine np_rd_i (hW34.ga ha2 hi2) ?_
              conv => whnf
              refine pw_ck h (fun _ h => ?_)
              conv => whnf
              refine np_rd_i (hW34.g hv0) ?_
              conv => whnf
              refine np_chk_i (pw_and rfl (pw_and rfl (pw_and rfl (pw_and rfl ((pw_and (pw_le (by omega)) (pw_le (by omega)))))))) ?_
              conv => whnf
              refine ⟨q, S32, v0, ((S32 va2 vi2 (v3 : Int32).toNatClampNeg) - 1), rfl, hv0, hW34, pw_bd h (fun S40 r43 h f41 hW42 => ?_)⟩
              rcases r43 with r45 | e46
              · replace h := pw_ei h
                conv => whnf
                refine pw_br h (fun _ h => ?_) (fun _ h => ?_)
                · conv => whnf
                  refine np_gl (J_L_steps_309 (dc := dc) (ds := ds) hX hR S40 v0 v1 va2 vi2 v3 v5 z25 z39 0 f41 _ _ hv0 ha2 hi2 (by omega) (by omega) hW42 h) ?_
                  exact ⟨rfl, rfl, rfl, rfl, rfl, rfl, rfl, trivial⟩
                · conv => whnf
                  refine np_gl (J_L_steps_309 (dc := dc) (ds := ds) hX hR S40 v0 v1 va2 vi2 v3 v5 z25 z39 1 f41 _ _ hv0 ha2 hi2 (by omega) (by omega) hW42 h) ?_
                  exact ⟨rfl, rfl, rfl, rfl, rfl, rfl, rfl, trivial⟩
              · exact (pw_pn h).elim
            · conv => whnf
              refine np_gl (J_L_steps_309 (dc := dc) (ds := ds) hX hR S32 v0 v1 va2 vi2 v3 v5 z25 z39 0 f33 _ _ hv0 ha2 hi2 (by omega) (by omega) hW34 h) ?_
              exact ⟨rfl, rfl, rfl, rfl, rfl, rfl, rfl, trivial⟩
        · exact (pw_pn h).elim
      · conv => whnf
        refine np_rd_i (hW28.ga ha2 hi2) ?_
        conv => whnf
        refine pw_ck h (fun _ h => ?_)
        conv => whnf
        refine np_chk_i (pw_and rfl (pw_and rfl (pw_and rfl ((pw_and (pw_le (by omega)) (pw_le (by omega))))))) ?_
        conv => whnf
        refine ⟨q, S26, v0, 4, v1, (S26 va2 vi2 ((v3 + 4) : Int32).toNatClampNeg), 0, rfl, hv0, hW28, pw_bd h (fun S47 r50 h f48 hW49 => ?_)⟩
        conv => whnf
        refine pw_st h (fun z52 h => ?_)
        conv => whnf
        refine np_rd_i (hW49.ga ha2 hi2) ?_
        conv => whnf
        refine pw_ck h (fun _ h => ?_)
        conv => whnf
        refine np_rd_i (hW49.ga ha2 hi2) ?_
        conv => whnf
        refine pw_ck h (fun _ h => ?_)
        conv => whnf
        refine pw_wr (a := va2) (i := vi2) (d := upd (S47 va2 vi2) ((v3 + 4) : Int32).toNatClampNeg ((S47 va2 vi2 ((v3 + 4) : Int32).toNatClampNeg) + 1)) hW49 hi2 (pw_ent_arr ha2).symm h (fun S53 f54 hW55 h => ?_)
        conv => whnf
        refine pw_br h (fun _ h => ?_) (fun _ h => ?_)
        · conv => whnf
          refine pw_br h (fun _ h => ?_) (fun _ h => ?_)
          · conv => whnf
            exact ⟨(by omega), (by omega), ⟨_, rfl, by decide⟩, _, fun _ _ h9 => h9, pw_ps h _ hW55⟩
          · conv => whnf
            refine np_rd_i (hW55.ga ha2 hi2) ?_
            conv => whnf
            refine pw_ck h (fun _ h => ?_)
            conv => whnf
            refine pw_br h (fun _ h => ?_) (fun _ h => ?_)
            · conv => whnf
              refine np_rd_i (hW55.ga ha2 hi2) ?_
              conv => whnf
              refine pw_ck h (fun _ h => ?_)
              conv => whnf
              refine np_chk_i (pw_and rfl (pw_and rfl (pw_and rfl ((pw_and (pw_le (by omega)) (pw_le (by omega))))))) ?_
              conv => whnf
              refine ⟨q, S53, v0, 4, v1, (S53 va2 vi2 ((v3 + 4) : Int32).toNatClampNeg), 0, rfl, hv0, hW55, pw_bd h (fun S56 r59 h f57 hW58 => ?_)⟩
              conv => whnf
              refine pw_br h (fun _ h => ?_) (fun _ h => ?_)
              · conv => whnf
                exact ⟨(by omega), (by omega), ⟨_, rfl, by decide⟩, _, fun _ _ h9 => h9, pw_ps h _ hW58⟩
              · conv => whnf
                exact ⟨(by omega), (by omega), ⟨_, rfl, by decide⟩, _, fun _ _ h9 => h9, pw_ps h _ hW58⟩
            · conv => whnf
              exact ⟨(by omega), (by omega), ⟨_, rfl, by decide⟩, _, fun _ _ h9 => h9, pw_ps h _ hW55⟩
        · conv => whnf
          exact ⟨(by omega), (by omega), ⟨_, rfl, by decide⟩, _, fun _ _ h9 => h9, pw_ps h _ hW55⟩
    · conv => whnf
      refine np_rd_i (hW.ga ha2 hi2) ?_
      conv => whnf
      refine pw_ck h (fun _ h => ?_)
      conv => whnf
      refine pw_wr (a := va2) (i := vi2) (d := upd (S va2 vi2) ((v3 + 1) : Int32).toNatClampNeg (v5 + 1)) hW hi2 (pw_ent_arr ha2).symm h (fun S61 f62 hW63 h => ?_)
      conv => whnf
      refine pw_br h (fun _ h => ?_) (fun _ h => ?_)
      · conv => whnf
        refine np_rd_i (hW63.ga ha2 hi2) ?_
        conv => whnf
        refine pw_ck h (fun _ h => ?_)
        conv => whnf
        refine np_rd_i (hW63.ga ha2 hi2) ?_
        conv => whnf
        refine pw_ck h (fun _ h => ?_)
        conv => whnf
        refine pw_wr (a := va2) (i := vi2) (d := upd (S61 va2 vi2) ((v3 + 2) : Int32).toNatClampNeg ((S61 va2 vi2 ((v3 + 2) : Int32).toNatClampNeg) + 1)) hW63 hi2 (pw_ent_arr ha2).symm h (fun S64 f65 hW66 h => ?_)
        conv => whnf
        refine np_rd_i (hW66.g hv0) ?_
        conv => whnf
        refine np_chk_i (pw_and rfl (pw_and rfl (pw_and rfl (pw_and rfl ((pw_and (pw_le (by omega)) (pw_le (by omega)))))))) ?_
        conv => whnf
        refine ⟨q, S64, v0, v1, rfl, hv0, hW66, pw_bd h (fun S67 r70 h f68 hW69 => ?_)⟩
        rcases r70 with r72 | e73
        · replace h := pw_ei h
          conv => whnf
          refine pw_st h (fun z74 h => ?_)
          conv => whnf
          refine np_rd_i (hW69.ga ha2 hi2) ?_
          conv => whnf
          refine pw_ck h (fun _ h => ?_)
          conv => whnf
          refine pw_br h (fun _ h => ?_) (fun _ h => ?_)
          · conv => whnf
            refine np_gl (J_L_steps_309 (dc := dc) (ds := ds) hX hR S67 v0 v1 va2 vi2 v3 v5 z25 z74 1 f68 _ _ hv0 ha2 hi2 (by omega) (by omega) hW69 h) ?_
            exact ⟨rfl, rfl, rfl, rfl, rfl, rfl, rfl, trivial⟩
          · conv => whnf
            refine np_rd_i (hW69.ga ha2 hi2) ?_
            conv => whnf
            refine pw_ck h (fun _ h => ?_)
            conv => whnf
            refine pw_br h (fun _ h => ?_) (fun _ h => ?_)
            · conv => whnf
              refine np_rd_i (hW69.ga ha2 hi2) ?_
              conv => whnf
              refine pw_ck h (fun _ h => ?_)
              conv => whnf
              refine np_rd_i (hW69.g hv0) ?_
              conv => whnf
              refine np_chk_i (pw_and rfl (pw_and rfl (pw_and rfl (pw_and rfl ((pw_and (pw_le (by omega)) (pw_le (by omega)))))))) ?_
              conv => whnf
              refine ⟨q, S67, v0, ((S67 va2 vi2 (v3 : Int32).toNatClampNeg) - 1), rfl, hv0, hW69, pw_bd h (fun S75 r78 h f76 hW77 => ?_)⟩
              rcases r78 with r80 | e81
              · replace h := pw_ei h
                conv => whnf
                refine pw_br h (fun _ h => ?_) (fun _ h => ?_)
                · conv => whnf
                  refine np_gl (J_L_steps_309 (dc := dc) (ds := ds) hX hR S75 v0 v1 va2 vi2 v3 v5 z25 z74 0 f76 _ _ hv0 ha2 hi2 (by omega) (by omega) hW77 h) ?_
                  exact ⟨rfl, rfl, rfl, rfl, rfl, rfl, rfl, trivial⟩
                · conv => whnf
                  refine np_gl (J_L_steps_309 (dc := dc) (ds := ds) hX hR S75 v0 v1 va2 vi2 v3 v5 z25 z74 1 f76 _ _ hv0 ha2 hi2 (by omega) (by omega) hW77 h) ?_
                  exact ⟨rfl, rfl, rfl, rfl, rfl, rfl, rfl, trivial⟩
              · exact (pw_pn h).elim
            · conv => whnf
              refine np_gl (J_L_steps_309 (dc := dc) (ds := ds) hX hR S67 v0 v1 va2 vi2 v3 v5 z25 z74 0 f68 _ _ hv0 ha2 hi2 (by omega) (by omega) hW69 h) ?_
              exact ⟨rfl, rfl, rfl, rfl, rfl, rfl, rfl, trivial⟩
        · exact (pw_pn h).elim
      · conv => whnf
        refine np_rd_i (hW63.ga ha2 hi2) ?_
        conv => whnf
        refine pw_ck h (fun _ h => ?_)
        conv => whnf
        refine np_chk_i (pw_and rfl (pw_and rfl (pw_and rfl ((pw_and (pw_le (by omega)) (pw_le (by omega))))))) ?_
        conv => whnf
        refine ⟨q, S61, v0, 4, v1, (S61 va2 vi2 ((v3 + 4) : Int32).toNatClampNeg), 0, rfl, hv0, hW63, pw_bd h (fun S82 r85 h f83 hW84 => ?_)⟩
        conv => whnf
        refine pw_st h (fun z87 h => ?_)
        conv => whnf
        refine np_rd_i (hW84.ga ha2 hi2) ?_
        conv => whnf
        refine pw_ck h (fun _ h => ?_)
        conv => whnf
        refine np_rd_i (hW84.ga ha2 hi2) ?_
        conv => whnf
        refine pw_ck h (fun _ h => ?_)
        conv => whnf
        refine pw_wr (a := va2) (i := vi2) (d := upd (S82 va2 vi2) ((v3 + 4) : Int32).toNatClampNeg ((S82 va2 vi2 ((v3 + 4) : Int32).toNatClampNeg) + 1)) hW84 hi2 (pw_ent_arr ha2).symm h (fun S88 f89 hW90 h => ?_)
        conv => whnf
        refine pw_br h (fun _ h => ?_) (fun _ h => ?_)
        · conv => whnf
          refine pw_br h (fun _ h => ?_) (fun _ h => ?_)
          · conv => whnf
            exact ⟨(by omega), (by omega), ⟨_, rfl, by decide⟩, _, fun _ _ h9 => h9, pw_ps h _ hW90⟩
          · conv => whnf
            refine np_rd_i (hW90.ga ha2 hi2) ?_
            conv => whnf
            refine pw_ck h (fun _ h => ?_)
            conv => whnf
            refine pw_br h (fun _ h => ?_) (fun _ h => ?_)
            · conv => whnf
              refine np_rd_i (hW90.ga ha2 hi2) ?_
              conv => whnf
              refine pw_ck h (fun _ h => ?_)
              conv => whnf
              refine np_chk_i (pw_and rfl (pw_and rfl (pw_and rfl ((pw_and (pw_le (by omega)) (pw_le (by omega))))))) ?_
              conv => whnf
              refine ⟨q, S88, v0, 4, v1, (S88 va2 vi2 ((v3 + 4) : Int32).toNatClampNeg), 0, rfl, hv0, hW90, pw_bd h (fun S91 r94 h f92 hW93 => ?_)⟩
              conv => whnf
              refine pw_br h (fun _ h => ?_) (fun _ h => ?_)
              · conv => whnf
                exact ⟨(by omega), (by omega), ⟨_, rfl, by decide⟩, _, fun _ _ h9 => h9, pw_ps h _ hW93⟩
              · conv => whnf
                exact ⟨(by omega), (by omega), ⟨_, rfl, by decide⟩, _, fun _ _ h9 => h9, pw_ps h _ hW93⟩
            · conv => whnf
              exact ⟨(by omega), (by omega), ⟨_, rfl, by decide⟩, _, fun _ _ h9 => h9, pw_ps h _ hW90⟩
        · conv => whnf
          exact ⟨(by omega), (by omega), ⟨_, rfl, by decide⟩, _, fun _ _ h9 => h9, pw_ps h _ hW90⟩
noncomputable def m_L_steps_j173  (S : pw_S) (va2 : Nat) (vi2 : Nat) (v3 : Int32) (s0 : Int32) (s1 : Int32) (s2 : Int32) (s3 : Int32) : pw_R Int32 :=
 pw_c (np_inb (v3 + 1) (pw_len va2)) <|
 if s0 = ((s1 + (s2 * s3)) + (S va2 vi2 ((v3 + 1) : Int32).toNatClampNeg)) then
 (some (S, 1))
 else
 (some (S, 0))
set_option maxRecDepth 100000 in
set_option maxHeartbeats 8000000 in
theorem J_L_steps_173 {X : np_Ctx} (hX : np_ok RL cL_steps 11 11 304 1109 6654 .ireturn X) {Q : Option Value → np_W → Prop} {q : Nat} {n dc ds : Nat} (hR : ∀ st w ce sl, np_rt (some .boolean) 1109 6654 Q st w ce sl → X.2.2.1 st w ce sl) (S : pw_S) (va2 : Nat) (vi2 : Nat) (v3 : Int32) (s0 : Int32) (s1 : Int32) (s2 : Int32) (s3 : Int32) (f : Nat → Option np_E) (ce sl : Nat) (ha2 : pw_arr va2 = true) (hi2 : pw_ok q va2 vi2 = true) (hc : ce + 0 + dc ≤ 1109) (hs : sl + 0 + ds ≤ 6654) (hW : pw_W q (n, f) S) (h : pw_p (m_L_steps_j173 S va2 vi2 v3 s0 s1 s2 s3) (fun S' r => ∀ f', pw_W q (n, f') S' → Q (some (.int r)) (n, f'))) : np_G X 173 [(2, .ref (pw_pl va2 vi2)), (3, .int v3)] [.int s3, .int s2, .int s1, .int s0] (n, f) ce sl := by
  unfold m_L_steps_j173 at h
  refine np_soundW (so_L_steps hX hR) [21, 46, 96, 133, 173, 190, 309] 400 173 _ _ _ _ _ ?_
  conv => whnf
  refine np_rd_i (hW.ga ha2 hi2) ?_
  conv => whnf
  refine pw_ck h (fun _ h => ?_)
  conv => whnf
  refine pw_br h (fun _ h => ?_) (fun _ h => ?_)
  · conv => whnf
    exact ⟨(by omega), (by omega), ⟨_, rfl, by decide⟩, _, fun _ _ h9 => h9, pw_ps h _ hW⟩
  · conv => whnf
    exact ⟨(by omega), (by omega), ⟨_, rfl, by decide⟩, _, fun _ _ h9 => h9, pw_ps h _ hW⟩
noncomputable def m_L_steps_j133  (S : pw_S) (v0 : Nat) (v1 : Int32) (va2 : Nat) (vi2 : Nat) (v3 : Int32) (s0 : Int32) (s1 : Int32) : pw_R Int32 :=
 if s0 = s1 then
 (pw_b (m_X11_progress S v0 v1) fun S96 r99 =>
 pw_e r99 (fun r101 =>
 (pw_c (np_inb (v3 + 2) (pw_len va2)) <|
 pw_c (np_inb (v3 + 3) (pw_len va2)) <|
 if 9 ≤ (S96 va2 vi2 ((v3 + 3) : Int32).toNatClampNeg) then
 (m_L_steps_j173 S96 va2 vi2 v3 r101 (10000 * (S96 va2 vi2 ((v3 + 2) : Int32).toNatClampNeg)) 1000 9)
 else
 (pw_c (np_inb (v3 + 3) (pw_len va2)) <|
 m_L_steps_j173 S96 va2 vi2 v3 r101 (10000 * (S96 va2 vi2 ((v3 + 2) : Int32).toNatClampNeg)) 1000 (S96 va2 vi2 ((v3 + 3) : Int32).toNatClampNeg)))) (fun _ => none))
 else
 (some (S, 0))
set_option maxRecDepth 100000 in
set_option maxHeartbeats 8000000 in
theorem J_L_steps_133 {X : np_Ctx} (hX : np_ok RL cL_steps 11 11 304 1109 6654 .ireturn X) {Q : Option Value → np_W → Prop} {q : Nat} {n dc ds : Nat} (hR : ∀ st w ce sl, np_rt (some .boolean) 1109 6654 Q st w ce sl → X.2.2.1 st w ce sl) (S : pw_S) (v0 : Nat) (v1 : Int32) (va2 : Nat) (vi2 : Nat) (v3 : Int32) (s0 : Int32) (s1 : Int32) (f : Nat → Option np_E) (ce sl : Nat) (hv0 : pw_ok q 61 v0 = true) (ha2 : pw_arr va2 = true) (hi2 : pw_ok q va2 vi2 = true) (hc : ce + 1 + dc ≤ 1109) (hs : sl + 6 + ds ≤ 6654) (hW : pw_W q (n, f) S) (h : pw_p (m_L_steps_j133 S v0 v1 va2 vi2 v3 s0 s1) (fun S' r => ∀ f', pw_W q (n, f') S' → Q (some (.int r)) (n, f'))) : np_G X 133 [(0, .ref (pw_pl 61 v0)), (1, .int v1), (2, .ref (pw_pl va2 vi2)), (3, .int v3)] [.int s1, .int s0] (n, f) ce sl := by
  unfold m_L_steps_j133 at h
  refine np_soundW (so_L_steps hX hR) [21, 46, 96, 133, 173, 190, 309] 400 133 _ _ _ _ _ ?_
  conv => whnf
  refine pw_br h (fun _ h => ?_) (fun _ h => ?_)
  · conv => whnf
    refine np_rd_i (hW.g hv0) ?_
    conv => whnf
    refine np_chk_i (pw_and rfl (pw_and rfl (pw_and rfl (pw_and rfl ((pw_and (pw_le (by omega)) (pw_le (by omega)))))))) ?_
    conv => whnf
    refine ⟨q, S, v0, v1, rfl, hv0, hW, pw_bd h (fun S96 r99 h f97 hW98 => ?_)⟩
    rcases r99 with r101 | e102
    · replace h := pw_ei h
      conv => whnf
      refine np_rd_i (hW98.ga ha2 hi2) ?_
      conv => whnf
      refine pw_ck h (fun _ h => ?_)
      conv => whnf
      refine np_rd_i (hW98.ga ha2 hi2) ?_
      conv => whnf
      refine pw_ck h (fun _ h => ?_)
      conv => whnf
      refine pw_br h (fun _ h => ?_) (fun _ h => ?_)
      · conv => whnf
        refine np_gl (J_L_steps_173 (dc := dc) (ds := ds) hX hR S96 va2 vi2 v3 r101 (10000 * (S96 va2 vi2 ((v3 + 2) : Int32).toNatClampNeg)) 1000 9 f97 _ _ ha2 hi2 (by omega) (by omega) hW98 h) ?_
        exact ⟨rfl, rfl, trivial⟩
      · conv => whnf
        refine np_rd_i (hW98.ga ha2 hi2) ?_
        conv => whnf
        refine pw_ck h (fun _ h => ?_)
        conv => whnf
        refine np_gl (J_L_steps_173 (dc := dc) (ds := ds) hX hR S96 va2 vi2 v3 r101 (10000 * (S96 va2 vi2 ((v3 + 2) : Int32).toNatClampNeg)) 1000 (S96 va2 vi2 ((v3 + 3) : Int32).toNatClampNeg) f97 _ _ ha2 hi2 (by omega) (by omega) hW98 h) ?_
        exact ⟨rfl, rfl, trivial⟩
    · exact (pw_pn h).elim
  · conv => whnf
    exact ⟨(by omega), (by omega), ⟨_, rfl, by decide⟩, _, fun _ _ h9 => h9, pw_ps h _ hW⟩
noncomputable def m_L_steps_j96  (S : pw_S) (v0 : Nat) (v1 : Int32) (va2 : Nat) (vi2 : Nat) (v3 : Int32) (v4 : Int32) (v5 : Int32) (v6 : Int32) (s0 : Int32) : pw_R Int32 :=
 pw_l (s0 : Int32) fun z103 =>
 if v5 = v4 then
 (if z103 = 0 then
 (pw_c (np_inb (v3 + 1) (pw_len va2)) <|
 if (S va2 vi2 ((v3 + 1) : Int32).toNatClampNeg) = v4 then
 (if z103 = 0 then
 (m_L_steps_j133 S v0 v1 va2 vi2 v3 v6 (-2))
 else
 (m_L_steps_j133 S v0 v1 va2 vi2 v3 v6 (-1)))
 else
 (m_L_steps_j190 S v0 v1 va2 vi2 v3 v4 v5 v6))
 else
 (if z103 = 0 then
 (m_L_steps_j133 S v0 v1 va2 vi2 v3 v6 (-2))
 else
 (m_L_steps_j133 S v0 v1 va2 vi2 v3 v6 (-1))))
 else
 (m_L_steps_j190 S v0 v1 va2 vi2 v3 v4 v5 v6)
set_option maxRecDepth 100000 in
set_option maxHeartbeats 8000000 in
theorem J_L_steps_96 {X : np_Ctx} (hX : np_ok RL cL_steps 11 11 304 1109 6654 .ireturn X) {Q : Option Value → np_W → Prop} {q : Nat} {n dc ds : Nat} (hR : ∀ st w ce sl, np_rt (some .boolean) 1109 6654 Q st w ce sl → X.2.2.1 st w ce sl) (S : pw_S) (v0 : Nat) (v1 : Int32) (va2 : Nat) (vi2 : Nat) (v3 : Int32) (v4 : Int32) (v5 : Int32) (v6 : Int32) (s0 : Int32) (f : Nat → Option np_E) (ce sl : Nat) (hv0 : pw_ok q 61 v0 = true) (ha2 : pw_arr va2 = true) (hi2 : pw_ok q va2 vi2 = true) (hc : ce + 504 + dc ≤ 1109) (hs : sl + 3024 + ds ≤ 6654) (hW : pw_W q (n, f) S) (h : pw_p (m_L_steps_j96 S v0 v1 va2 vi2 v3 v4 v5 v6 s0) (fun S' r => ∀ f', pw_W q (n, f') S' → Q (some (.int r)) (n, f'))) : np_G X 96 [(0, .ref (pw_pl 61 v0)), (1, .int v1), (2, .ref (pw_pl va2 vi2)), (3, .int v3), (4, .int v4), (5, .int v5), (6, .int v6)] [.int s0] (n, f) ce sl := by
  unfold m_L_steps_j96 at h
  refine np_soundW (so_L_steps hX hR) [21, 46, 96, 133, 173, 190, 309] 400 96 _ _ _ _ _ ?_
  conv => whnf
  refine pw_st h (fun z103 h => ?_)
  conv => whnf
  refine pw_br h (fun _ h => ?_) (fun _ h => ?_)
  · conv => whnf
    refine pw_br h (fun _ h => ?_) (fun _ h => ?_)
    · conv => whnf
      refine np_rd_i (hW.ga ha2 hi2) ?_
      conv => whnf
      refine pw_ck h (fun _ h => ?_)
      conv => whnf
      refine pw_br h (fun _ h => ?_) (fun _ h => ?_)
      · conv => whnf
        refine pw_br h (fun _ h => ?_) (fun _ h => ?_)
        · conv => whnf
          refine np_gl (J_L_steps_133 (dc := dc) (ds := ds) hX hR S v0 v1 va2 vi2 v3 v6 (-2) f _ _ hv0 ha2 hi2 (by omega) (by omega) hW h) ?_
          exact ⟨rfl, rfl, rfl, rfl, trivial⟩
        · conv => whnf
          refine np_gl (J_L_steps_133 (dc := dc) (ds := ds) hX hR S v0 v1 va2 vi2 v3 v6 (-1) f _ _ hv0 ha2 hi2 (by omega) (by omega) hW h) ?_
          exact ⟨rfl, rfl, rfl, rfl, trivial⟩
      · conv => whnf
        refine np_gl (J_L_steps_190 (dc := dc) (ds := ds) hX hR S v0 v1 va2 vi2 v3 v4 v5 v6 f _ _ hv0 ha2 hi2 (by omega) (by omega) hW h) ?_
        exact ⟨rfl, rfl, rfl, rfl, rfl, rfl, rfl, trivial⟩
    · conv => whnf
      refine pw_br h (fun _ h => ?_) (fun _ h => ?_)
      · conv => whnf
        refine np_gl (J_L_steps_133 (dc := dc) (ds := ds) hX hR S v0 v1 va2 vi2 v3 v6 (-2) f _ _ hv0 ha2 hi2 (by omega) (by omega) hW h) ?_
        exact ⟨rfl, rfl, rfl, rfl, trivial⟩
      · conv => whnf
        refine np_gl (J_L_steps_133 (dc := dc) (ds := ds) hX hR S v0 v1 va2 vi2 v3 v6 (-1) f _ _ hv0 ha2 hi2 (by omega) (by omega) hW h) ?_
        exact ⟨rfl, rfl, rfl, rfl, trivial⟩
  · conv => whnf
    refine np_gl (J_L_steps_190 (dc := dc) (ds := ds) hX hR S v0 v1 va2 vi2 v3 v4 v5 v6 f _ _ hv0 ha2 hi2 (by omega) (by omega) hW h) ?_
    exact ⟨rfl, rfl, rfl, rfl, rfl, rfl, rfl, trivial⟩
noncomputable def m_L_steps_j46  (S : pw_S) (v0 : Nat) (v1 : Int32) (va2 : Nat) (vi2 : Nat) (v3 : Int32) (v4 : Int32) (v5 : Int32) : pw_R Int32 :=
 pw_b (m_L_asks S v0 2 v1 0 0) fun S104 r107 =>
 pw_l (r107 : Int32) fun z109 =>
 pw_c (np_inb v3 (pw_len va2)) <|
 if (S104 va2 vi2 (v3 : Int32).toNatClampNeg) = 0 then
 (if z109 = (-70008) then
 (pw_b (m_X11_progress S104 v0 v1) fun S110 r113 =>
 pw_e r113 (fun r115 =>
 (if r115 = 0 then
 (some (S110, 1))
 else
 (some (S110, 0)))) (fun _ => none))
 else
 (some (S104, 0)))
 else
 (pw_c (np_inb (v3 + 5) (pw_len va2)) <|
 if (S104 va2 vi2 ((v3 + 5) : Int32).toNatClampNeg) = 0 then
 (m_L_steps_j96 S104 v0 v1 va2 vi2 v3 v4 v5 z109 1)
 else
 (m_L_steps_j96 S104 v0 v1 va2 vi2 v3 v4 v5 z109 0))
set_option maxRecDepth 100000 in
set_option maxHeartbeats 8000000 in
theorem J_L_steps_46 {X : np_Ctx} (hX : np_ok RL cL_steps 11 11 304 1109 6654 .ireturn X) {Q : Option Value → np_W → Prop} {q : Nat} {n dc ds : Nat} (hR : ∀ st w ce sl, np_rt (some .boolean) 1109 6654 Q st w ce sl → X.2.2.1 st w ce sl) (S : pw_S) (v0 : Nat) (v1 : Int32) (va2 : Nat) (vi2 : Nat) (v3 : Int32) (v4 : Int32) (v5 : Int32) (f : Nat → Option np_E) (ce sl : Nat) (hv0 : pw_ok q 61 v0 = true) (ha2 : pw_arr va2 = true) (hi2 : pw_ok q va2 vi2 = true) (hc : ce + 505 + dc ≤ 1109) (hs : sl + 3030 + ds ≤ 6654) (hW : pw_W q (n, f) S) (h : pw_p (m_L_steps_j46 S v0 v1 va2 vi2 v3 v4 v5) (fun S' r => ∀ f', pw_W q (n, f') S' → Q (some (.int r)) (n, f'))) : np_G X 46 [(0, .ref (pw_pl 61 v0)), (1, .int v1), (2, .ref (pw_pl va2 vi2)), (3, .int v3), (4, .int v4), (5, .int v5)] [] (n, f) ce sl := by
  unfold m_L_steps_j46 at h
  refine np_soundW (so_L_steps hX hR) [21, 46, 96, 133, 173, 190, 309] 400 46 _ _ _ _ _ ?_
  conv => whnf
  refine np_chk_i (pw_and rfl (pw_and rfl (pw_and rfl ((pw_and (pw_le (by omega)) (pw_le (by omega))))))) ?_
  conv => whnf
  refine ⟨q, S, v0, 2, v1, 0, 0, rfl, hv0, hW, pw_bd h (fun S104 r107 h f105 hW106 => ?_)⟩
  conv => whnf
  refine pw_st h (fun z109 h => ?_)
  conv => whnf
  refine np_rd_i (hW106.ga ha2 hi2) ?_
  conv => whnf
  refine pw_ck h (fun _ h => ?_)
  conv => whnf
  refine pw_br h (fun _ h => ?_) (fun _ h => ?_)
  · conv => whnf
    refine pw_br h (fun _ h => ?_) (fun _ h => ?_)
    · conv => whnf
      refine np_rd_i (hW106.g hv0) ?_
      conv => whnf
      refine np_chk_i (pw_and rfl (pw_and rfl (pw_and rfl (pw_and rfl ((pw_and (pw_le (by omega)) (pw_le (by omega)))))))) ?_
      conv => whnf
      refine ⟨q, S104, v0, v1, rfl, hv0, hW106, pw_bd h (fun S110 r113 h f111 hW112 => ?_)⟩
      rcases r113 with r115 | e116
      · replace h := pw_ei h
        conv => whnf
        refine pw_br h (fun _ h => ?_) (fun _ h => ?_)
        · conv => whnf
          exact ⟨(by omega), (by omega), ⟨_, rfl, by decide⟩, _, fun _ _ h9 => h9, pw_ps h _ hW112⟩
        · conv => whnf
          exact ⟨(by omega), (by omega), ⟨_, rfl, by decide⟩, _, fun _ _ h9 => h9, pw_ps h _ hW112⟩
      · exact (pw_pn h).elim
    · conv => whnf
      exact ⟨(by omega), (by omega), ⟨_, rfl, by decide⟩, _, fun _ _ h9 => h9, pw_ps h _ hW106⟩
  · conv => whnf
    refine np_rd_i (hW106.ga ha2 hi2) ?_
    conv => whnf
    refine pw_ck h (fun _ h => ?_)
    conv => whnf
    refine pw_br h (fun _ h => ?_) (fun _ h => ?_)
    · conv => whnf
      refine np_gl (J_L_steps_96 (dc := dc) (ds := ds) hX hR S104 v0 v1 va2 vi2 v3 v4 v5 z109 1 f105 _ _ hv0 ha2 hi2 (by omega) (by omega) hW106 h) ?_
      exact ⟨rfl, rfl, rfl, rfl, rfl, rfl, rfl, trivial⟩
    · conv => whnf
      refine np_gl (J_L_steps_96 (dc := dc) (ds := ds) hX hR S104 v0 v1 va2 vi2 v3 v4 v5 z109 0 f105 _ _ hv0 ha2 hi2 (by omega) (by omega) hW106 h) ?_
      exact ⟨rfl, rfl, rfl, rfl, rfl, rfl, rfl, trivial⟩
noncomputable def m_L_steps (S : pw_S) (i0 : Nat) (x1 : Int32) (a2 : Nat) (i2 : Nat) : pw_R Int32 :=
 pw_l ((3 + (6 * x1)) : Int32) fun z117 =>
 pw_b (m_L_units S i0 x1) fun S118 r121 =>
 pw_l (r121 : Int32) fun z123 =>
 pw_c (np_inb (z117 + 1) (pw_len a2)) <|
 pw_l ((S118 a2 i2 ((z117 + 1) : Int32).toNatClampNeg) : Int32) fun z124 =>
 m_L_steps_21
 (fun S135 u125 u127 u128 u129 u132 u133 u134 =>
 (m_L_steps_j46 S135 u125 u127 u128 u129 u132 u133 u134)) (pw_F 302) S118 i0 x1 a2 i2 z117 z123 z124
def sp_L_steps : np_Sp := fun vs w Q => ∃ (q : Nat) (S : pw_S) (i0 : Nat) (x1 : Int32) (a2 : Nat) (i2 : Nat), vs = [.ref (pw_pl 61 i0), .int x1, .ref (pw_pl a2 i2)] ∧ pw_ok q 61 i0 = true ∧ pw_arr a2 = true ∧ pw_ok q a2 i2 = true ∧ pw_W q w S ∧ pw_p (m_L_steps S i0 x1 a2 i2) (fun S' r => ∀ f', pw_W q (w.1, f') S' → Q (some (.int r)) (w.1, f'))
set_option maxRecDepth 100000 in
set_option maxHeartbeats 8000000 in
theorem C_L_steps : np_C yL_steps cL_steps 11 (some .boolean) 11 304 1109 6654 (sp_L_steps) := by
  refine np_of (by decide) ?_
  intro X vs w Q hsp hX hmn hRt hlt
  obtain ⟨q, S, i0, x1, a2, i2, rfl, hi0, ha2, hi2, hW, h⟩ := hsp
  obtain ⟨n, f⟩ := w
  unfold m_L_steps at h
  have hR : ∀ st w ce sl, np_rt (some .boolean) 1109 6654 Q st w ce sl → X.2.2.1 st w ce sl := fun _ _ _ _ h => by rw [hRt]; exact h
  refine np_soundW (so_L_steps hX hR) [21, 46, 96, 133, 173, 190, 309] 400 0 _ _ _ _ _ ?_
  conv => whnf
  refine pw_st h (fun z117 h => ?_)
  conv => whnf
  refine ⟨q, S, i0, x1, rfl, hi0, hW, pw_bd h (fun S118 r121 h f119 hW120 => ?_)⟩
  conv => whnf
  refine pw_st h (fun z123 h => ?_)
  conv => whnf
  refine np_rd_i (hW120.ga ha2 hi2) ?_
  conv => whnf
  refine pw_ck h (fun _ h => ?_)
  conv => whnf
  refine pw_st h (fun z124 h => ?_)
  conv => whnf
  refine np_gl (L_L_steps_21 (dc := 505) (ds := 3030) hX hR (fun S135 u125 u127 u128 u129 u132 u133 u134 f136 ce138 sl139 ho126 ho130 ho131 hc140 hs141 hW137 h => ?_) (pw_F 302) S118 i0 x1 a2 i2 z117 z123 z124 f119 _ _ hi0 ha2 hi2 (by rw [pw_F_eq]; omega) (by rw [pw_F_eq]; omega) hW120 h) ⟨rfl, rfl, rfl, rfl, rfl, rfl, trivial⟩
  · refine np_gl (J_L_steps_46 (dc := 0) (ds := 0) hX hR S135 u125 u127 u128 u129 u132 u133 u134 f136 _ _ ho126 ho130 ho131 (by omega) (by omega) hW137 h) ?_
    exact ⟨rfl, rfl, rfl, rfl, rfl, rfl, trivial⟩
theorem dL_cell_0 : decode cL_cell 0 = .ok (.iload_n 2, 1) := by decide +kernel
theorem dL_cell_1 : decode cL_cell 1 = .ok (.ifCond .ge 8, 3) := by decide +kernel
theorem dL_cell_4 : decode cL_cell 4 = .ok (.ldc 119, 2) := by decide +kernel
theorem dL_cell_6 : decode cL_cell 6 = .ok (.goto 11, 3) := by decide +kernel
theorem dL_cell_9 : decode cL_cell 9 = .ok (.aload_n 0, 1) := by decide +kernel
theorem dL_cell_10 : decode cL_cell 10 = .ok (.iload_n 1, 1) := by decide +kernel
theorem dL_cell_11 : decode cL_cell 11 = .ok (.iload_n 2, 1) := by decide +kernel
theorem dL_cell_12 : decode cL_cell 12 = .ok (.iload_n 3, 1) := by decide +kernel
theorem dL_cell_13 : decode cL_cell 13 = .ok (.iconst 0, 1) := by decide +kernel
theorem dL_cell_14 : decode cL_cell 14 = .ok (.invokevirtual 116, 3) := by decide +kernel
theorem dL_cell_17 : decode cL_cell 17 = .ok (.ireturn, 1) := by decide +kernel
def is_L_cell (Rt : np_Rt) : List (Nat × np_Op) := [(0, np_ild 1 2), (1, nq_if (fun x => 0 ≤ x) 9), (4, np_push 2 (.int (-2147483648))), (6, np_goto 17), (9, np_ald 1 0), (10, np_ild 1 1), (11, np_ild 1 2), (12, np_ild 1 3), (13, np_push 1 (.int 0)), (14, nw_callVX 11 5 sp_X11_cell 6 1 6 1 6 []), (17, np_ret Rt)]
set_option maxRecDepth 20000 in
theorem so_L_cell {X : np_Ctx} {Rt : np_Rt} (hX : np_ok RL cL_cell 4 7 125 1 6 .ireturn X) (hR : ∀ st w ce sl, Rt st w ce sl → X.2.2.1 st w ce sl) : ∀ q ∈ is_L_cell Rt, np_S X q.1 q.2 :=
  List.forall_mem_cons.mpr ⟨np_s_iload_n hX dL_cell_0 rfl, List.forall_mem_cons.mpr ⟨np_S.mono (op := np_if (fun x => 0 ≤ x) 9) (np_s_if_ge hX dL_cell_1 (by decide)) nq_if_le, List.forall_mem_cons.mpr ⟨np_s_ldc hX dL_cell_4 gw1266, List.forall_mem_cons.mpr ⟨np_s_goto hX dL_cell_6 (by decide), List.forall_mem_cons.mpr ⟨np_s_aload_n hX dL_cell_9 rfl, List.forall_mem_cons.mpr ⟨np_s_iload_n hX dL_cell_10 rfl, List.forall_mem_cons.mpr ⟨np_s_iload_n hX dL_cell_11 rfl, List.forall_mem_cons.mpr ⟨np_s_iload_n hX dL_cell_12 rfl, List.forall_mem_cons.mpr ⟨np_s_iconst hX dL_cell_13 (by decide), List.forall_mem_cons.mpr ⟨np_S.mono (op := np_callVX 11 5 sp_X11_cell 6 1 6 1 6 []) (np_s_callVX hX C_X11_cell dL_cell_14 (q := (RX11, TX11, 14)) rfl rfl gw1264 gw63 gw1261 gw1262 gw1263 ⟨by decide, by decide, by decide⟩ (by decide) (by decide) (fun _ h => nomatch h)) (nw_callVX_le2 (ci := 11) (n := 5) (sp := sp_X11_cell) (maxL := 6) (mc := 1) (ms := 6) (RC := 1) (RS := 6) (hs := [])), List.forall_mem_cons.mpr ⟨np_S.mono (op := np_ret X.2.2.1) (np_s_ret hX dL_cell_17) (nq_ret_le hR), fun _ h => nomatch h⟩⟩⟩⟩⟩⟩⟩⟩⟩⟩⟩
noncomputable def m_L_cell (S : pw_S) (i0 : Nat) (x1 : Int32) (x2 : Int32) (x3 : Int32) : pw_R Int32 :=
 if 0 ≤ x2 then
 (pw_b (m_X11_cell S i0 x1 x2 x3 0) fun S1 r4 =>
 pw_e r4 (fun r6 =>
 (some (S1, r6))) (fun _ => none))
 else
 (some (S, (-2147483648)))
def sp_L_cell : np_Sp := fun vs w Q => ∃ (q : Nat) (S : pw_S) (i0 : Nat) (x1 : Int32) (x2 : Int32) (x3 : Int32), vs = [.ref (pw_pl 61 i0), .int x1, .int x2, .int x3] ∧ pw_ok q 61 i0 = true ∧ pw_W q w S ∧ pw_p (m_L_cell S i0 x1 x2 x3) (fun S' r => ∀ f', pw_W q (w.1, f') S' → Q (some (.int r)) (w.1, f'))
set_option maxRecDepth 100000 in
set_option maxHeartbeats 8000000 in
theorem C_L_cell : np_C yL_cell cL_cell 4 (some .int) 7 125 1 6 (sp_L_cell) := by
  refine np_of (by decide) ?_
  intro X vs w Q hsp hX hmn hRt hlt
  obtain ⟨q, S, i0, x1, x2, x3, rfl, hi0, hW, h⟩ := hsp
  obtain ⟨n, f⟩ := w
  unfold m_L_cell at h
  have hR : ∀ st w ce sl, np_rt (some .int) 1 6 Q st w ce sl → X.2.2.1 st w ce sl := fun _ _ _ _ h => by rw [hRt]; exact h
  refine np_soundW (so_L_cell hX hR) [] 400 0 _ _ _ _ _ ?_
  conv => whnf
  refine pw_br h (fun _ h => ?_) (fun _ h => ?_)
  · conv => whnf
    refine np_rd_i (hW.g hi0) ?_
    conv => whnf
    refine ⟨q, S, i0, x1, x2, x3, 0, rfl, hi0, hW, pw_bd h (fun S1 r4 h f2 hW3 => ?_)⟩
    rcases r4 with r6 | e7
    · replace h := pw_ei h
      conv => whnf
      exact ⟨Nat.le_of_ble_eq_true rfl, Nat.le_of_ble_eq_true rfl, ⟨_, rfl⟩, _, fun _ _ h9 => h9, pw_ps h _ hW3⟩
    · exact (pw_pn h).elim
  · conv => whnf
    exact ⟨Nat.le_of_ble_eq_true rfl, Nat.le_of_ble_eq_true rfl, ⟨_, rfl⟩, _, fun _ _ h9 => h9, pw_ps h _ hW⟩
