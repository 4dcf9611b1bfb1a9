theorem dL_areColumns_0 : decode cL_areColumns 0 = .ok (.iconst 1, 1) := by decide +kernel
theorem dL_areColumns_1 : decode cL_areColumns 1 = .ok (.istore_n 3, 1) := by decide +kernel
theorem dL_areColumns_2 : decode cL_areColumns 2 = .ok (.iconst 0, 1) := by decide +kernel
theorem dL_areColumns_3 : decode cL_areColumns 3 = .ok (.istore 4, 2) := by decide +kernel
theorem dL_areColumns_5 : decode cL_areColumns 5 = .ok (.iload 4, 2) := by decide +kernel
theorem dL_areColumns_7 : decode cL_areColumns 7 = .ok (.aload_n 2, 1) := by decide +kernel
theorem dL_areColumns_8 : decode cL_areColumns 8 = .ok (.iconst 1, 1) := by decide +kernel
theorem dL_areColumns_9 : decode cL_areColumns 9 = .ok (.iaload, 1) := by decide +kernel
theorem dL_areColumns_10 : decode cL_areColumns 10 = .ok (.if_icmp .ge 335, 3) := by decide +kernel
theorem dL_areColumns_13 : decode cL_areColumns 13 = .ok (.iload_n 3, 1) := by decide +kernel
theorem dL_areColumns_14 : decode cL_areColumns 14 = .ok (.ifCond .eq 331, 3) := by decide +kernel
theorem dL_areColumns_17 : decode cL_areColumns 17 = .ok (.aload_n 1, 1) := by decide +kernel
theorem dL_areColumns_18 : decode cL_areColumns 18 = .ok (.iload 4, 2) := by decide +kernel
theorem dL_areColumns_20 : decode cL_areColumns 20 = .ok (.iaload, 1) := by decide +kernel
theorem dL_areColumns_21 : decode cL_areColumns 21 = .ok (.iconst 0, 1) := by decide +kernel
theorem dL_areColumns_22 : decode cL_areColumns 22 = .ok (.iconst 1, 1) := by decide +kernel
theorem dL_areColumns_23 : decode cL_areColumns 23 = .ok (.invokestatic 127, 3) := by decide +kernel
theorem dL_areColumns_26 : decode cL_areColumns 26 = .ok (.istore 5, 2) := by decide +kernel
theorem dL_areColumns_28 : decode cL_areColumns 28 = .ok (.aload_n 1, 1) := by decide +kernel
theorem dL_areColumns_29 : decode cL_areColumns 29 = .ok (.iload 4, 2) := by decide +kernel
theorem dL_areColumns_31 : decode cL_areColumns 31 = .ok (.iaload, 1) := by decide +kernel
theorem dL_areColumns_32 : decode cL_areColumns 32 = .ok (.iconst 1, 1) := by decide +kernel
theorem dL_areColumns_33 : decode cL_areColumns 33 = .ok (.iconst 2, 1) := by decide +kernel
theorem dL_areColumns_34 : decode cL_areColumns 34 = .ok (.invokestatic 127, 3) := by decide +kernel
theorem dL_areColumns_37 : decode cL_areColumns 37 = .ok (.istore 6, 2) := by decide +kernel
theorem dL_areColumns_39 : decode cL_areColumns 39 = .ok (.aload_n 1, 1) := by decide +kernel
theorem dL_areColumns_40 : decode cL_areColumns 40 = .ok (.iload 4, 2) := by decide +kernel
theorem dL_areColumns_42 : decode cL_areColumns 42 = .ok (.iaload, 1) := by decide +kernel
theorem dL_areColumns_43 : decode cL_areColumns 43 = .ok (.iconst 3, 1) := by decide +kernel
theorem dL_areColumns_44 : decode cL_areColumns 44 = .ok (.iconst 3, 1) := by decide +kernel
theorem dL_areColumns_45 : decode cL_areColumns 45 = .ok (.invokestatic 127, 3) := by decide +kernel
theorem dL_areColumns_48 : decode cL_areColumns 48 = .ok (.istore 7, 2) := by decide +kernel
theorem dL_areColumns_50 : decode cL_areColumns 50 = .ok (.aload_n 1, 1) := by decide +kernel
theorem dL_areColumns_51 : decode cL_areColumns 51 = .ok (.iload 4, 2) := by decide +kernel
theorem dL_areColumns_53 : decode cL_areColumns 53 = .ok (.iaload, 1) := by decide +kernel
theorem dL_areColumns_54 : decode cL_areColumns 54 = .ok (.bipush 6, 2) := by decide +kernel
theorem dL_areColumns_56 : decode cL_areColumns 56 = .ok (.iconst 3, 1) := by decide +kernel
theorem dL_areColumns_57 : decode cL_areColumns 57 = .ok (.invokestatic 127, 3) := by decide +kernel
theorem dL_areColumns_60 : decode cL_areColumns 60 = .ok (.istore 8, 2) := by decide +kernel
theorem dL_areColumns_62 : decode cL_areColumns 62 = .ok (.iconst 0, 1) := by decide +kernel
theorem dL_areColumns_63 : decode cL_areColumns 63 = .ok (.istore 9, 2) := by decide +kernel
theorem dL_areColumns_65 : decode cL_areColumns 65 = .ok (.iload 9, 2) := by decide +kernel
theorem dL_areColumns_67 : decode cL_areColumns 67 = .ok (.aload_n 2, 1) := by decide +kernel
theorem dL_areColumns_68 : decode cL_areColumns 68 = .ok (.iconst 5, 1) := by decide +kernel
theorem dL_areColumns_69 : decode cL_areColumns 69 = .ok (.bipush 6, 2) := by decide +kernel
theorem dL_areColumns_71 : decode cL_areColumns 71 = .ok (.iload 5, 2) := by decide +kernel
theorem dL_areColumns_73 : decode cL_areColumns 73 = .ok (.imul, 1) := by decide +kernel
theorem dL_areColumns_74 : decode cL_areColumns 74 = .ok (.iadd, 1) := by decide +kernel
theorem dL_areColumns_75 : decode cL_areColumns 75 = .ok (.iaload, 1) := by decide +kernel
theorem dL_areColumns_76 : decode cL_areColumns 76 = .ok (.if_icmp .ge 231, 3) := by decide +kernel
theorem dL_areColumns_79 : decode cL_areColumns 79 = .ok (.iload_n 3, 1) := by decide +kernel
theorem dL_areColumns_80 : decode cL_areColumns 80 = .ok (.ifCond .eq 227, 3) := by decide +kernel
theorem dL_areColumns_83 : decode cL_areColumns 83 = .ok (.ldc 119, 2) := by decide +kernel
theorem dL_areColumns_85 : decode cL_areColumns 85 = .ok (.istore 10, 2) := by decide +kernel
theorem dL_areColumns_87 : decode cL_areColumns 87 = .ok (.aload_n 0, 1) := by decide +kernel
theorem dL_areColumns_88 : decode cL_areColumns 88 = .ok (.iload 5, 2) := by decide +kernel
theorem dL_areColumns_90 : decode cL_areColumns 90 = .ok (.iload 9, 2) := by decide +kernel
theorem dL_areColumns_92 : decode cL_areColumns 92 = .ok (.iload 7, 2) := by decide +kernel
theorem dL_areColumns_94 : decode cL_areColumns 94 = .ok (.invokestatic 130, 3) := by decide +kernel
theorem dL_areColumns_97 : decode cL_areColumns 97 = .ok (.istore 11, 2) := by decide +kernel
theorem dL_areColumns_99 : decode cL_areColumns 99 = .ok (.aload_n 0, 1) := by decide +kernel
theorem dL_areColumns_100 : decode cL_areColumns 100 = .ok (.iload 5, 2) := by decide +kernel
theorem dL_areColumns_102 : decode cL_areColumns 102 = .ok (.iload 9, 2) := by decide +kernel
theorem dL_areColumns_104 : decode cL_areColumns 104 = .ok (.iconst 1, 1) := by decide +kernel
theorem dL_areColumns_105 : decode cL_areColumns 105 = .ok (.isub, 1) := by decide +kernel
theorem dL_areColumns_106 : decode cL_areColumns 106 = .ok (.iload 7, 2) := by decide +kernel
theorem dL_areColumns_108 : decode cL_areColumns 108 = .ok (.invokestatic 130, 3) := by decide +kernel
theorem dL_areColumns_111 : decode cL_areColumns 111 = .ok (.istore 12, 2) := by decide +kernel
theorem dL_areColumns_113 : decode cL_areColumns 113 = .ok (.iload 6, 2) := by decide +kernel
theorem dL_areColumns_115 : decode cL_areColumns 115 = .ok (.ifCond .ne 21, 3) := by decide +kernel
theorem dL_areColumns_118 : decode cL_areColumns 118 = .ok (.aload_n 0, 1) := by decide +kernel
theorem dL_areColumns_119 : decode cL_areColumns 119 = .ok (.iload 5, 2) := by decide +kernel
theorem dL_areColumns_121 : decode cL_areColumns 121 = .ok (.iload 9, 2) := by decide +kernel
theorem dL_areColumns_123 : decode cL_areColumns 123 = .ok (.iload 8, 2) := by decide +kernel
theorem dL_areColumns_125 : decode cL_areColumns 125 = .ok (.isub, 1) := by decide +kernel
theorem dL_areColumns_126 : decode cL_areColumns 126 = .ok (.iload 7, 2) := by decide +kernel
theorem dL_areColumns_128 : decode cL_areColumns 128 = .ok (.invokestatic 130, 3) := by decide +kernel
theorem dL_areColumns_131 : decode cL_areColumns 131 = .ok (.istore 10, 2) := by decide +kernel
theorem dL_areColumns_133 : decode cL_areColumns 133 = .ok (.goto 136, 3) := by decide +kernel
theorem dL_areColumns_136 : decode cL_areColumns 136 = .ok (.iload 6, 2) := by decide +kernel
theorem dL_areColumns_138 : decode cL_areColumns 138 = .ok (.iconst 3, 1) := by decide +kernel
theorem dL_areColumns_139 : decode cL_areColumns 139 = .ok (.if_icmp .ne 32, 3) := by decide +kernel
theorem dL_areColumns_142 : decode cL_areColumns 142 = .ok (.iload 11, 2) := by decide +kernel
theorem dL_areColumns_144 : decode cL_areColumns 144 = .ok (.ldc 119, 2) := by decide +kernel
theorem dL_areColumns_146 : decode cL_areColumns 146 = .ok (.if_icmp .eq 10, 3) := by decide +kernel
theorem dL_areColumns_149 : decode cL_areColumns 149 = .ok (.iload 12, 2) := by decide +kernel
theorem dL_areColumns_151 : decode cL_areColumns 151 = .ok (.ldc 119, 2) := by decide +kernel
theorem dL_areColumns_153 : decode cL_areColumns 153 = .ok (.if_icmp .ne 8, 3) := by decide +kernel
theorem dL_areColumns_156 : decode cL_areColumns 156 = .ok (.ldc 119, 2) := by decide +kernel
theorem dL_areColumns_158 : decode cL_areColumns 158 = .ok (.goto 8, 3) := by decide +kernel
theorem dL_areColumns_161 : decode cL_areColumns 161 = .ok (.iload 11, 2) := by decide +kernel
theorem dL_areColumns_163 : decode cL_areColumns 163 = .ok (.iload 12, 2) := by decide +kernel
theorem dL_areColumns_165 : decode cL_areColumns 165 = .ok (.isub, 1) := by decide +kernel
theorem dL_areColumns_166 : decode cL_areColumns 166 = .ok (.istore 10, 2) := by decide +kernel
theorem dL_areColumns_168 : decode cL_areColumns 168 = .ok (.goto 101, 3) := by decide +kernel
theorem dL_areColumns_171 : decode cL_areColumns 171 = .ok (.iconst 0, 1) := by decide +kernel
theorem dL_areColumns_172 : decode cL_areColumns 172 = .ok (.istore 13, 2) := by decide +kernel
theorem dL_areColumns_174 : decode cL_areColumns 174 = .ok (.iload 13, 2) := by decide +kernel
theorem dL_areColumns_176 : decode cL_areColumns 176 = .ok (.iload 8, 2) := by decide +kernel
theorem dL_areColumns_178 : decode cL_areColumns 178 = .ok (.if_icmp .ge 91, 3) := by decide +kernel
theorem dL_areColumns_181 : decode cL_areColumns 181 = .ok (.iload 9, 2) := by decide +kernel
theorem dL_areColumns_183 : decode cL_areColumns 183 = .ok (.iload 13, 2) := by decide +kernel
theorem dL_areColumns_185 : decode cL_areColumns 185 = .ok (.isub, 1) := by decide +kernel
theorem dL_areColumns_186 : decode cL_areColumns 186 = .ok (.ifCond .ge 8, 3) := by decide +kernel
theorem dL_areColumns_189 : decode cL_areColumns 189 = .ok (.ldc 119, 2) := by decide +kernel
theorem dL_areColumns_191 : decode cL_areColumns 191 = .ok (.goto 16, 3) := by decide +kernel
theorem dL_areColumns_194 : decode cL_areColumns 194 = .ok (.aload_n 0, 1) := by decide +kernel
theorem dL_areColumns_195 : decode cL_areColumns 195 = .ok (.iload 5, 2) := by decide +kernel
theorem dL_areColumns_197 : decode cL_areColumns 197 = .ok (.iload 9, 2) := by decide +kernel
theorem dL_areColumns_199 : decode cL_areColumns 199 = .ok (.iload 13, 2) := by decide +kernel
theorem dL_areColumns_201 : decode cL_areColumns 201 = .ok (.isub, 1) := by decide +kernel
theorem dL_areColumns_202 : decode cL_areColumns 202 = .ok (.iload 7, 2) := by decide +kernel
theorem dL_areColumns_204 : decode cL_areColumns 204 = .ok (.invokestatic 130, 3) := by decide +kernel
theorem dL_areColumns_207 : decode cL_areColumns 207 = .ok (.istore 14, 2) := by decide +kernel
theorem dL_areColumns_209 : decode cL_areColumns 209 = .ok (.iload 14, 2) := by decide +kernel
theorem dL_areColumns_211 : decode cL_areColumns 211 = .ok (.ldc 119, 2) := by decide +kernel
theorem dL_areColumns_213 : decode cL_areColumns 213 = .ok (.if_icmp .ne 8, 3) := by decide +kernel
theorem dL_areColumns_216 : decode cL_areColumns 216 = .ok (.iload 10, 2) := by decide +kernel
theorem dL_areColumns_218 : decode cL_areColumns 218 = .ok (.goto 43, 3) := by decide +kernel
theorem dL_areColumns_221 : decode cL_areColumns 221 = .ok (.iload 10, 2) := by decide +kernel
theorem dL_areColumns_223 : decode cL_areColumns 223 = .ok (.ldc 119, 2) := by decide +kernel
theorem dL_areColumns_225 : decode cL_areColumns 225 = .ok (.if_icmp .ne 8, 3) := by decide +kernel
theorem dL_areColumns_228 : decode cL_areColumns 228 = .ok (.iload 14, 2) := by decide +kernel
theorem dL_areColumns_230 : decode cL_areColumns 230 = .ok (.goto 31, 3) := by decide +kernel
theorem dL_areColumns_233 : decode cL_areColumns 233 = .ok (.iload 6, 2) := by decide +kernel
theorem dL_areColumns_235 : decode cL_areColumns 235 = .ok (.iconst 1, 1) := by decide +kernel
theorem dL_areColumns_236 : decode cL_areColumns 236 = .ok (.if_icmp .ne 11, 3) := by decide +kernel
theorem dL_areColumns_239 : decode cL_areColumns 239 = .ok (.iload 10, 2) := by decide +kernel
theorem dL_areColumns_241 : decode cL_areColumns 241 = .ok (.iload 14, 2) := by decide +kernel
theorem dL_areColumns_243 : decode cL_areColumns 243 = .ok (.iadd, 1) := by decide +kernel
theorem dL_areColumns_244 : decode cL_areColumns 244 = .ok (.goto 17, 3) := by decide +kernel
theorem dL_areColumns_247 : decode cL_areColumns 247 = .ok (.iload 14, 2) := by decide +kernel
theorem dL_areColumns_249 : decode cL_areColumns 249 = .ok (.iload 10, 2) := by decide +kernel
theorem dL_areColumns_251 : decode cL_areColumns 251 = .ok (.if_icmp .le 8, 3) := by decide +kernel
theorem dL_areColumns_254 : decode cL_areColumns 254 = .ok (.iload 14, 2) := by decide +kernel
theorem dL_areColumns_256 : decode cL_areColumns 256 = .ok (.goto 5, 3) := by decide +kernel
theorem dL_areColumns_259 : decode cL_areColumns 259 = .ok (.iload 10, 2) := by decide +kernel
theorem dL_areColumns_261 : decode cL_areColumns 261 = .ok (.istore 10, 2) := by decide +kernel
theorem dL_areColumns_263 : decode cL_areColumns 263 = .ok (.iinc 13 1, 3) := by decide +kernel
theorem dL_areColumns_266 : decode cL_areColumns 266 = .ok (.goto (-92), 3) := by decide +kernel
theorem dL_areColumns_269 : decode cL_areColumns 269 = .ok (.aload_n 0, 1) := by decide +kernel
theorem dL_areColumns_270 : decode cL_areColumns 270 = .ok (.iload 4, 2) := by decide +kernel
theorem dL_areColumns_272 : decode cL_areColumns 272 = .ok (.iload 9, 2) := by decide +kernel
theorem dL_areColumns_274 : decode cL_areColumns 274 = .ok (.invokevirtual 30, 3) := by decide +kernel
theorem dL_areColumns_277 : decode cL_areColumns 277 = .ok (.iload 10, 2) := by decide +kernel
theorem dL_areColumns_279 : decode cL_areColumns 279 = .ok (.if_icmp .ne 20, 3) := by decide +kernel
theorem dL_areColumns_282 : decode cL_areColumns 282 = .ok (.aload_n 0, 1) := by decide +kernel
theorem dL_areColumns_283 : decode cL_areColumns 283 = .ok (.iload 4, 2) := by decide +kernel
theorem dL_areColumns_285 : decode cL_areColumns 285 = .ok (.iload 9, 2) := by decide +kernel
theorem dL_areColumns_287 : decode cL_areColumns 287 = .ok (.invokevirtual 133, 3) := by decide +kernel
theorem dL_areColumns_290 : decode cL_areColumns 290 = .ok (.iload 10, 2) := by decide +kernel
theorem dL_areColumns_292 : decode cL_areColumns 292 = .ok (.if_icmp .ne 7, 3) := by decide +kernel
theorem dL_areColumns_295 : decode cL_areColumns 295 = .ok (.iconst 1, 1) := by decide +kernel
theorem dL_areColumns_296 : decode cL_areColumns 296 = .ok (.goto 4, 3) := by decide +kernel
theorem dL_areColumns_299 : decode cL_areColumns 299 = .ok (.iconst 0, 1) := by decide +kernel
theorem dL_areColumns_300 : decode cL_areColumns 300 = .ok (.istore_n 3, 1) := by decide +kernel
theorem dL_areColumns_301 : decode cL_areColumns 301 = .ok (.iinc 9 1, 3) := by decide +kernel
theorem dL_areColumns_304 : decode cL_areColumns 304 = .ok (.goto (-239), 3) := by decide +kernel
theorem dL_areColumns_307 : decode cL_areColumns 307 = .ok (.iload_n 3, 1) := by decide +kernel
theorem dL_areColumns_308 : decode cL_areColumns 308 = .ok (.ifCond .eq 29, 3) := by decide +kernel
theorem dL_areColumns_311 : decode cL_areColumns 311 = .ok (.aload_n 0, 1) := by decide +kernel
theorem dL_areColumns_312 : decode cL_areColumns 312 = .ok (.iconst 5, 1) := by decide +kernel
theorem dL_areColumns_313 : decode cL_areColumns 313 = .ok (.iload 4, 2) := by decide +kernel
theorem dL_areColumns_315 : decode cL_areColumns 315 = .ok (.aload_n 2, 1) := by decide +kernel
theorem dL_areColumns_316 : decode cL_areColumns 316 = .ok (.iconst 5, 1) := by decide +kernel
theorem dL_areColumns_317 : decode cL_areColumns 317 = .ok (.bipush 6, 2) := by decide +kernel
theorem dL_areColumns_319 : decode cL_areColumns 319 = .ok (.iload 5, 2) := by decide +kernel
theorem dL_areColumns_321 : decode cL_areColumns 321 = .ok (.imul, 1) := by decide +kernel
theorem dL_areColumns_322 : decode cL_areColumns 322 = .ok (.iadd, 1) := by decide +kernel
theorem dL_areColumns_323 : decode cL_areColumns 323 = .ok (.iaload, 1) := by decide +kernel
theorem dL_areColumns_324 : decode cL_areColumns 324 = .ok (.iconst 0, 1) := by decide +kernel
theorem dL_areColumns_325 : decode cL_areColumns 325 = .ok (.invokestatic 52, 3) := by decide +kernel
theorem dL_areColumns_328 : decode cL_areColumns 328 = .ok (.ldc 39, 2) := by decide +kernel
theorem dL_areColumns_330 : decode cL_areColumns 330 = .ok (.if_icmp .ne 7, 3) := by decide +kernel
theorem dL_areColumns_333 : decode cL_areColumns 333 = .ok (.iconst 1, 1) := by decide +kernel
theorem dL_areColumns_334 : decode cL_areColumns 334 = .ok (.goto 4, 3) := by decide +kernel
theorem dL_areColumns_337 : decode cL_areColumns 337 = .ok (.iconst 0, 1) := by decide +kernel
theorem dL_areColumns_338 : decode cL_areColumns 338 = .ok (.istore_n 3, 1) := by decide +kernel
theorem dL_areColumns_339 : decode cL_areColumns 339 = .ok (.iinc 4 1, 3) := by decide +kernel
theorem dL_areColumns_342 : decode cL_areColumns 342 = .ok (.goto (-337), 3) := by decide +kernel
theorem dL_areColumns_345 : decode cL_areColumns 345 = .ok (.iload_n 3, 1) := by decide +kernel
theorem dL_areColumns_346 : decode cL_areColumns 346 = .ok (.ireturn, 1) := by decide +kernel
def is_L_areColumns (Rt : np_Rt) : List (Nat × np_Op) := [(0, np_push 1 (.int 1)), (1, nw_ist 1 3), (2, np_push 1 (.int 0)), (3, nw_ist 2 4), (5, np_ild 2 4), (7, np_ald 1 2), (8, np_push 1 (.int 1)), (9, nw_ialdT .int), (10, nq_ic (fun x y => y ≤ x) 345), (13, np_ild 1 3), (14, nq_if (fun x => x = 0) 345), (17, np_ald 1 1), (18, np_ild 2 4), (20, nw_ialdT .int), (21, np_push 1 (.int 0)), (22, np_push 1 (.int 1)), (23, nq_call 3 sp_L_part 3 0 0 777 4662), (26, nw_ist 2 5), (28, np_ald 1 1), (29, np_ild 2 4), (31, nw_ialdT .int), (32, np_push 1 (.int 1)), (33, np_push 1 (.int 2)), (34, nq_call 3 sp_L_part 3 0 0 777 4662), (37, nw_ist 2 6), (39, np_ald 1 1), (40, np_ild 2 4), (42, nw_ialdT .int), (43, np_push 1 (.int 3)), (44, np_push 1 (.int 3)), (45, nq_call 3 sp_L_part 3 0 0 777 4662), (48, nw_ist 2 7), (50, np_ald 1 1), (51, np_ild 2 4), (53, nw_ialdT .int), (54, np_push 2 (.int 6)), (56, np_push 1 (.int 3)), (57, nq_call 3 sp_L_part 3 0 0 777 4662), (60, nw_ist 2 8), (62, np_push 1 (.int 0)), (63, nw_ist 2 9), (65, np_ild 2 9), (67, np_ald 1 2), (68, np_push 1 (.int 5)), (69, np_push 2 (.int 6)), (71, np_ild 2 5), (73, np_ib (fun x y => x * y)), (74, np_ib (fun x y => x + y)), (75, nw_ialdT .int), (76, nq_ic (fun x y => y ≤ x) 307), (79, np_ild 1 3), (80, nq_if (fun x => x = 0) 307), (83, np_push 2 (.int (-2147483648))), (85, nw_ist 2 10), (87, np_ald 1 0), (88, np_ild 2 5), (90, np_ild 2 9), (92, np_ild 2 7), (94, nq_call 4 sp_L_cell 4 1 6 777 4662), (97, nw_ist 2 11), (99, np_ald 1 0), (100, np_ild 2 5), (102, np_ild 2 9), (104, np_push 1 (.int 1)), (105, np_ib (fun x y => x - y)), (106, np_ild 2 7), (108, nq_call 4 sp_L_cell 4 1 6 777 4662), (111, nw_ist 2 12), (113, np_ild 2 6), (115, nq_ifne 136), (118, np_ald 1 0), (119, np_ild 2 5), (121, np_ild 2 9), (123, np_ild 2 8), (125, np_ib (fun x y => x - y)), (126, np_ild 2 7), (128, nq_call 4 sp_L_cell 4 1 6 777 4662), (131, nw_ist 2 10), (133, np_goto 269), (136, np_ild 2 6), (138, np_push 1 (.int 3)), (139, nq_icne 171), (142, np_ild 2 11), (144, np_push 2 (.int (-2147483648))), (146, nq_ic (fun x y => x = y) 156), (149, np_ild 2 12), (151, np_push 2 (.int (-2147483648))), (153, nq_icne 161), (156, np_push 2 (.int (-2147483648))), (158, np_goto 166), (161, np_ild 2 11), (163, np_ild 2 12), (165, np_ib (fun x y => x - y)), (166, nw_ist 2 10), (168, np_goto 269), (171, np_push 1 (.int 0)), (172, nw_ist 2 13), (174, np_ild 2 13), (176, np_ild 2 8), (178, nq_ic (fun x y => y ≤ x) 269), (181, np_ild 2 9), (183, np_ild 2 13), (185, np_ib (fun x y => x - y)), (186, nq_if (fun x => 0 ≤ x) 194), (189, np_push 2 (.int (-2147483648))), (191, np_goto 207), (194, np_ald 1 0), (195, np_ild 2 5), (197, np_ild 2 9), (199, np_ild 2 13), (201, np_ib (fun x y => x - y)), (202, np_ild 2 7), (204, nq_call 4 sp_L_cell 4 1 6 777 4662), (207, nw_ist 2 14), (209, np_ild 2 14), (211, np_push 2 (.int (-2147483648))), (213, nq_icne 221), (216, np_ild 2 10), (218, np_goto 261), (221, np_ild 2 10), (223, np_push 2 (.int (-2147483648))), (225, nq_icne 233), (228, np_ild 2 14), (230, np_goto 261), (233, np_ild 2 6), (235, np_push 1 (.int 1)), (236, nq_icne 247), (239, np_ild 2 10), (241, np_ild 2 14), (243, np_ib (fun x y => x + y)), (244, np_goto 261), (247, np_ild 2 14), (249, np_ild 2 10), (251, nq_ic (fun x y => x ≤ y) 259), (254, np_ild 2 14), (256, np_goto 261), (259, np_ild 2 10), (261, nw_ist 2 10), (263, nw_iinc 13 1), (266, np_goto 174), (269, np_ald 1 0), (270, np_ild 2 4), (272, np_ild 2 9), (274, nw_callVX 11 3 sp_X11_derived 4 1 6 777 4662 []), (277, np_ild 2 10), (279, nq_icne 299), (282, np_ald 1 0), (283, np_ild 2 4), (285, np_ild 2 9), (287, nw_callVX 11 3 sp_X11_derivedByBatch 4 1 6 777 4662 []), (290, np_ild 2 10), (292, nq_icne 299), (295, np_push 1 (.int 1)), (296, np_goto 300), (299, np_push 1 (.int 0)), (300, nw_ist 1 3), (301, nw_iinc 9 1), (304, np_goto 65), (307, np_ild 1 3), (308, nq_if (fun x => x = 0) 337), (311, np_ald 1 0), (312, np_push 1 (.int 5)), (313, np_ild 2 4), (315, np_ald 1 2), (316, np_push 1 (.int 5)), (317, np_push 2 (.int 6)), (319, np_ild 2 5), (321, np_ib (fun x y => x * y)), (322, np_ib (fun x y => x + y)), (323, nw_ialdT .int), (324, np_push 1 (.int 0)), (325, nq_call 5 sp_L_asks 6 1 6 777 4662), (328, np_push 2 (.int (-70007))), (330, nq_icne 337), (333, np_push 1 (.int 1)), (334, np_goto 338), (337, np_push 1 (.int 0)), (338, nw_ist 1 3), (339, nw_iinc 4 1), (342, np_goto 5), (345, np_ild 1 3), (346, np_ret Rt)]
set_option maxRecDepth 20000 in
theorem so_L_areColumns {X : np_Ctx} {Rt : np_Rt} (hX : np_ok RL cL_areColumns 15 9 250 777 4662 .ireturn X) (hR : ∀ st w ce sl, Rt st w ce sl → X.2.2.1 st w ce sl) : ∀ q ∈ is_L_areColumns Rt, np_S X q.1 q.2 :=
  List.forall_mem_cons.mpr ⟨np_s_iconst hX dL_areColumns_0 (by decide), List.forall_mem_cons.mpr ⟨np_S.mono (op := np_ist 1 3) (np_s_istore_n hX dL_areColumns_1 rfl (by decide)) nw_ist_le, List.forall_mem_cons.mpr ⟨np_s_iconst hX dL_areColumns_2 (by decide), List.forall_mem_cons.mpr ⟨np_S.mono (op := np_ist 2 4) (np_s_istore hX dL_areColumns_3 (by decide)) nw_ist_le, List.forall_mem_cons.mpr ⟨np_s_iload hX dL_areColumns_5, List.forall_mem_cons.mpr ⟨np_s_aload_n hX dL_areColumns_7 rfl, List.forall_mem_cons.mpr ⟨np_s_iconst hX dL_areColumns_8 (by decide), List.forall_mem_cons.mpr ⟨np_S.mono (op := np_ialdT .int) (np_s_iald hX dL_areColumns_9) nw_ialdT_le, List.forall_mem_cons.mpr ⟨np_S.mono (op := np_ic (fun x y => y ≤ x) 345) (np_s_icmp_ge hX dL_areColumns_10 (by decide)) nq_ic_le, List.forall_mem_cons.mpr ⟨np_s_iload_n hX dL_areColumns_13 rfl, List.forall_mem_cons.mpr ⟨np_S.mono (op := np_if (fun x => x = 0) 345) (np_s_if_eq hX dL_areColumns_14 (by decide)) nq_if_le, List.forall_mem_cons.mpr ⟨np_s_aload_n hX dL_areColumns_17 rfl, List.forall_mem_cons.mpr ⟨np_s_iload hX dL_areColumns_18, List.forall_mem_cons.mpr ⟨np_S.mono (op := np_ialdT .int) (np_s_iald hX dL_areColumns_20) nw_ialdT_le, List.forall_mem_cons.mpr ⟨np_s_iconst hX dL_areColumns_21 (by decide), List.forall_mem_cons.mpr ⟨np_s_iconst hX dL_areColumns_22 (by decide), List.forall_mem_cons.mpr ⟨np_S.mono (op := np_call 3 sp_L_part 3 0 0 777 4662) (np_s_callS hX C_L_part dL_areColumns_23 gw1499 gw62 gw1497 gw1498 ⟨by decide, by decide, by decide⟩ (by decide) (by decide)) nq_call_le, List.forall_mem_cons.mpr ⟨np_S.mono (op := np_ist 2 5) (np_s_istore hX dL_areColumns_26 (by decide)) nw_ist_le, List.forall_mem_cons.mpr ⟨np_s_aload_n hX dL_areColumns_28 rfl, List.forall_mem_cons.mpr ⟨np_s_iload hX dL_areColumns_29, List.forall_mem_cons.mpr ⟨np_S.mono (op := np_ialdT .int) (np_s_iald hX dL_areColumns_31) nw_ialdT_le, List.forall_mem_cons.mpr ⟨np_s_iconst hX dL_areColumns_32 (by decide), List.forall_mem_cons.mpr ⟨np_s_iconst hX dL_areColumns_33 (by decide), List.forall_mem_cons.mpr ⟨np_S.mono (op := np_call 3 sp_L_part 3 0 0 777 4662) (np_s_callS hX C_L_part dL_areColumns_34 gw1499 gw62 gw1497 gw1498 ⟨by decide, by decide, by decide⟩ (by decide) (by decide)) nq_call_le, List.forall_mem_cons.mpr ⟨np_S.mono (op := np_ist 2 6) (np_s_istore hX dL_areColumns_37 (by decide)) nw_ist_le, List.forall_mem_cons.mpr ⟨np_s_aload_n hX dL_areColumns_39 rfl, List.forall_mem_cons.mpr ⟨np_s_iload hX dL_areColumns_40, List.forall_mem_cons.mpr ⟨np_S.mono (op := np_ialdT .int) (np_s_iald hX dL_areColumns_42) nw_ialdT_le, List.forall_mem_cons.mpr ⟨np_s_iconst hX dL_areColumns_43 (by decide), List.forall_mem_cons.mpr ⟨np_s_iconst hX dL_areColumns_44 (by decide), List.forall_mem_cons.mpr ⟨np_S.mono (op := np_call 3 sp_L_part 3 0 0 777 4662) (np_s_callS hX C_L_part dL_areColumns_45 gw1499 gw62 gw1497 gw1498 ⟨by decide, by decide, by decide⟩ (by decide) (by decide)) nq_call_le, List.forall_mem_cons.mpr ⟨np_S.mono (op := np_ist 2 7) (np_s_istore hX dL_areColumns_48 (by decide)) nw_ist_le, List.forall_mem_cons.mpr ⟨np_s_aload_n hX dL_areColumns_50 rfl, List.forall_mem_cons.mpr ⟨np_s_iload hX dL_areColumns_51, List.forall_mem_cons.mpr ⟨np_S.mono (op := np_ialdT .int) (np_s_iald hX dL_areColumns_53) nw_ialdT_le, List.forall_mem_cons.mpr ⟨np_s_bipush hX dL_areColumns_54 (by decide), List.forall_mem_cons.mpr ⟨np_s_iconst hX dL_areColumns_56 (by decide), List.forall_mem_cons.mpr ⟨np_S.mono (op := np_call 3 sp_L_part 3 0 0 777 4662) (np_s_callS hX C_L_part dL_areColumns_57 gw1499 gw62 gw1497 gw1498 ⟨by decide, by decide, by decide⟩ (by decide) (by decide)) nq_call_le, List.forall_mem_cons.mpr ⟨np_S.mono (op := np_ist 2 8) (np_s_istore hX dL_areColumns_60 (by decide)) nw_ist_le, List.forall_mem_cons.mpr ⟨np_s_iconst hX dL_areColumns_62 (by decide), List.forall_mem_cons.mpr ⟨np_S.mono (op := np_ist 2 9) (np_s_istore hX dL_areColumns_63 (by decide)) nw_ist_le, List.forall_mem_cons.mpr ⟨np_s_iload hX dL_areColumns_65, List.forall_mem_cons.mpr ⟨np_s_aload_n hX dL_areColumns_67 rfl, List.forall_mem_cons.mpr ⟨np_s_iconst hX dL_areColumns_68 (by decide), List.forall_mem_cons.mpr ⟨np_s_bipush hX dL_areColumns_69 (by decide), List.forall_mem_cons.mpr ⟨np_s_iload hX dL_areColumns_71, List.forall_mem_cons.mpr ⟨np_s_imul hX dL_areColumns_73, List.forall_mem_cons.mpr ⟨np_s_iadd hX dL_areColumns_74, List.forall_mem_cons.mpr ⟨np_S.mono (op := np_ialdT .int) (np_s_iald hX dL_areColumns_75) nw_ialdT_le, List.forall_mem_cons.mpr ⟨np_S.mono (op := np_ic (fun x y => y ≤ x) 307) (np_s_icmp_ge hX dL_areColumns_76 (by decide)) nq_ic_le, List.forall_mem_cons.mpr ⟨np_s_iload_n hX dL_areColumns_79 rfl, List.forall_mem_cons.mpr ⟨np_S.mono (op := np_if (fun x => x = 0) 307) (np_s_if_eq hX dL_areColumns_80 (by decide)) nq_if_le, List.forall_mem_cons.mpr ⟨np_s_ldc hX dL_areColumns_83 gw1266, List.forall_mem_cons.mpr ⟨np_S.mono (op := np_ist 2 10) (np_s_istore hX dL_areColumns_85 (by decide)) nw_ist_le, List.forall_mem_cons.mpr ⟨np_s_aload_n hX dL_areColumns_87 rfl, List.forall_mem_cons.mpr ⟨np_s_iload hX dL_areColumns_88, List.forall_mem_cons.mpr ⟨np_s_iload hX dL_areColumns_90, List.forall_mem_cons.mpr ⟨np_s_iload hX dL_areColumns_92, List.forall_mem_cons.mpr ⟨np_S.mono (op := np_call 4 sp_L_cell 4 1 6 777 4662) (np_s_callS hX C_L_cell dL_areColumns_94 gw1502 gw62 gw1500 gw1501 ⟨by decide, by decide, by decide⟩ (by decide) (by decide)) nq_call_le, List.forall_mem_cons.mpr ⟨np_S.mono (op := np_ist 2 11) (np_s_istore hX dL_areColumns_97 (by decide)) nw_ist_le, List.forall_mem_cons.mpr ⟨np_s_aload_n hX dL_areColumns_99 rfl, List.forall_mem_cons.mpr ⟨np_s_iload hX dL_areColumns_100, List.forall_mem_cons.mpr ⟨np_s_iload hX dL_areColumns_102, List.forall_mem_cons.mpr ⟨np_s_iconst hX dL_areColumns_104 (by decide), List.forall_mem_cons.mpr ⟨np_s_isub hX dL_areColumns_105, List.forall_mem_cons.mpr ⟨np_s_iload hX dL_areColumns_106, List.forall_mem_cons.mpr ⟨np_S.mono (op := np_call 4 sp_L_cell 4 1 6 777 4662) (np_s_callS hX C_L_cell dL_areColumns_108 gw1502 gw62 gw1500 gw1501 ⟨by decide, by decide, by decide⟩ (by decide) (by decide)) nq_call_le, List.forall_mem_cons.mpr ⟨np_S.mono (op := np_ist 2 12) (np_s_istore hX dL_areColumns_111 (by decide)) nw_ist_le, List.forall_mem_cons.mpr ⟨np_s_iload hX dL_areColumns_113, List.forall_mem_cons.mpr ⟨np_S.mono (op := np_ifne 136) (np_s_if_ne hX dL_areColumns_115 (by decide)) nq_ifne_le, List.forall_mem_cons.mpr ⟨np_s_aload_n hX dL_areColumns_118 rfl, List.forall_mem_cons.mpr ⟨np_s_iload hX dL_areColumns_119, List.forall_mem_cons.mpr ⟨np_s_iload hX dL_areColumns_121, List.forall_mem_cons.mpr ⟨np_s_iload hX dL_areColumns_123, List.forall_mem_cons.mpr ⟨np_s_isub hX dL_areColumns_125, List.forall_mem_cons.mpr ⟨np_s_iload hX dL_areColumns_126, List.forall_mem_cons.mpr ⟨np_S.mono (op := np_call 4 sp_L_cell 4 1 6 777 4662) (np_s_callS hX C_L_cell dL_areColumns_128 gw1502 gw62 gw1500 gw1501 ⟨by decide, by decide, by decide⟩ (by decide) (by decide)) nq_call_le, List.forall_mem_cons.mpr ⟨np_S.mono (op := np_ist 2 10) (np_s_istore hX dL_areColumns_131 (by decide)) nw_ist_le, List.forall_mem_cons.mpr ⟨np_s_goto hX dL_areColumns_133 (by decide), List.forall_mem_cons.mpr ⟨np_s_iload hX dL_areColumns_136, List.forall_mem_cons.mpr ⟨np_s_iconst hX dL_areColumns_138 (by decide), List.forall_mem_cons.mpr ⟨np_S.mono (op := np_icne 171) (np_s_icmp_ne hX dL_areColumns_139 (by decide)) nq_icne_le, List.forall_mem_cons.mpr ⟨np_s_iload hX dL_areColumns_142, List.forall_mem_cons.mpr ⟨np_s_ldc hX dL_areColumns_144 gw1266, List.forall_mem_cons.mpr ⟨np_S.mono (op := np_ic (fun x y => x = y) 156) (np_s_icmp_eq hX dL_areColumns_146 (by decide)) nq_ic_le, List.forall_mem_cons.mpr ⟨np_s_iload hX dL_areColumns_149, List.forall_mem_cons.mpr ⟨np_s_ldc hX dL_areColumns_151 gw1266, List.forall_mem_cons.mpr ⟨np_S.mono (op := np_icne 161) (np_s_icmp_ne hX dL_areColumns_153 (by decide)) nq_icne_le, List.forall_mem_cons.mpr ⟨np_s_ldc hX dL_areColumns_156 gw1266, List.forall_mem_cons.mpr ⟨np_s_goto hX dL_areColumns_158 (by decide), List.forall_mem_cons.mpr ⟨np_s_iload hX dL_areColumns_161, List.forall_mem_cons.mpr ⟨np_s_iload hX dL_areColumns_163, List.forall_mem_cons.mpr ⟨np_s_isub hX dL_areColumns_165, List.forall_mem_cons.mpr ⟨np_S.mono (op := np_ist 2 10) (np_s_istore hX dL_areColumns_166 (by decide)) nw_ist_le, List.forall_mem_cons.mpr ⟨np_s_goto hX dL_areColumns_168 (by decide), List.forall_mem_cons.mpr ⟨np_s_iconst hX dL_areColumns_171 (by decide), List.forall_mem_cons.mpr ⟨np_S.mono (op := np_ist 2 13) (np_s_istore hX dL_areColumns_172 (by decide)) nw_ist_le, List.forall_mem_cons.mpr ⟨np_s_iload hX dL_areColumns_174, List.forall_mem_cons.mpr ⟨np_s_iload hX dL_areColumns_176, List.forall_mem_cons.mpr ⟨np_S.mono (op := np_ic (fun x y => y ≤ x) 269) (np_s_icmp_ge hX dL_areColumns_178 (by decide)) nq_ic_le, List.forall_mem_cons.mpr ⟨np_s_iload hX dL_areColumns_181, List.forall_mem_cons.mpr ⟨np_s_iload hX dL_areColumns_183, List.forall_mem_cons.mpr ⟨np_s_isub hX dL_areColumns_185, List.forall_mem_cons.mpr ⟨np_S.mono (op := np_if (fun x => 0 ≤ x) 194) (np_s_if_ge hX dL_areColumns_186 (by decide)) nq_if_le, List.forall_mem_cons.mpr ⟨np_s_ldc hX dL_areColumns_189 gw1266, List.forall_mem_cons.mpr ⟨np_s_goto hX dL_areColumns_191 (by decide), List.forall_mem_cons.mpr ⟨np_s_aload_n hX dL_areColumns_194 rfl, List.forall_mem_cons.mpr ⟨np_s_iload hX dL_areColumns_195, List.forall_mem_cons.mpr ⟨np_s_iload hX dL_areColumns_197, List.forall_mem_cons.mpr ⟨np_s_iload hX dL_areColumns_199, List.forall_mem_cons.mpr ⟨np_s_isub hX dL_areColumns_201, List.forall_mem_cons.mpr ⟨np_s_iload hX dL_areColumns_202, List.forall_mem_cons.mpr ⟨np_S.mono (op := np_call 4 sp_L_cell 4 1 6 777 4662) (np_s_callS hX C_L_cell dL_areColumns_204 gw1502 gw62 gw1500 gw1501 ⟨by decide, by decide, by decide⟩ (by decide) (by decide)) nq_call_le, List.forall_mem_cons.mpr ⟨np_S.mono (op := np_ist 2 14) (np_s_istore hX dL_areColumns_207 (by decide)) nw_ist_le, List.forall_mem_cons.mpr ⟨np_s_iload hX dL_areColumns_209, List.forall_mem_cons.mpr ⟨np_s_ldc hX dL_areColumns_211 gw1266, List.forall_mem_cons.mpr ⟨np_S.mono (op := np_icne 221) (np_s_icmp_ne hX dL_areColumns_213 (by decide)) nq_icne_le, List.forall_mem_cons.mpr ⟨np_s_iload hX dL_areColumns_216, List.forall_mem_cons.mpr ⟨np_s_goto hX dL_areColumns_218 (by decide), List.forall_mem_cons.mpr ⟨np_s_iload hX dL_areColumns_221, List.forall_mem_cons.mpr ⟨np_s_ldc hX dL_areColumns_223 gw1266, List.forall_mem_cons.mpr ⟨np_S.mono (op := np_icne 233) (np_s_icmp_ne hX dL_areColumns_225 (by decide)) nq_icne_le, List.forall_mem_cons.mpr ⟨np_s_iload hX dL_areColumns_228, List.forall_mem_cons.mpr ⟨np_s_goto hX dL_areColumns_230 (by decide), List.forall_mem_cons.mpr ⟨np_s_iload hX dL_areColumns_233, List.forall_mem_cons.mpr ⟨np_s_iconst hX dL_areColumns_235 (by decide), List.forall_mem_cons.mpr ⟨np_S.mono (op := np_icne 247) (np_s_icmp_ne hX dL_areColumns_236 (by decide)) nq_icne_le, List.forall_mem_cons.mpr ⟨np_s_iload hX dL_areColumns_239, List.forall_mem_cons.mpr ⟨np_s_iload hX dL_areColumns_241, List.forall_mem_cons.mpr ⟨np_s_iadd hX dL_areColumns_243, List.forall_mem_cons.mpr ⟨np_s_goto hX dL_areColumns_244 (by decide), List.forall_mem_cons.mpr ⟨np_s_iload hX dL_areColumns_247, List.forall_mem_cons.mpr ⟨np_s_iload hX dL_areColumns_249, List.forall_mem_cons.mpr ⟨np_S.mono (op := np_ic (fun x y => x ≤ y) 259) (np_s_icmp_le hX dL_areColumns_251 (by decide)) nq_ic_le, List.forall_mem_cons.mpr ⟨np_s_iload hX dL_areColumns_254, List.forall_mem_cons.mpr ⟨np_s_goto hX dL_areColumns_256 (by decide), List.forall_mem_cons.mpr ⟨np_s_iload hX dL_areColumns_259, List.forall_mem_cons.mpr ⟨np_S.mono (op := np_ist 2 10) (np_s_istore hX dL_areColumns_261 (by decide)) nw_ist_le, List.forall_mem_cons.mpr ⟨np_S.mono (op := np_iinc 13 1) (np_s_iinc hX dL_areColumns_263 (by decide)) nw_iinc_le, List.forall_mem_cons.mpr ⟨np_s_goto hX dL_areColumns_266 (by decide), List.forall_mem_cons.mpr ⟨np_s_aload_n hX dL_areColumns_269 rfl, List.forall_mem_cons.mpr ⟨np_s_iload hX dL_areColumns_270, List.forall_mem_cons.mpr ⟨np_s_iload hX dL_areColumns_272, List.forall_mem_cons.mpr ⟨np_S.mono (op := np_callVX 11 3 sp_X11_derived 4 1 6 777 4662 []) (np_s_callVX hX C_X11_derived dL_areColumns_274 (q := (RX11, TX11, 14)) rfl rfl gw1149 gw63 gw1146 gw1147 gw1148 ⟨by decide, by decide, by decide⟩ (by decide) (by decide) (fun _ h => nomatch h)) (nw_callVX_le2 (ci := 11) (n := 3) (sp := sp_X11_derived) (maxL := 4) (mc := 1) (ms := 6) (RC := 777) (RS := 4662) (hs := [])), List.forall_mem_cons.mpr ⟨np_s_iload hX dL_areColumns_277, List.forall_mem_cons.mpr ⟨np_S.mono (op := np_icne 299) (np_s_icmp_ne hX dL_areColumns_279 (by decide)) nq_icne_le, List.forall_mem_cons.mpr ⟨np_s_aload_n hX dL_areColumns_282 rfl, List.forall_mem_cons.mpr ⟨np_s_iload hX dL_areColumns_283, List.forall_mem_cons.mpr ⟨np_s_iload hX dL_areColumns_285, List.forall_mem_cons.mpr ⟨np_S.mono (op := np_callVX 11 3 sp_X11_derivedByBatch 4 1 6 777 4662 []) (np_s_callVX hX C_X11_derivedByBatch dL_areColumns_287 (q := (RX11, TX11, 14)) rfl rfl gw1506 gw63 gw1503 gw1504 gw1505 ⟨by decide, by decide, by decide⟩ (by decide) (by decide) (fun _ h => nomatch h)) (nw_callVX_le2 (ci := 11) (n := 3) (sp := sp_X11_derivedByBatch) (maxL := 4) (mc := 1) (ms := 6) (RC := 777) (RS := 4662) (hs := [])), List.forall_mem_cons.mpr ⟨np_s_iload hX dL_areColumns_290, List.forall_mem_cons.mpr ⟨np_S.mono (op := np_icne 299) (np_s_icmp_ne hX dL_areColumns_292 (by decide)) nq_icne_le, List.forall_mem_cons.mpr ⟨np_s_iconst hX dL_areColumns_295 (by decide), List.forall_mem_cons.mpr ⟨np_s_goto hX dL_areColumns_296 (by decide), List.forall_mem_cons.mpr ⟨np_s_iconst hX dL_areColumns_299 (by decide), List.forall_mem_cons.mpr ⟨np_S.mono (op := np_ist 1 3) (np_s_istore_n hX dL_areColumns_300 rfl (by decide)) nw_ist_le, List.forall_mem_cons.mpr ⟨np_S.mono (op := np_iinc 9 1) (np_s_iinc hX dL_areColumns_301 (by decide)) nw_iinc_le, List.forall_mem_cons.mpr ⟨np_s_goto hX dL_areColumns_304 (by decide), List.forall_mem_cons.mpr ⟨np_s_iload_n hX dL_areColumns_307 rfl, List.forall_mem_cons.mpr ⟨np_S.mono (op := np_if (fun x => x = 0) 337) (np_s_if_eq hX dL_areColumns_308 (by decide)) nq_if_le, List.forall_mem_cons.mpr ⟨np_s_aload_n hX dL_areColumns_311 rfl, List.forall_mem_cons.mpr ⟨np_s_iconst hX dL_areColumns_312 (by decide), List.forall_mem_cons.mpr ⟨np_s_iload hX dL_areColumns_313, List.forall_mem_cons.mpr ⟨np_s_aload_n hX dL_areColumns_315 rfl, List.forall_mem_cons.mpr ⟨np_s_iconst hX dL_areColumns_316 (by decide), List.forall_mem_cons.mpr ⟨np_s_bipush hX dL_areColumns_317 (by decide), List.forall_mem_cons.mpr ⟨np_s_iload hX dL_areColumns_319, List.forall_mem_cons.mpr ⟨np_s_imul hX dL_areColumns_321, List.forall_mem_cons.mpr ⟨np_s_iadd hX dL_areColumns_322, List.forall_mem_cons.mpr ⟨np_S.mono (op := np_ialdT .int) (np_s_iald hX dL_areColumns_323) nw_ialdT_le, List.forall_mem_cons.mpr ⟨np_s_iconst hX dL_areColumns_324 (by decide), List.forall_mem_cons.mpr ⟨np_S.mono (op := np_call 5 sp_L_asks 6 1 6 777 4662) (np_s_callSW hX C_L_asks dL_areColumns_325 gw931 gw62 gw929 gw930 ⟨by decide, by decide, by decide⟩ (by decide) (by decide)) nq_call_le, List.forall_mem_cons.mpr ⟨np_s_ldc hX dL_areColumns_328 gw1184, List.forall_mem_cons.mpr ⟨np_S.mono (op := np_icne 337) (np_s_icmp_ne hX dL_areColumns_330 (by decide)) nq_icne_le, List.forall_mem_cons.mpr ⟨np_s_iconst hX dL_areColumns_333 (by decide), List.forall_mem_cons.mpr ⟨np_s_goto hX dL_areColumns_334 (by decide), List.forall_mem_cons.mpr ⟨np_s_iconst hX dL_areColumns_337 (by decide), List.forall_mem_cons.mpr ⟨np_S.mono (op := np_ist 1 3) (np_s_istore_n hX dL_areColumns_338 rfl (by decide)) nw_ist_le, List.forall_mem_cons.mpr ⟨np_S.mono (op := np_iinc 4 1) (np_s_iinc hX dL_areColumns_339 (by decide)) nw_iinc_le, List.forall_mem_cons.mpr ⟨np_s_goto hX dL_areColumns_342 (by decide), List.forall_mem_cons.mpr ⟨np_s_iload_n hX dL_areColumns_345 rfl, List.forall_mem_cons.mpr ⟨np_S.mono (op := np_ret X.2.2.1) (np_s_ret hX dL_areColumns_346) (nq_ret_le hR), fun _ h => nomatch h⟩⟩⟩⟩⟩⟩⟩⟩⟩⟩⟩⟩⟩⟩⟩⟩⟩⟩⟩⟩⟩⟩⟩⟩⟩⟩⟩⟩⟩⟩⟩⟩⟩⟩⟩⟩⟩⟩⟩⟩⟩⟩⟩⟩⟩⟩⟩⟩⟩⟩⟩⟩⟩⟩⟩⟩⟩⟩⟩⟩⟩⟩⟩⟩⟩⟩⟩⟩⟩⟩⟩⟩⟩⟩⟩⟩⟩⟩⟩⟩⟩⟩⟩⟩⟩⟩⟩⟩⟩⟩⟩⟩⟩⟩⟩⟩⟩⟩⟩⟩⟩⟩⟩⟩⟩⟩⟩⟩⟩⟩⟩⟩⟩⟩⟩⟩⟩⟩⟩⟩⟩⟩⟩⟩⟩⟩⟩⟩⟩⟩⟩⟩⟩⟩⟩⟩⟩⟩⟩⟩⟩⟩⟩⟩⟩⟩⟩⟩⟩⟩⟩⟩⟩⟩⟩⟩⟩⟩⟩⟩⟩⟩⟩⟩⟩⟩⟩⟩⟩⟩⟩⟩⟩⟩⟩⟩⟩⟩⟩⟩⟩⟩
noncomputable def m_L_areColumns_174 (k269 : pw_S → Nat → Nat → Nat → Nat → Nat → Int32 → Int32 → Int32 → Int32 → Int32 → Int32 → Int32 → pw_R Int32) : Nat → pw_S → Nat → Nat → Nat → Nat → Nat → Int32 → Int32 → Int32 → Int32 → Int32 → Int32 → Int32 → Int32 → pw_R Int32
| 0, _, _, _, _, _, _, _, _, _, _, _, _, _, _ => none
| N + 1, S, v0, va1, vi1, va2, vi2, v4, v5, v6, v7, v8, v9, v10, v13 =>
 if v8 ≤ v13 then
 (k269 S v0 va1 vi1 va2 vi2 v4 v5 v6 v7 v8 v9 v10)
 else
 (if 0 ≤ (v9 - v13) then
 (pw_b (m_L_cell S v0 v5 (v9 - v13) v7) fun S1 r4 =>
 pw_l (r4 : Int32) fun z6 =>
 if z6 = (-2147483648) then
 (pw_l (v10 : Int32) fun z7 =>
 pw_l (v13 + 1 : Int32) fun z8 =>
 m_L_areColumns_174 k269 N S1 v0 va1 vi1 va2 vi2 v4 v5 v6 v7 v8 v9 z7 z8)
 else
 (if v10 = (-2147483648) then
 (pw_l (z6 : Int32) fun z9 =>
 pw_l (v13 + 1 : Int32) fun z10 =>
 m_L_areColumns_174 k269 N S1 v0 va1 vi1 va2 vi2 v4 v5 v6 v7 v8 v9 z9 z10)
 else
 (if v6 = 1 then
 (pw_l ((v10 + z6) : Int32) fun z11 =>
 pw_l (v13 + 1 : Int32) fun z12 =>
 m_L_areColumns_174 k269 N S1 v0 va1 vi1 va2 vi2 v4 v5 v6 v7 v8 v9 z11 z12)
 else
 (if z6 ≤ v10 then
 (pw_l (v10 : Int32) fun z13 =>
 pw_l (v13 + 1 : Int32) fun z14 =>
 m_L_areColumns_174 k269 N S1 v0 va1 vi1 va2 vi2 v4 v5 v6 v7 v8 v9 z13 z14)
 else
 (pw_l (z6 : Int32) fun z15 =>
 pw_l (v13 + 1 : Int32) fun z16 =>
 m_L_areColumns_174 k269 N S1 v0 va1 vi1 va2 vi2 v4 v5 v6 v7 v8 v9 z15 z16)))))
 else
 (pw_l ((-2147483648) : Int32) fun z17 =>
 if z17 = (-2147483648) then
 (pw_l (v10 : Int32) fun z18 =>
 pw_l (v13 + 1 : Int32) fun z19 =>
 m_L_areColumns_174 k269 N S v0 va1 vi1 va2 vi2 v4 v5 v6 v7 v8 v9 z18 z19)
 else
 (if v10 = (-2147483648) then
 (pw_l (z17 : Int32) fun z20 =>
 pw_l (v13 + 1 : Int32) fun z21 =>
 m_L_areColumns_174 k269 N S v0 va1 vi1 va2 vi2 v4 v5 v6 v7 v8 v9 z20 z21)
 else
 (if v6 = 1 then
 (pw_l ((v10 + z17) : Int32) fun z22 =>
 pw_l (v13 + 1 : Int32) fun z23 =>
 m_L_areColumns_174 k269 N S v0 va1 vi1 va2 vi2 v4 v5 v6 v7 v8 v9 z22 z23)
 else
 (if z17 ≤ v10 then
 (pw_l (v10 : Int32) fun z24 =>
 pw_l (v13 + 1 : Int32) fun z25 =>
 m_L_areColumns_174 k269 N S v0 va1 vi1 va2 vi2 v4 v5 v6 v7 v8 v9 z24 z25)
 else
 (pw_l (z17 : Int32) fun z26 =>
 pw_l (v13 + 1 : Int32) fun z27 =>
 m_L_areColumns_174 k269 N S v0 va1 vi1 va2 vi2 v4 v5 v6 v7 v8 v9 z26 z27))))))
set_option maxRecDepth 100000 in
set_option maxHeartbeats 8000000 in
theorem L_L_areColumns_174 {X : np_Ctx} (hX : np_ok RL cL_areColumns 15 9 250 777 4662 .ireturn X) {Q : Option Value → np_W → Prop} {q : Nat} {n dc ds : Nat} (hR : ∀ st w ce sl, np_rt (some .boolean) 777 4662 Q st w ce sl → X.2.2.1 st w ce sl) {k269 : pw_S → Nat → Nat → Nat → Nat → Nat → Int32 → Int32 → Int32 → Int32 → Int32 → Int32 → Int32 → pw_R Int32} (hk269 : ∀ (S : pw_S) (v0 : Nat) (va1 : Nat) (vi1 : Nat) (va2 : Nat) (vi2 : Nat) (v4 : Int32) (v5 : Int32) (v6 : Int32) (v7 : Int32) (v8 : Int32) (v9 : Int32) (v10 : Int32) (f : Nat → Option np_E) (ce sl : Nat) (hv0 : pw_ok q 61 v0 = true) (ha1 : pw_arr va1 = true) (hi1 : pw_ok q va1 vi1 = true) (ha2 : pw_arr va2 = true) (hi2 : pw_ok q va2 vi2 = true), ce + dc ≤ 777 → sl + ds ≤ 4662 → pw_W q (n, f) S → pw_p (k269 S v0 va1 vi1 va2 vi2 v4 v5 v6 v7 v8 v9 v10) (fun S' r => ∀ f', pw_W q (n, f') S' → Q (some (.int r)) (n, f')) → np_G X 269 [(0, .ref (pw_pl 61 v0)), (1, .ref (pw_pl va1 vi1)), (2, .ref (pw_pl va2 vi2)), (4, .int v4), (5, .int v5), (6, .int v6), (7, .int v7), (8, .int v8), (9, .int v9), (10, .int v10)] [] (n, f) ce sl) : ∀ (N : Nat) (S : pw_S) (v0 : Nat) (va1 : Nat) (vi1 : Nat) (va2 : Nat) (vi2 : Nat) (v4 : Int32) (v5 : Int32) (v6 : Int32) (v7 : Int32) (v8 : Int32) (v9 : Int32) (v10 : Int32) (v13 : Int32) (f : Nat → Option np_E) (ce sl : Nat) (hv0 : pw_ok q 61 v0 = true) (ha1 : pw_arr va1 = true) (hi1 : pw_ok q va1 vi1 = true) (ha2 : pw_arr va2 = true) (hi2 : pw_ok q va2 vi2 = true), ce + N * 1 + dc ≤ 777 → sl + N * 6 + ds ≤ 4662 → pw_W q (n, f) S → pw_p (m_L_areColumns_174 k269 N S v0 va1 vi1 va2 vi2 v4 v5 v6 v7 v8 v9 v10 v13) (fun S' r => ∀ f', pw_W q (n, f') S' → Q (some (.int r)) (n, f')) → np_G X 174 [(0, .ref (pw_pl 61 v0)), (1, .ref (pw_pl va1 vi1)), (2, .ref (pw_pl va2 vi2)), (4, .int v4), (5, .int v5), (6, .int v6), (7, .int v7), (8, .int v8), (9, .int v9), (10, .int v10), (13, .int v13)] [] (n, f) ce sl := by
  intro N
  induction N with
  | zero =>
    intro S v0 va1 vi1 va2 vi2 v4 v5 v6 v7 v8 v9 v10 v13 f ce sl hv0 ha1 hi1 ha2 hi2 hc hs hW h
    exact (pw_pn h).elim
  | succ N ih =>
    intro S v0 va1 vi1 va2 vi2 v4 v5 v6 v7 v8 v9 v10 v13 f ce sl hv0 ha1 hi1 ha2 hi2 hc hs hW h
    unfold m_L_areColumns_174 at h
    refine np_soundW (so_L_areColumns hX hR) [5, 65, 174, 269] 400 174 _ _ _ _ _ ?_
    conv => whnf
    refine pw_br h (fun _ h => ?_) (fun _ h => ?_)
    · conv => whnf
      exact np_gl (hk269 S v0 va1 vi1 va2 vi2 v4 v5 v6 v7 v8 v9 v10 f _ _ hv0 ha1 hi1 ha2 hi2 (by omega) (by omega) hW h) ⟨rfl, rfl, rfl, rfl, rfl, rfl, rfl, rfl, rfl, rfl, trivial⟩
    · conv => whnf
      refine pw_br h (fun _ h => ?_) (fun _ h => ?_)
      · conv => whnf
        refine np_chk_i (pw_and rfl (pw_and rfl (pw_and rfl ((pw_and (pw_le (by omega)) (pw_le (by omega))))))) ?_
        conv => whnf
        refine ⟨q, S, v0, v5, (v9 - v13), v7, rfl, hv0, hW, pw_bd h (fun S1 r4 h f2 hW3 => ?_)⟩
        conv => whnf
        refine pw_st h (fun z6 h => ?_)
        conv => whnf
        refine pw_br h (fun _ h => ?_) (fun _ h => ?_)
        · conv => whnf
          refine pw_st h (fun z7 h => ?_)
          conv => whnf
          refine pw_st h (fun z8 h => ?_)
          conv => whnf
          exact np_gl (ih S1 v0 va1 vi1 va2 vi2 v4 v5 v6 v7 v8 v9 z7 z8 f2 _ _ hv0 ha1 hi1 ha2 hi2 (by omega) (by omega) hW3 h) ⟨rfl, rfl, rfl, rfl, rfl, rfl, rfl, rfl, rfl, rfl, rfl, trivial⟩
        · conv => whnf
          refine pw_br h (fun _ h => ?_) (fun _ h => ?_)
          · conv => whnf
            refine pw_st h (fun z9 h => ?_)
            conv => whnf
            refine pw_st h (fun z10 h => ?_)
            conv => whnf
            exact np_gl (ih S1 v0 va1 vi1 va2 vi2 v4 v5 v6 v7 v8 v9 z9 z10 f2 _ _ hv0 ha1 hi1 ha2 hi2 (by omega) (by omega) hW3 h) ⟨rfl, rfl, rfl, rfl, rfl, rfl, rfl, rfl, rfl, rfl, rfl, trivial⟩
          · conv => whnf
            refine pw_br h (fun _ h => ?_) (fun _ h => ?_)
            · conv => whnf
              refine pw_st h (fun z11 h => ?_)
              conv => whnf
              refine pw_st h (fun z12 h => ?_)
              conv => whnf
              exact np_gl (ih S1 v0 va1 vi1 va2 vi2 v4 v5 v6 v7 v8 v9 z11 z12 f2 _ _ hv0 ha1 hi1 ha2 hi2 (by omega) (by omega) hW3 h) ⟨rfl, rfl, rfl, rfl, rfl, rfl, rfl, rfl, rfl, rfl, rfl, trivial⟩
            · conv => whnf
              refine pw_br h (fun _ h => ?_) (fun _ h => ?_)
              · conv => whnf
                refine pw_st h (fun z13 h => ?_)
                conv => whnf
                refine pw_st h (fun z14 h => ?_)
                conv => whnf
                exact np_gl (ih S1 v0 va1 vi1 va2 vi2 v4 v5 v6 v7 v8 v9 z13 z14 f2 _ _ hv0 ha1 hi1 ha2 hi2 (by omega) (by omega) hW3 h) ⟨rfl, rfl, rfl, rfl, rfl, rfl, rfl, rfl, rfl, rfl, rfl, trivial⟩
              · conv => whnf
                refine pw_st h (fun z15 h => ?_)
                conv => whnf
                refine pw_st h (fun z16 h => ?_)
                conv => whnf
                exact np_gl (ih S1 v0 va1 vi1 va2 vi2 v4 v5 v6 v7 v8 v9 z15 z16 f2 _ _ hv0 ha1 hi1 ha2 hi2 (by omega) (by omega) hW3 h) ⟨rfl, rfl, rfl, rfl, rfl, rfl, rfl, rfl, rfl, rfl, rfl, trivial⟩
      · conv => whnf
        refine pw_st h (fun z17 h => ?_)
        conv => whnf
        refine pw_br h (fun _ h => ?_) (fun _ h => ?_)
        · conv => whnf
          refine pw_st h (fun z18 h => ?_)
          conv => whnf
          refine pw_st h (fun z19 h => ?_)
          conv => whnf
          exact np_gl (ih S v0 va1 vi1 va2 vi2 v4 v5 v6 v7 v8 v9 z18 z19 f _ _ hv0 ha1 hi1 ha2 hi2 (by omega) (by omega) hW h) ⟨rfl, rfl, rfl, rfl, rfl, rfl, rfl, rfl, rfl, rfl, rfl, trivial⟩
        · conv => whnf
          refine pw_br h (fun _ h => ?_) (fun _ h => ?_)
          · conv => whnf
            refine pw_st h (fun z20 h => ?_)
            conv => whnf
            refine pw_st h (fun z21 h => ?_)
            conv => whnf
            exact np_gl (ih S v0 va1 vi1 va2 vi2 v4 v5 v6 v7 v8 v9 z20 z21 f _ _ hv0 ha1 hi1 ha2 hi2 (by omega) (by omega) hW h) ⟨rfl, rfl, rfl, rfl, rfl, rfl, rfl, rfl, rfl, rfl, rfl, trivial⟩
          · conv => whnf
            refine pw_br h (fun _ h => ?_) (fun _ h => ?_)
            · conv => whnf
              refine pw_st h (fun z22 h => ?_)
              conv => whnf
              refine pw_st h (fun z23 h => ?_)
              conv => whnf
              exact np_gl (ih S v0 va1 vi1 va2 vi2 v4 v5 v6 v7 v8 v9 z22 z23 f _ _ hv0 ha1 hi1 ha2 hi2 (by omega) (by omega) hW h) ⟨rfl, rfl, rfl, rfl, rfl, rfl, rfl, rfl, rfl, rfl, rfl, trivial⟩
            · conv => whnf
              refine pw_br h (fun _ h => ?_) (fun _ h => ?_)
              · conv => whnf
                refine pw_st h (fun z24 h => ?_)
                conv => whnf
                refine pw_st h (fun z25 h => ?_)
                conv => whnf
                exact np_gl (ih S v0 va1 vi1 va2 vi2 v4 v5 v6 v7 v8 v9 z24 z25 f _ _ hv0 ha1 hi1 ha2 hi2 (by omega) (by omega) hW h) ⟨rfl, rfl, rfl, rfl, rfl, rfl, rfl, rfl, rfl, rfl, rfl, trivial⟩
              · conv => whnf
                refine pw_st h (fun z26 h => ?_)
                conv => whnf
                refine pw_st h (fun z27 h => ?_)
                conv => whnf
                exact np_gl (ih S v0 va1 vi1 va2 vi2 v4 v5 v6 v7 v8 v9 z26 z27 f _ _ hv0 ha1 hi1 ha2 hi2 (by omega) (by omega) hW h) ⟨rfl, rfl, rfl, rfl, rfl, rfl, rfl, rfl, rfl, rfl, rfl, trivial⟩
noncomputable def m_L_areColumns_65 (k307 : pw_S → Nat → Nat → Nat → Nat → Nat → Int32 → Int32 → Int32 → pw_R Int32) : Nat → pw_S → Nat → Nat → Nat → Nat → Nat → Int32 → Int32 → Int32 → Int32 → Int32 → Int32 → Int32 → pw_R Int32
| 0, _, _, _, _, _, _, _, _, _, _, _, _, _ => none
| N + 1, S, v0, va1, vi1, va2, vi2, v3, v4, v5, v6, v7, v8, v9 =>
 pw_c (np_inb (5 + (6 * v5)) (pw_len va2)) <|
 if (S va2 vi2 ((5 + (6 * v5)) : Int32).toNatClampNeg) ≤ v9 then
 (k307 S v0 va1 vi1 va2 vi2 v3 v4 v5)
 else
 (if v3 = 0 then
 (k307 S v0 va1 vi1 va2 vi2 v3 v4 v5)
 else
 (pw_l ((-2147483648) : Int32) fun z28 =>
 pw_b (m_L_cell S v0 v5 v9 v7) fun S29 r32 =>
 pw_l (r32 : Int32) fun z34 =>
 pw_b (m_L_cell S29 v0 v5 (v9 - 1) v7) fun S35 r38 =>
 pw_l (r38 : Int32) fun z40 =>
 if v6 = 0 then
 (pw_b (m_L_cell S35 v0 v5 (v9 - v8) v7) fun S41 r44 =>
 pw_l (r44 : Int32) fun z46 =>
 pw_b (m_X11_derived S41 v0 v4 v9) fun S47 r50 =>
 pw_e r50 (fun r52 =>
 (if r52 = z46 then
 (pw_b (m_X11_derivedByBatch S47 v0 v4 v9) fun S54 r57 =>
 pw_e r57 (fun r59 =>
 (if r59 = z46 then
 (pw_l (1 : Int32) fun z61 =>
 pw_l (v9 + 1 : Int32) fun z62 =>
 m_L_areColumns_65 k307 N S54 v0 va1 vi1 va2 vi2 z61 v4 v5 v6 v7 v8 z62)
 else
 (pw_l (0 : Int32) fun z63 =>
 pw_l (v9 + 1 : Int32) fun z64 =>
 m_L_areColumns_65 k307 N S54 v0 va1 vi1 va2 vi2 z63 v4 v5 v6 v7 v8 z64))) (fun _ => none))
 else
 (pw_l (0 : Int32) fun z65 =>
 pw_l (v9 + 1 : Int32) fun z66 =>
 m_L_areColumns_65 k307 N S47 v0 va1 vi1 va2 vi2 z65 v4 v5 v6 v7 v8 z66))) (fun _ => none))
 else
 (if v6 = 3 then
 (if z34 = (-2147483648) then
 (pw_l ((-2147483648) : Int32) fun z67 =>
 pw_b (m_X11_derived S35 v0 v4 v9) fun S68 r71 =>
 pw_e r71 (fun r73 =>
 (if r73 = z67 then
 (pw_b (m_X11_derivedByBatch S68 v0 v4 v9) fun S75 r78 =>
 pw_e r78 (fun r80 =>
 (if r80 = z67 then
 (pw_l (1 : Int32) fun z82 =>
 pw_l (v9 + 1 : Int32) fun z83 =>
 m_L_areColumns_65 k307 N S75 v0 va1 vi1 va2 vi2 z82 v4 v5 v6 v7 v8 z83)
 else
 (pw_l (0 : Int32) fun z84 =>
 pw_l (v9 + 1 : Int32) fun z85 =>
 m_L_areColumns_65 k307 N S75 v0 va1 vi1 va2 vi2 z84 v4 v5 v6 v7 v8 z85))) (fun _ => none))
 else
 (pw_l (0 : Int32) fun z86 =>
 pw_l (v9 + 1 : Int32) fun z87 =>
 m_L_areColumns_65 k307 N S68 v0 va1 vi1 va2 vi2 z86 v4 v5 v6 v7 v8 z87))) (fun _ => none))
 else
 (if z40 = (-2147483648) then
 (pw_l ((-2147483648) : Int32) fun z88 =>
 pw_b (m_X11_derived S35 v0 v4 v9) fun S89 r92 =>
 pw_e r92 (fun r94 =>
 (if r94 = z88 then
 (pw_b (m_X11_derivedByBatch S89 v0 v4 v9) fun S96 r99 =>
 pw_e r99 (fun r101 =>
 (if r101 = z88 then
 (pw_l (1 : Int32) fun z103 =>
 pw_l (v9 + 1 : Int32) fun z104 =>
 m_L_areColumns_65 k307 N S96 v0 va1 vi1 va2 vi2 z103 v4 v5 v6 v7 v8 z104)
 else
 (pw_l (0 : Int32) fun z105 =>
 pw_l (v9 + 1 : Int32) fun z106 =>
 m_L_areColumns_65 k307 N S96 v0 va1 vi1 va2 vi2 z105 v4 v5 v6 v7 v8 z106))) (fun _ => none))
 else
 (pw_l (0 : Int32) fun z107 =>
 pw_l (v9 + 1 : Int32) fun z108 =>
 m_L_areColumns_65 k307 N S89 v0 va1 vi1 va2 vi2 z107 v4 v5 v6 v7 v8 z108))) (fun _ => none))
 else
 (pw_l ((z34 - z40) : Int32) fun z109 =>
 pw_b (m_X11_derived S35 v0 v4 v9) fun S110 r113 =>
 pw_e r113 (fun r115 =>
 (if r115 = z109 then
 (pw_b (m_X11_derivedByBatch S110 v0 v4 v9) fun S117 r120 =>
 pw_e r120 (fun r122 =>
 (if r122 = z109 then
 (pw_l (1 : Int32) fun z124 =>
 pw_l (v9 + 1 : Int32) fun z125 =>
 m_L_areColumns_65 k307 N S117 v0 va1 vi1 va2 vi2 z124 v4 v5 v6 v7 v8 z125)
 else
 (pw_l (0 : Int32) fun z126 =>
 pw_l (v9 + 1 : Int32) fun z127 =>
 m_L_areColumns_65 k307 N S117 v0 va1 vi1 va2 vi2 z126 v4 v5 v6 v7 v8 z127))) (fun _ => none))
 else
 (pw_l (0 : Int32) fun z128 =>
 pw_l (v9 + 1 : Int32) fun z129 =>
 m_L_areColumns_65 k307 N S110 v0 va1 vi1 va2 vi2 z128 v4 v5 v6 v7 v8 z129))) (fun _ => none))))
 else
 (pw_l (0 : Int32) fun z130 =>
 m_L_areColumns_174
 (fun S148 u131 u133 u134 u137 u138 u141 u142 u143 u144 u145 u146 u147 =>
 (pw_b (m_X11_derived S148 u131 u141 u146) fun S151 r154 =>
 pw_e r154 (fun r156 =>
 (if r156 = u147 then
 (pw_b (m_X11_derivedByBatch S151 u131 u141 u146) fun S158 r161 =>
 pw_e r161 (fun r163 =>
 (if r163 = u147 then
 (pw_l (1 : Int32) fun z165 =>
 pw_l (u146 + 1 : Int32) fun z166 =>
 m_L_areColumns_65 k307 N S158 u131 u133 u134 u137 u138 z165 u141 u142 u143 u144 u145 z166)
 else
 (pw_l (0 : Int32) fun z167 =>
 pw_l (u146 + 1 : Int32) fun z168 =>
 m_L_areColumns_65 k307 N S158 u131 u133 u134 u137 u138 z167 u141 u142 u143 u144 u145 z168))) (fun _ => none))
 else
 (pw_l (0 : Int32) fun z169 =>
 pw_l (u146 + 1 : Int32) fun z170 =>
 m_L_areColumns_65 k307 N S151 u131 u133 u134 u137 u138 z169 u141 u142 u143 u144 u145 z170))) (fun _ => none))) (pw_F 6) S35 v0 va1 vi1 va2 vi2 v4 v5 v6 v7 v8 v9 z28 z130))))
set_option maxRecDepth 100000 in
set_option maxHeartbeats 8000000 in
theorem L_L_areColumns_65 {X : np_Ctx} (hX : np_ok RL cL_areColumns 15 9 250 777 4662 .ireturn X) {Q : Option Value → np_W → Prop} {q : Nat} {n dc ds : Nat} (hR : ∀ st w ce sl, np_rt (some .boolean) 777 4662 Q st w ce sl → X.2.2.1 st w ce sl) {k307 : pw_S → Nat → Nat → Nat → Nat → Nat → Int32 → Int32 → Int32 → pw_R Int32} (hk307 : ∀ (S : pw_S) (v0 : Nat) (va1 : Nat) (vi1 : Nat) (va2 : Nat) (vi2 : Nat) (v3 : Int32) (v4 : Int32) (v5 : Int32) (f : Nat → Option np_E) (ce sl : Nat) (hv0 : pw_ok q 61 v0 = true) (ha1 : pw_arr va1 = true) (hi1 : pw_ok q va1 vi1 = true) (ha2 : pw_arr va2 = true) (hi2 : pw_ok q va2 vi2 = true), ce + dc ≤ 777 → sl + ds ≤ 4662 → pw_W q (n, f) S → pw_p (k307 S v0 va1 vi1 va2 vi2 v3 v4 v5) (fun S' r => ∀ f', pw_W q (n, f') S' → Q (some (.int r)) (n, f')) → np_G X 307 [(0, .ref (pw_pl 61 v0)), (1, .ref (pw_pl va1 vi1)), (2, .ref (pw_pl va2 vi2)), (3, .int v3), (4, .int v4), (5, .int v5)] [] (n, f) ce sl) : ∀ (N : Nat) (S : pw_S) (v0 : Nat) (va1 : Nat) (vi1 : Nat) (va2 : Nat) (vi2 : Nat) (v3 : Int32) (v4 : Int32) (v5 : Int32) (v6 : Int32) (v7 : Int32) (v8 : Int32) (v9 : Int32) (f : Nat → Option np_E) (ce sl : Nat) (hv0 : pw_ok q 61 v0 = true) (ha1 : pw_arr va1 = true) (hi1 : pw_ok q va1 vi1 = true) (ha2 : pw_arr va2 = true) (hi2 : pw_ok q va2 vi2 = true), ce + N * 10 + dc ≤ 777 → sl + N * 60 + ds ≤ 4662 → pw_W q (n, f) S → pw_p (m_L_areColumns_65 k307 N S v0 va1 vi1 va2 vi2 v3 v4 v5 v6 v7 v8 v9) (fun S' r => ∀ f', pw_W q (n, f') S' → Q (some (.int r)) (n, f')) → np_G X 65 [(0, .ref (pw_pl 61 v0)), (1, .ref (pw_pl va1 vi1)), (2, .ref (pw_pl va2 vi2)), (3, .int v3), (4, .int v4), (5, .int v5), (6, .int v6), (7, .int v7), (8, .int v8), (9, .int v9)] [] (n, f) ce sl := by
  intro N
  induction N with
  | zero =>
    intro S v0 va1 vi1 va2 vi2 v3 v4 v5 v6 v7 v8 v9 f ce sl hv0 ha1 hi1 ha2 hi2 hc hs hW h
    exact (pw_pn h).elim
  | succ N ih =>
    intro S v0 va1 vi1 va2 vi2 v3 v4 v5 v6 v7 v8 v9 f ce sl hv0 ha1 hi1 ha2 hi2 hc hs hW h
    unfold m_L_areColumns_65 at h
    refine np_soundW (so_L_areColumns hX hR) [5, 65, 174, 307] 400 65 _ _ _ _ _ ?_
    conv => whnf
    refine np_rd_i (hW.ga ha2 hi2) ?_
    conv => whnf
    refine pw_ck h (fun _ h => ?_)
    conv => whnf
    refine pw_br h (fun _ h => ?_) (fun _ h => ?_)
    · conv => whnf
      exact np_gl (hk307 S v0 va1 vi1 va2 vi2 v3 v4 v5 f _ _ hv0 ha1 hi1 ha2 hi2 (by omega) (by omega) hW h) ⟨rfl, rfl, rfl, rfl, rfl, rfl, trivial⟩
    · conv => whnf
      refine pw_br h (fun _ h => ?_) (fun _ h => ?_)
      · conv => whnf
        exact np_gl (hk307 S v0 va1 vi1 va2 vi2 v3 v4 v5 f _ _ hv0 ha1 hi1 ha2 hi2 (by omega) (by omega) hW h) ⟨rfl, rfl, rfl, rfl, rfl, rfl, trivial⟩
      · conv => whnf
        refine pw_st h (fun z28 h => ?_)
        conv => whnf
        refine np_chk_i (pw_and rfl (pw_and rfl (pw_and rfl ((pw_and (pw_le (by omega)) (pw_le (by omega))))))) ?_
        conv => whnf
        refine ⟨q, S, v0, v5, v9, v7, rfl, hv0, hW, pw_bd h (fun S29 r32 h f30 hW31 => ?_)⟩
        conv => whnf
        refine pw_st h (fun z34 h => ?_)
        conv => whnf
        refine np_chk_i (pw_and rfl (pw_and rfl (pw_and rfl ((pw_and (pw_le (by omega)) (pw_le (by omega))))))) ?_
        conv => whnf
        refine ⟨q, S29, v0, v5, (v9 - 1), v7, rfl, hv0, hW31, pw_bd h (fun S35 r38 h f36 hW37 => ?_)⟩
        conv => whnf
        refine pw_st h (fun z40 h => ?_)
        conv => whnf
        refine pw_br h (fun _ h => ?_) (fun _ h => ?_)
        · conv => whnf
          refine np_chk_i (pw_and rfl (pw_and rfl (pw_and rfl ((pw_and (pw_le (by omega)) (pw_le (by omega))))))) ?_
          conv => whnf
          refine ⟨q, S35, v0, v5, (v9 - v8), v7, rfl, hv0, hW37, pw_bd h (fun S41 r44 h f42 hW43 => ?_)⟩
          conv => whnf
          refine pw_st h (fun z46 h => ?_)
          conv => whnf
          refine np_rd_i (hW43.g hv0) ?_
          conv => whnf
          refine np_chk_i (pw_and rfl (pw_and rfl (pw_and rfl (pw_and rfl ((pw_and (pw_le (by omega)) (pw_le (by omega)))))))) ?_
          conv => whnf
          refine ⟨q, S41, v0, v4, v9, rfl, hv0, hW43, pw_bd h (fun S47 r50 h f48 hW49 => ?_)⟩
          rcases r50 with r52 | e53
          · replace h := pw_ei h
            conv => whnf
            refine pw_br h (fun _ h => ?_) (fun _ h => ?_)
            · conv => whnf
              refine np_rd_i (hW49.g hv0) ?_
              conv => whnf
              refine np_chk_i (pw_and rfl (pw_and rfl (pw_and rfl (pw_and rfl ((pw_and (pw_le (by omega)) (pw_le (by omega)))))))) ?_
              conv => whnf
              refine ⟨q, S47, v0, v4, v9, rfl, hv0, hW49, pw_bd h (fun S54 r57 h f55 hW56 => ?_)⟩
              rcases r57 with r59 | e60
              · replace h := pw_ei h
                conv => whnf
                refine pw_br h (fun _ h => ?_) (fun _ h => ?_)
                · conv => whnf
                  refine pw_st h (fun z61 h => ?_)
                  conv => whnf
                  refine pw_st h (fun z62 h => ?_)
                  conv => whnf
                  exact np_gl (ih S54 v0 va1 vi1 va2 vi2 z61 v4 v5 v6 v7 v8 z62 f55 _ _ hv0 ha1 hi1 ha2 hi2 (by omega) (by omega) hW56 h) ⟨rfl, rfl, rfl, rfl, rfl, rfl, rfl, rfl, rfl, rfl, trivial⟩
                · conv => whnf
                  refine pw_st h (fun z63 h => ?_)
                  conv => whnf
                  refine pw_st h (fun z64 h => ?_)
                  conv => whnf
                  exact np_gl (ih S54 v0 va1 vi1 va2 vi2 z63 v4 v5 v6 v7 v8 z64 f55 _ _ hv0 ha1 hi1 ha2 hi2 (by omega) (by omega) hW56 h) ⟨rfl, rfl, rfl, rfl, rfl, rfl, rfl, rfl, rfl, rfl, trivial⟩
              · exact (pw_pn h).elim
            · conv => whnf
              refine pw_st h (fun z65 h => ?_)
              conv => whnf
              refine pw_st h (fun z66 h => ?_)
              conv => whnf
              exact np_gl (ih S47 v0 va1 vi1 va2 vi2 z65 v4 v5 v6 v7 v8 z66 f48 _ _ hv0 ha1 hi1 ha2 hi2 (by omega) (by omega) hW49 h) ⟨rfl, rfl, rfl, rfl, rfl, rfl, rfl, rfl, rfl, rfl, trivial⟩
          · exact (pw_pn h).elim
        · conv => whnf
          refine pw_br h (fun _ h => ?_) (fun _ h => ?_)
          · conv => whnf
            refine pw_br h (fun _ h => ?_) (fun _ h => ?_)
            · conv => whnf
              refine pw_st h (fun z67 h => ?_)
              conv => whnf
              refine np_rd_i (hW37.g hv0) ?_
              conv => whnf
              refine np_chk_i (pw_and rfl (pw_and rfl (pw_and rfl (pw_and rfl ((pw_and (pw_le (by omega)) (pw_le (by omega)))))))) ?_
              conv => whnf
              refine ⟨q, S35, v0, v4, v9, rfl, hv0, hW37, pw_bd h (fun S68 r71 h f69 hW70 => ?_)⟩
              rcases r71 with r73 | e74
              · replace h := pw_ei h
                conv => whnf
                refine pw_br h (fun _ h => ?_) (fun _ h => ?_)
                · conv => whnf
                  refine np_rd_i (hW70.g hv0) ?_
                  conv => whnf
                  refine np_chk_i (pw_and rfl (pw_and rfl (pw_and rfl (pw_and rfl ((pw_and (pw_le (by omega)) (pw_le (by omega)))))))) ?_
                  conv => whnf
                  refine ⟨q, S68, v0, v4, v9, rfl, hv0, hW70, pw_bd h (fun S75 r78 h f76 hW77 => ?_)⟩
                  rcases r78 with r80 | e81
                  · replace h := pw_ei h
                    conv => whnf
                    refine pw_br h (fun _ h => ?_) (fun _ h => ?_)
                    · conv => whnf
                      refine pw_st h (fun z82 h => ?_)
                      conv => whnf
                      refine pw_st h (fun z83 h => ?_)
                      conv => whnf
                      exact np_gl (ih S75 v0 va1 vi1 va2 vi2 z82 v4 v5 v6 v7 v8 z83 f76 _ _ hv0 ha1 hi1 ha2 hi2 (by omega) (by omega) hW77 h) ⟨rfl, rfl, rfl, rfl, rfl, rfl, rfl, rfl, rfl, rfl, trivial⟩
                    · conv => whnf
                      refine pw_st h (fun z84 h => ?_)
                      conv => whnf
                      refine pw_st h (fun z85 h => ?_)
                      conv => whnf
                      exact np_gl (ih S75 v0 va1 vi1 va2 vi2 z84 v4 v5 v6 v7 v8 z85 f76 _ _ hv0 ha1 hi1 ha2 hi2 (by omega) (by omega) hW77 h) ⟨rfl, rfl, rfl, rfl, rfl, rfl, rfl, rfl, rfl, rfl, trivial⟩
                  · exact (pw_pn h).elim
                · conv => whnf
                  refine pw_st h (fun z86 h => ?_)
                  conv => whnf
                  refine pw_st h (fun z87 h => ?_)
                  conv => whnf
                  exact np_gl (ih S68 v0 va1 vi1 va2 vi2 z86 v4 v5 v6 v7 v8 z87 f69 _ _ hv0 ha1 hi1 ha2 hi2 (by omega) (by omega) hW70 h) ⟨rfl, rfl, rfl, rfl, rfl, rfl, rfl, rfl, rfl, rfl, trivial⟩
              · exact (pw_pn h).elim
            · conv => whnf
              refine pw_br h (fun _ h => ?_) (fun _ h => ?_)
              · conv => whnf
                refine pw_st h (fun z88 h => ?_)
                conv => whnf
                refine np_rd_i (hW37.g hv0) ?_
                conv => whnf
                refine np_chk_i (pw_and rfl (pw_and rfl (pw_and rfl (pw_and rfl ((pw_and (pw_le (by omega)) (pw_le (by omega)))))))) ?_
                conv => whnf
                refine ⟨q, S35, v0, v4, v9, rfl, hv0, hW37, pw_bd h (fun S89 r92 h f90 hW91 => ?_)⟩
                rcases r92 with r94 | e95
                · replace h := pw_ei h
                  conv => whnf
                  refine pw_br h (fun _ h => ?_) (fun _ h => ?_)
                  · conv => whnf
                    refine np_rd_i (hW91.g hv0) ?_
                    conv => whnf
                    refine np_chk_i (pw_and rfl (pw_and rfl (pw_and rfl (pw_and rfl ((pw_and (pw_le (by omega)) (pw_le (by omega)))))))) ?_
                    conv => whnf
                    refine ⟨q, S89, v0, v4, v9, rfl, hv0, hW91, pw_bd h (fun S96 r99 h f97 hW98 => ?_)⟩
                    rcases r99 with r101 | e102
                    · replace h := pw_ei h
                      conv => whnf
                      refine pw_br h (fun _ h => ?_) (fun _ h => ?_)
                      · conv => whnf
                        refine pw_st h (fun z103 h => ?_)
                        conv => whnf
                        refine pw_st h (fun z104 h => ?_)
                        conv => whnf
                        exact np_gl (ih S96 v0 va1 vi1 va2 vi2 z103 v4 v5 v6 v7 v8 z104 f97 _ _ hv0 ha1 hi1 ha2 hi2 (by omega) (by omega) hW98 h) ⟨rfl, rfl, rfl, rfl, rfl, rfl, rfl, rfl, rfl, rfl, trivial⟩
                      · conv => whnf
                        refine pw_st h (fun z105 h => ?_)
                        conv => whnf
                        refine pw_st h (fun z106 h => ?_)
                        conv => whnf
                        exact np_gl (ih S96 v0 va1 vi1 va2 vi2 z105 v4 v5 v6 v7 v8 z106 f97 _ _ hv0 ha1 hi1 ha2 hi2 (by omega) (by omega) hW98 h) ⟨rfl, rfl, rfl, rfl, rfl, rfl, rfl, rfl, rfl, rfl, trivial⟩
                    · exact (pw_pn h).elim
                  · conv => whnf
                    refine pw_st h (fun z107 h => ?_)
                    conv => whnf
                    refine pw_st h (fun z108 h => ?_)
                    conv => whnf
                    exact np_gl (ih S89 v0 va1 vi1 va2 vi2 z107 v4 v5 v6 v7 v8 z108 f90 _ _ hv0 ha1 hi1 ha2 hi2 (by omega) (by omega) hW91 h) ⟨rfl, rfl, rfl, rfl, rfl, rfl, rfl, rfl, rfl, rfl, trivial⟩
                · exact (pw_pn h).elim
              · conv => whnf
                refine pw_st h (fun z109 h => ?_)
                conv => whnf
                refine np_rd_i (hW37.g hv0) ?_
                conv => whnf
                refine np_chk_i (pw_and rfl (pw_and rfl (pw_and rfl (pw_and rfl ((pw_and (pw_le (by omega)) (pw_le (by omega)))))))) ?_
                conv => whnf
                refine ⟨q, S35, v0, v4, v9, rfl, hv0, hW37, pw_bd h (fun S110 r113 h f111 hW112 => ?_)⟩
                rcases r113 with r115 | e116
                · replace h := pw_ei h
                  conv => whnf
                  refine pw_br h (fun _ h => ?_) (fun _ h => ?_)
                  · conv => whnf
                    refine np_rd_i (hW112.g hv0) ?_
                    conv => whnf
                    refine np_chk_i (pw_and rfl (pw_and rfl (pw_and rfl (pw_and rfl ((pw_and (pw_le (by omega)) (pw_le (by omega)))))))) ?_
                    conv => whnf
                    refine ⟨q, S110, v0, v4, v9, rfl, hv0, hW112, pw_bd h (fun S117 r120 h f118 hW119 => ?_)⟩
                    rcases r120 with r122 | e123
                    · replace h := pw_ei h
                      conv => whnf
                      refine pw_br h (fun _ h => ?_) (fun _ h => ?_)
                      · conv => whnf
                        refine pw_st h (fun z124 h => ?_)
                        conv => whnf
                        refine pw_st h (fun z125 h => ?_)
                        conv => whnf
                        exact np_gl (ih S117 v0 va1 vi1 va2 vi2 z124 v4 v5 v6 v7 v8 z125 f118 _ _ hv0 ha1 hi1 ha2 hi2 (by omega) (by omega) hW119 h) ⟨rfl, rfl, rfl, rfl, rfl, rfl, rfl, rfl, rfl, rfl, trivial⟩
                      · conv => whnf
                        refine pw_st h (fun z126 h => ?_)
                        conv => whnf
                        refine pw_st h (fun z127 h => ?_)
                        conv => whnf
                        exact np_gl (ih S117 v0 va1 vi1 va2 vi2 z126 v4 v5 v6 v7 v8 z127 f118 _ _ hv0 ha1 hi1 ha2 hi2 (by omega) (by omega) hW119 h) ⟨rfl, rfl, rfl, rfl, rfl, rfl, rfl, rfl, rfl, rfl, trivial⟩
                    · exact (pw_pn h).elim
                  · conv => whnf
                    refine pw_st h (fun z128 h => ?_)
                    conv => whnf
                    refine pw_st h (fun z129 h => ?_)
                    conv => whnf
                    exact np_gl (ih S110 v0 va1 vi1 va2 vi2 z128 v4 v5 v6 v7 v8 z129 f111 _ _ hv0 ha1 hi1 ha2 hi2 (by omega) (by omega) hW112 h) ⟨rfl, rfl, rfl, rfl, rfl, rfl, rfl, rfl, rfl, rfl, trivial⟩
                · exact (pw_pn h).elim
          · conv => whnf
            refine pw_st h (fun z130 h => ?_)
            conv => whnf
            refine np_gl (L_L_areColumns_174 (dc := N * 10 + dc + 2) (ds := N * 60 + ds + 12) hX hR (fun S148 u131 u133 u134 u137 u138 u141 u142 u143 u144 u145 u146 u147 f149 ce171 sl172 ho132 ho135 ho136 ho139 ho140 hc173 hs174 hW150 h => ?_) (pw_F 6) S35 v0 va1 vi1 va2 vi2 v4 v5 v6 v7 v8 v9 z28 z130 f36 _ _ hv0 ha1 hi1 ha2 hi2 (by rw [pw_F_eq]; omega) (by rw [pw_F_eq]; omega) hW37 h) ⟨rfl, rfl, rfl, rfl, rfl, rfl, rfl, rfl, rfl, rfl, rfl, trivial⟩
            · refine np_soundW (so_L_areColumns hX hR) [5, 65, 174, 307] 400 269 _ _ _ _ _ ?_
              conv => whnf
              refine np_rd_i (hW150.g ho132) ?_
              conv => whnf
              refine np_chk_i (pw_and rfl (pw_and rfl (pw_and rfl (pw_and rfl ((pw_and (pw_le (by omega)) (pw_le (by omega)))))))) ?_
              conv => whnf
              refine ⟨q, S148, u131, u141, u146, rfl, ho132, hW150, pw_bd h (fun S151 r154 h f152 hW153 => ?_)⟩
              rcases r154 with r156 | e157
              · replace h := pw_ei h
                conv => whnf
                refine pw_br h (fun _ h => ?_) (fun _ h => ?_)
                · conv => whnf
                  refine np_rd_i (hW153.g ho132) ?_
                  conv => whnf
                  refine np_chk_i (pw_and rfl (pw_and rfl (pw_and rfl (pw_and rfl ((pw_and (pw_le (by omega)) (pw_le (by omega)))))))) ?_
                  conv => whnf
                  refine ⟨q, S151, u131, u141, u146, rfl, ho132, hW153, pw_bd h (fun S158 r161 h f159 hW160 => ?_)⟩
                  rcases r161 with r163 | e164
                  · replace h := pw_ei h
                    conv => whnf
                    refine pw_br h (fun _ h => ?_) (fun _ h => ?_)
                    · conv => whnf
                      refine pw_st h (fun z165 h => ?_)
                      conv => whnf
                      refine pw_st h (fun z166 h => ?_)
                      conv => whnf
                      exact np_gl (ih S158 u131 u133 u134 u137 u138 z165 u141 u142 u143 u144 u145 z166 f159 _ _ ho132 ho135 ho136 ho139 ho140 (by omega) (by omega) hW160 h) ⟨rfl, rfl, rfl, rfl, rfl, rfl, rfl, rfl, rfl, rfl, trivial⟩
                    · conv => whnf
                      refine pw_st h (fun z167 h => ?_)
                      conv => whnf
                      refine pw_st h (fun z168 h => ?_)
                      conv => whnf
                      exact np_gl (ih S158 u131 u133 u134 u137 u138 z167 u141 u142 u143 u144 u145 z168 f159 _ _ ho132 ho135 ho136 ho139 ho140 (by omega) (by omega) hW160 h) ⟨rfl, rfl, rfl, rfl, rfl, rfl, rfl, rfl, rfl, rfl, trivial⟩
                  · exact (pw_pn h).elim
                · conv => whnf
                  refine pw_st h (fun z169 h => ?_)
                  conv => whnf
                  refine pw_st h (fun z170 h => ?_)
                  conv => whnf
                  exact np_gl (ih S151 u131 u133 u134 u137 u138 z169 u141 u142 u143 u144 u145 z170 f152 _ _ ho132 ho135 ho136 ho139 ho140 (by omega) (by omega) hW153 h) ⟨rfl, rfl, rfl, rfl, rfl, rfl, rfl, rfl, rfl, rfl, trivial⟩
              · exact (pw_pn h).elim
noncomputable def m_L_areColumns_5  : Nat → pw_S → Nat → Nat → Nat → Nat → Nat → Int32 → Int32 → pw_R Int32
| 0, _, _, _, _, _, _, _, _ => none
| N + 1, S, v0, va1, vi1, va2, vi2, v3, v4 =>
 pw_c (np_inb 1 (pw_len va2)) <|
 if (S va2 vi2 (1 : Int32).toNatClampNeg) ≤ v4 then
 (pw_c (decide (v3 = 0) || decide (v3 = 1)) <|
 some (S, v3))
 else
 (if v3 = 0 then
 (pw_c (decide (v3 = 0) || decide (v3 = 1)) <|
 some (S, v3))
 else
 (pw_c (np_inb v4 (pw_len va1)) <|
 pw_b (m_L_part S (S va1 vi1 (v4 : Int32).toNatClampNeg) 0 1) fun S177 r180 =>
 pw_l (r180 : Int32) fun z182 =>
 pw_c (np_inb v4 (pw_len va1)) <|
 pw_b (m_L_part S177 (S177 va1 vi1 (v4 : Int32).toNatClampNeg) 1 2) fun S183 r186 =>
 pw_l (r186 : Int32) fun z188 =>
 pw_c (np_inb v4 (pw_len va1)) <|
 pw_b (m_L_part S183 (S183 va1 vi1 (v4 : Int32).toNatClampNeg) 3 3) fun S189 r192 =>
 pw_l (r192 : Int32) fun z194 =>
 pw_c (np_inb v4 (pw_len va1)) <|
 pw_b (m_L_part S189 (S189 va1 vi1 (v4 : Int32).toNatClampNeg) 6 3) fun S195 r198 =>
 pw_l (r198 : Int32) fun z200 =>
 pw_l (0 : Int32) fun z201 =>
 m_L_areColumns_65
 (fun S215 u202 u204 u205 u208 u209 u212 u213 u214 =>
 (if u212 = 0 then
 (pw_l (0 : Int32) fun z218 =>
 pw_l (u213 + 1 : Int32) fun z219 =>
 m_L_areColumns_5 N S215 u202 u204 u205 u208 u209 z218 z219)
 else
 (pw_c (np_inb (5 + (6 * u214)) (pw_len u208)) <|
 pw_b (m_L_asks S215 u202 5 u213 (S215 u208 u209 ((5 + (6 * u214)) : Int32).toNatClampNeg) 0) fun S220 r223 =>
 if r223 = (-70007) then
 (pw_l (1 : Int32) fun z225 =>
 pw_l (u213 + 1 : Int32) fun z226 =>
 m_L_areColumns_5 N S220 u202 u204 u205 u208 u209 z225 z226)
 else
 (pw_l (0 : Int32) fun z227 =>
 pw_l (u213 + 1 : Int32) fun z228 =>
 m_L_areColumns_5 N S220 u202 u204 u205 u208 u209 z227 z228)))) (pw_F 11) S195 v0 va1 vi1 va2 vi2 v3 v4 z182 z188 z194 z200 z201))
set_option maxRecDepth 100000 in
set_option maxHeartbeats 8000000 in
theorem L_L_areColumns_5 {X : np_Ctx} (hX : np_ok RL cL_areColumns 15 9 250 777 4662 .ireturn X) {Q : Option Value → np_W → Prop} {q : Nat} {n dc ds : Nat} (hR : ∀ st w ce sl, np_rt (some .boolean) 777 4662 Q st w ce sl → X.2.2.1 st w ce sl) : ∀ (N : Nat) (S : pw_S) (v0 : Nat) (va1 : Nat) (vi1 : Nat) (va2 : Nat) (vi2 : Nat) (v3 : Int32) (v4 : Int32) (f : Nat → Option np_E) (ce sl : Nat) (hv0 : pw_ok q 61 v0 = true) (ha1 : pw_arr va1 = true) (hi1 : pw_ok q va1 vi1 = true) (ha2 : pw_arr va2 = true) (hi2 : pw_ok q va2 vi2 = true), ce + N * 111 + dc ≤ 777 → sl + N * 666 + ds ≤ 4662 → pw_W q (n, f) S → pw_p (m_L_areColumns_5 N S v0 va1 vi1 va2 vi2 v3 v4) (fun S' r => ∀ f', pw_W q (n, f') S' → Q (some (.int r)) (n, f')) → np_G X 5 [(0, .ref (pw_pl 61 v0)), (1, .ref (pw_pl va1 vi1)), (2, .ref (pw_pl va2 vi2)), (3, .int v3), (4, .int v4)] [] (n, f) ce sl := by
  intro N
  induction N with
  | zero =>
    intro S v0 va1 vi1 va2 vi2 v3 v4 f ce sl hv0 ha1 hi1 ha2 hi2 hc hs hW h
    exact (pw_pn h).elim
  | succ N ih =>
    intro S v0 va1 vi1 va2 vi2 v3 v4 f ce sl hv0 ha1 hi1 ha2 hi2 hc hs hW h
    unfold m_L_areColumns_5 at h
    refine np_soundW (so_L_areColumns hX hR) [5, 65, 174] 400 5 _ _ _ _ _ ?_
    conv => whnf
    refine np_rd_i (hW.ga ha2 hi2) ?_
    conv => whnf
    refine pw_ck h (fun _ h => ?_)
    conv => whnf
    refine pw_br h (fun _ h => ?_) (fun _ h => ?_)
    · conv => whnf
      obtain ⟨hb175, h⟩ := pw_ck1 h
      conv => whnf
      exact ⟨(by omega), (by omega), ⟨_, rfl, pw_nz hb175⟩, _, fun _ _ h9 => h9, pw_ps h _ hW⟩
    · conv => whnf
      refine pw_br h (fun _ h => ?_) (fun _ h => ?_)
      · conv => whnf
        obtain ⟨hb176, h⟩ := pw_ck1 h
        conv => whnf
        exact ⟨(by omega), (by omega), ⟨_, rfl, pw_nz hb176⟩, _, fun _ _ h9 => h9, pw_ps h _ hW⟩
      · conv => whnf
        refine np_rd_i (hW.ga ha1 hi1) ?_
        conv => whnf
        refine pw_ck h (fun _ h => ?_)
        conv => whnf
        refine np_chk_i (pw_and rfl (pw_and rfl (pw_and rfl ((pw_and (pw_le (by omega)) (pw_le (by omega))))))) ?_
        conv => whnf
        refine ⟨q, S, (S va1 vi1 (v4 : Int32).toNatClampNeg), 0, 1, rfl, hW, pw_bd h (fun S177 r180 h f178 hW179 => ?_)⟩
        conv => whnf
        refine pw_st h (fun z182 h => ?_)
        conv => whnf
        refine np_rd_i (hW179.ga ha1 hi1) ?_
        conv => whnf
        refine pw_ck h (fun _ h => ?_)
        conv => whnf
        refine np_chk_i (pw_and rfl (pw_and rfl (pw_and rfl ((pw_and (pw_le (by omega)) (pw_le (by omega))))))) ?_
        conv => whnf
        refine ⟨q, S177, (S177 va1 vi1 (v4 : Int32).toNatClampNeg), 1, 2, rfl, hW179, pw_bd h (fun S183 r186 h f184 hW185 => ?_)⟩
        conv => whnf
        refine pw_st h (fun z188 h => ?_)
        conv => whnf
        refine np_rd_i (hW185.ga ha1 hi1) ?_
        conv => whnf
        refine pw_ck h (fun _ h => ?_)
        conv => whnf
        refine np_chk_i (pw_and rfl (pw_and rfl (pw_and rfl ((pw_and (pw_le (by omega)) (pw_le (by omega))))))) ?_
        conv => whnf
        refine ⟨q, S183, (S183 va1 vi1 (v4 : Int32).toNatClampNeg), 3, 3, rfl, hW185, pw_bd h (fun S189 r192 h f190 hW191 => ?_)⟩
        conv => whnf
        refine pw_st h (fun z194 h => ?_)
        conv => whnf
        refine np_rd_i (hW191.ga ha1 hi1) ?_
        conv => whnf
        refine pw_ck h (fun _ h => ?_)
        conv => whnf
        refine np_chk_i (pw_and rfl (pw_and rfl (pw_and rfl ((pw_and (pw_le (by omega)) (pw_le (by omega))))))) ?_
        conv => whnf
        refine ⟨q, S189, (S189 va1 vi1 (v4 : Int32).toNatClampNeg), 6, 3, rfl, hW191, pw_bd h (fun S195 r198 h f196 hW197 => ?_)⟩
        conv => whnf
        refine pw_st h (fun z200 h => ?_)
        conv => whnf
        refine pw_st h (fun z201 h => ?_)
        conv => whnf
        refine np_gl (L_L_areColumns_65 (dc := N * 111 + dc + 1) (ds := N * 666 + ds + 6) hX hR (fun S215 u202 u204 u205 u208 u209 u212 u213 u214 f216 ce229 sl230 ho203 ho206 ho207 ho210 ho211 hc231 hs232 hW217 h => ?_) (pw_F 11) S195 v0 va1 vi1 va2 vi2 v3 v4 z182 z188 z194 z200 z201 f196 _ _ hv0 ha1 hi1 ha2 hi2 (by rw [pw_F_eq]; omega) (by rw [pw_F_eq]; omega) hW197 h) ⟨rfl, rfl, rfl, rfl, rfl, rfl, rfl, rfl, rfl, rfl, trivial⟩
        · refine np_soundW (so_L_areColumns hX hR) [5, 65, 174] 400 307 _ _ _ _ _ ?_
          conv => whnf
          refine pw_br h (fun _ h => ?_) (fun _ h => ?_)
          · conv => whnf
            refine pw_st h (fun z218 h => ?_)
            conv => whnf
            refine pw_st h (fun z219 h => ?_)
            conv => whnf
            exact np_gl (ih S215 u202 u204 u205 u208 u209 z218 z219 f216 _ _ ho203 ho206 ho207 ho210 ho211 (by omega) (by omega) hW217 h) ⟨rfl, rfl, rfl, rfl, rfl, trivial⟩
          · conv => whnf
            refine np_rd_i (hW217.ga ho210 ho211) ?_
            conv => whnf
            refine pw_ck h (fun _ h => ?_)
            conv => whnf
            refine np_chk_i (pw_and rfl (pw_and rfl (pw_and rfl ((pw_and (pw_le (by omega)) (pw_le (by omega))))))) ?_
            conv => whnf
            refine ⟨q, S215, u202, 5, u213, (S215 u208 u209 ((5 + (6 * u214)) : Int32).toNatClampNeg), 0, rfl, ho203, hW217, pw_bd h (fun S220 r223 h f221 hW222 => ?_)⟩
            conv => whnf
            refine pw_br h (fun _ h => ?_) (fun _ h => ?_)
            · conv => whnf
              refine pw_st h (fun z225 h => ?_)
              conv => whnf
              refine pw_st h (fun z226 h => ?_)
              conv => whnf
              exact np_gl (ih S220 u202 u204 u205 u208 u209 z225 z226 f221 _ _ ho203 ho206 ho207 ho210 ho211 (by omega) (by omega) hW222 h) ⟨rfl, rfl, rfl, rfl, rfl, trivial⟩
            · conv => whnf
              refine pw_st h (fun z227 h => ?_)
              conv => whnf
              refine pw_st h (fun z228 h => ?_)
              conv => whnf
              exact np_gl (ih S220 u202 u204 u205 u208 u209 z227 z228 f221 _ _ ho203 ho206 ho207 ho210 ho211 (by omega) (by omega) hW222 h) ⟨rfl, rfl, rfl, rfl, rfl, trivial⟩
noncomputable def m_L_areColumns (S : pw_S) (i0 : Nat) (a1 : Nat) (i1 : Nat) (a2 : Nat) (i2 : Nat) : pw_R Int32 :=
 pw_l (1 : Int32) fun z233 =>
 pw_l (0 : Int32) fun z234 =>
 m_L_areColumns_5 (pw_F 7) S i0 a1 i1 a2 i2 z233 z234
def sp_L_areColumns : np_Sp := fun vs w Q => ∃ (q : Nat) (S : pw_S) (i0 : Nat) (a1 : Nat) (i1 : Nat) (a2 : Nat) (i2 : Nat), vs = [.ref (pw_pl 61 i0), .ref (pw_pl a1 i1), .ref (pw_pl a2 i2)] ∧ pw_ok q 61 i0 = true ∧ pw_arr a1 = true ∧ pw_ok q a1 i1 = true ∧ pw_arr a2 = true ∧ pw_ok q a2 i2 = true ∧ pw_W q w S ∧ pw_p (m_L_areColumns S i0 a1 i1 a2 i2) (fun S' r => ∀ f', pw_W q (w.1, f') S' → Q (some (.int r)) (w.1, f'))
set_option maxRecDepth 100000 in
set_option maxHeartbeats 8000000 in
theorem C_L_areColumns : np_C yL_areColumns cL_areColumns 15 (some .boolean) 9 250 777 4662 (sp_L_areColumns) := by
  refine np_of (by decide) ?_
  intro X vs w Q hsp hX hmn hRt hlt
  obtain ⟨q, S, i0, a1, i1, a2, i2, rfl, hi0, ha1, hi1, ha2, hi2, hW, h⟩ := hsp
  obtain ⟨n, f⟩ := w
  unfold m_L_areColumns at h
  have hR : ∀ st w ce sl, np_rt (some .boolean) 777 4662 Q st w ce sl → X.2.2.1 st w ce sl := fun _ _ _ _ h => by rw [hRt]; exact h
  refine np_soundW (so_L_areColumns hX hR) [5, 65, 174] 400 0 _ _ _ _ _ ?_
  conv => whnf
  refine pw_st h (fun z233 h => ?_)
  conv => whnf
  refine pw_st h (fun z234 h => ?_)
  conv => whnf
  refine np_gl (L_L_areColumns_5 (dc := 0) (ds := 0) hX hR (pw_F 7) S i0 a1 i1 a2 i2 z233 z234 f _ _ hi0 ha1 hi1 ha2 hi2 (by rw [pw_F_eq]; omega) (by rw [pw_F_eq]; omega) hW h) ⟨rfl, rfl, rfl, rfl, rfl, trivial⟩
theorem dL_areKeys_0 : decode cL_areKeys 0 = .ok (.iconst 0, 1) := by decide +kernel
theorem dL_areKeys_1 : decode cL_areKeys 1 = .ok (.istore_n 3, 1) := by decide +kernel
theorem dL_areKeys_2 : decode cL_areKeys 2 = .ok (.iconst 1, 1) := by decide +kernel
theorem dL_areKeys_3 : decode cL_areKeys 3 = .ok (.istore 4, 2) := by decide +kernel
theorem dL_areKeys_5 : decode cL_areKeys 5 = .ok (.iconst 0, 1) := by decide +kernel
theorem dL_areKeys_6 : decode cL_areKeys 6 = .ok (.istore 5, 2) := by decide +kernel
theorem dL_areKeys_8 : decode cL_areKeys 8 = .ok (.iload 5, 2) := by decide +kernel
theorem dL_areKeys_10 : decode cL_areKeys 10 = .ok (.iconst 2, 1) := by decide +kernel
theorem dL_areKeys_11 : decode cL_areKeys 11 = .ok (.if_icmp .ge 415, 3) := by decide +kernel
theorem dL_areKeys_14 : decode cL_areKeys 14 = .ok (.iload 4, 2) := by decide +kernel
theorem dL_areKeys_16 : decode cL_areKeys 16 = .ok (.ifCond .eq 410, 3) := by decide +kernel
theorem dL_areKeys_19 : decode cL_areKeys 19 = .ok (.iconst 0, 1) := by decide +kernel
theorem dL_areKeys_20 : decode cL_areKeys 20 = .ok (.istore 6, 2) := by decide +kernel
theorem dL_areKeys_22 : decode cL_areKeys 22 = .ok (.iload 6, 2) := by decide +kernel
theorem dL_areKeys_24 : decode cL_areKeys 24 = .ok (.aload_n 2, 1) := by decide +kernel
theorem dL_areKeys_25 : decode cL_areKeys 25 = .ok (.iconst 5, 1) := by decide +kernel
theorem dL_areKeys_26 : decode cL_areKeys 26 = .ok (.bipush 6, 2) := by decide +kernel
theorem dL_areKeys_28 : decode cL_areKeys 28 = .ok (.iload 5, 2) := by decide +kernel
theorem dL_areKeys_30 : decode cL_areKeys 30 = .ok (.imul, 1) := by decide +kernel
theorem dL_areKeys_31 : decode cL_areKeys 31 = .ok (.iadd, 1) := by decide +kernel
theorem dL_areKeys_32 : decode cL_areKeys 32 = .ok (.iaload, 1) := by decide +kernel
theorem dL_areKeys_33 : decode cL_areKeys 33 = .ok (.if_icmp .ge 387, 3) := by decide +kernel
theorem dL_areKeys_36 : decode cL_areKeys 36 = .ok (.iload 4, 2) := by decide +kernel
theorem dL_areKeys_38 : decode cL_areKeys 38 = .ok (.ifCond .eq 382, 3) := by decide +kernel
theorem dL_areKeys_41 : decode cL_areKeys 41 = .ok (.aload_n 0, 1) := by decide +kernel
theorem dL_areKeys_42 : decode cL_areKeys 42 = .ok (.iload 5, 2) := by decide +kernel
theorem dL_areKeys_44 : decode cL_areKeys 44 = .ok (.iload 6, 2) := by decide +kernel
theorem dL_areKeys_46 : decode cL_areKeys 46 = .ok (.iload_n 1, 1) := by decide +kernel
theorem dL_areKeys_47 : decode cL_areKeys 47 = .ok (.iconst 0, 1) := by decide +kernel
theorem dL_areKeys_48 : decode cL_areKeys 48 = .ok (.invokevirtual 116, 3) := by decide +kernel
theorem dL_areKeys_51 : decode cL_areKeys 51 = .ok (.istore 7, 2) := by decide +kernel
theorem dL_areKeys_53 : decode cL_areKeys 53 = .ok (.iconst 0, 1) := by decide +kernel
theorem dL_areKeys_54 : decode cL_areKeys 54 = .ok (.istore 8, 2) := by decide +kernel
theorem dL_areKeys_56 : decode cL_areKeys 56 = .ok (.iload 7, 2) := by decide +kernel
theorem dL_areKeys_58 : decode cL_areKeys 58 = .ok (.ldc 119, 2) := by decide +kernel
theorem dL_areKeys_60 : decode cL_areKeys 60 = .ok (.if_icmp .eq 7, 3) := by decide +kernel
theorem dL_areKeys_63 : decode cL_areKeys 63 = .ok (.iconst 1, 1) := by decide +kernel
theorem dL_areKeys_64 : decode cL_areKeys 64 = .ok (.goto 4, 3) := by decide +kernel
theorem dL_areKeys_67 : decode cL_areKeys 67 = .ok (.iconst 0, 1) := by decide +kernel
theorem dL_areKeys_68 : decode cL_areKeys 68 = .ok (.istore 9, 2) := by decide +kernel
theorem dL_areKeys_70 : decode cL_areKeys 70 = .ok (.iconst 0, 1) := by decide +kernel
theorem dL_areKeys_71 : decode cL_areKeys 71 = .ok (.istore 10, 2) := by decide +kernel
theorem dL_areKeys_73 : decode cL_areKeys 73 = .ok (.iload 10, 2) := by decide +kernel
theorem dL_areKeys_75 : decode cL_areKeys 75 = .ok (.aload_n 2, 1) := by decide +kernel
theorem dL_areKeys_76 : decode cL_areKeys 76 = .ok (.iconst 5, 1) := by decide +kernel
theorem dL_areKeys_77 : decode cL_areKeys 77 = .ok (.bipush 6, 2) := by decide +kernel
theorem dL_areKeys_79 : decode cL_areKeys 79 = .ok (.iload 5, 2) := by decide +kernel
theorem dL_areKeys_81 : decode cL_areKeys 81 = .ok (.imul, 1) := by decide +kernel
theorem dL_areKeys_82 : decode cL_areKeys 82 = .ok (.iadd, 1) := by decide +kernel
theorem dL_areKeys_83 : decode cL_areKeys 83 = .ok (.iaload, 1) := by decide +kernel
theorem dL_areKeys_84 : decode cL_areKeys 84 = .ok (.if_icmp .ge 77, 3) := by decide +kernel
theorem dL_areKeys_87 : decode cL_areKeys 87 = .ok (.aload_n 0, 1) := by decide +kernel
theorem dL_areKeys_88 : decode cL_areKeys 88 = .ok (.iload 5, 2) := by decide +kernel
theorem dL_areKeys_90 : decode cL_areKeys 90 = .ok (.iload 10, 2) := by decide +kernel
theorem dL_areKeys_92 : decode cL_areKeys 92 = .ok (.iload_n 1, 1) := by decide +kernel
theorem dL_areKeys_93 : decode cL_areKeys 93 = .ok (.iconst 0, 1) := by decide +kernel
theorem dL_areKeys_94 : decode cL_areKeys 94 = .ok (.invokevirtual 116, 3) := by decide +kernel
theorem dL_areKeys_97 : decode cL_areKeys 97 = .ok (.iload 7, 2) := by decide +kernel
theorem dL_areKeys_99 : decode cL_areKeys 99 = .ok (.if_icmp .ne 7, 3) := by decide +kernel
theorem dL_areKeys_102 : decode cL_areKeys 102 = .ok (.iconst 1, 1) := by decide +kernel
theorem dL_areKeys_103 : decode cL_areKeys 103 = .ok (.goto 4, 3) := by decide +kernel
theorem dL_areKeys_106 : decode cL_areKeys 106 = .ok (.iconst 0, 1) := by decide +kernel
theorem dL_areKeys_107 : decode cL_areKeys 107 = .ok (.istore 11, 2) := by decide +kernel
theorem dL_areKeys_109 : decode cL_areKeys 109 = .ok (.iload 8, 2) := by decide +kernel
theorem dL_areKeys_111 : decode cL_areKeys 111 = .ok (.iload 11, 2) := by decide +kernel
theorem dL_areKeys_113 : decode cL_areKeys 113 = .ok (.ifCond .eq 14, 3) := by decide +kernel
theorem dL_areKeys_116 : decode cL_areKeys 116 = .ok (.iload 10, 2) := by decide +kernel
theorem dL_areKeys_118 : decode cL_areKeys 118 = .ok (.iload 6, 2) := by decide +kernel
theorem dL_areKeys_120 : decode cL_areKeys 120 = .ok (.if_icmp .ge 7, 3) := by decide +kernel
theorem dL_areKeys_123 : decode cL_areKeys 123 = .ok (.iconst 1, 1) := by decide +kernel
theorem dL_areKeys_124 : decode cL_areKeys 124 = .ok (.goto 4, 3) := by decide +kernel
theorem dL_areKeys_127 : decode cL_areKeys 127 = .ok (.iconst 0, 1) := by decide +kernel
theorem dL_areKeys_128 : decode cL_areKeys 128 = .ok (.iadd, 1) := by decide +kernel
theorem dL_areKeys_129 : decode cL_areKeys 129 = .ok (.istore 8, 2) := by decide +kernel
theorem dL_areKeys_131 : decode cL_areKeys 131 = .ok (.iload 9, 2) := by decide +kernel
theorem dL_areKeys_133 : decode cL_areKeys 133 = .ok (.ifCond .eq 19, 3) := by decide +kernel
theorem dL_areKeys_136 : decode cL_areKeys 136 = .ok (.iload 11, 2) := by decide +kernel
theorem dL_areKeys_138 : decode cL_areKeys 138 = .ok (.ifCond .eq 10, 3) := by decide +kernel
theorem dL_areKeys_141 : decode cL_areKeys 141 = .ok (.iload 10, 2) := by decide +kernel
theorem dL_areKeys_143 : decode cL_areKeys 143 = .ok (.iload 6, 2) := by decide +kernel
theorem dL_areKeys_145 : decode cL_areKeys 145 = .ok (.if_icmp .gt 7, 3) := by decide +kernel
theorem dL_areKeys_148 : decode cL_areKeys 148 = .ok (.iconst 1, 1) := by decide +kernel
theorem dL_areKeys_149 : decode cL_areKeys 149 = .ok (.goto 4, 3) := by decide +kernel
theorem dL_areKeys_152 : decode cL_areKeys 152 = .ok (.iconst 0, 1) := by decide +kernel
theorem dL_areKeys_153 : decode cL_areKeys 153 = .ok (.istore 9, 2) := by decide +kernel
theorem dL_areKeys_155 : decode cL_areKeys 155 = .ok (.iinc 10 1, 3) := by decide +kernel
theorem dL_areKeys_158 : decode cL_areKeys 158 = .ok (.goto (-85), 3) := by decide +kernel
theorem dL_areKeys_161 : decode cL_areKeys 161 = .ok (.iload 7, 2) := by decide +kernel
theorem dL_areKeys_163 : decode cL_areKeys 163 = .ok (.ldc 119, 2) := by decide +kernel
theorem dL_areKeys_165 : decode cL_areKeys 165 = .ok (.if_icmp .eq 57, 3) := by decide +kernel
theorem dL_areKeys_168 : decode cL_areKeys 168 = .ok (.aload_n 0, 1) := by decide +kernel
theorem dL_areKeys_169 : decode cL_areKeys 169 = .ok (.iload 5, 2) := by decide +kernel
theorem dL_areKeys_171 : decode cL_areKeys 171 = .ok (.iload_n 1, 1) := by decide +kernel
theorem dL_areKeys_172 : decode cL_areKeys 172 = .ok (.iload 7, 2) := by decide +kernel
theorem dL_areKeys_174 : decode cL_areKeys 174 = .ok (.iload 8, 2) := by decide +kernel
theorem dL_areKeys_176 : decode cL_areKeys 176 = .ok (.invokevirtual 136, 3) := by decide +kernel
theorem dL_areKeys_179 : decode cL_areKeys 179 = .ok (.iload 6, 2) := by decide +kernel
theorem dL_areKeys_181 : decode cL_areKeys 181 = .ok (.if_icmp .ne 45, 3) := by decide +kernel
theorem dL_areKeys_184 : decode cL_areKeys 184 = .ok (.aload_n 0, 1) := by decide +kernel
theorem dL_areKeys_185 : decode cL_areKeys 185 = .ok (.iload 5, 2) := by decide +kernel
theorem dL_areKeys_187 : decode cL_areKeys 187 = .ok (.iload_n 1, 1) := by decide +kernel
theorem dL_areKeys_188 : decode cL_areKeys 188 = .ok (.iload 7, 2) := by decide +kernel
theorem dL_areKeys_190 : decode cL_areKeys 190 = .ok (.iload 8, 2) := by decide +kernel
theorem dL_areKeys_192 : decode cL_areKeys 192 = .ok (.invokevirtual 139, 3) := by decide +kernel
theorem dL_areKeys_195 : decode cL_areKeys 195 = .ok (.iload 6, 2) := by decide +kernel
theorem dL_areKeys_197 : decode cL_areKeys 197 = .ok (.if_icmp .ne 29, 3) := by decide +kernel
theorem dL_areKeys_200 : decode cL_areKeys 200 = .ok (.iload 9, 2) := by decide +kernel
theorem dL_areKeys_202 : decode cL_areKeys 202 = .ok (.ifCond .eq 20, 3) := by decide +kernel
theorem dL_areKeys_205 : decode cL_areKeys 205 = .ok (.aload_n 0, 1) := by decide +kernel
theorem dL_areKeys_206 : decode cL_areKeys 206 = .ok (.iload 5, 2) := by decide +kernel
theorem dL_areKeys_208 : decode cL_areKeys 208 = .ok (.iload_n 1, 1) := by decide +kernel
theorem dL_areKeys_209 : decode cL_areKeys 209 = .ok (.iload 7, 2) := by decide +kernel
theorem dL_areKeys_211 : decode cL_areKeys 211 = .ok (.iload 8, 2) := by decide +kernel
theorem dL_areKeys_213 : decode cL_areKeys 213 = .ok (.iconst 1, 1) := by decide +kernel
theorem dL_areKeys_214 : decode cL_areKeys 214 = .ok (.iadd, 1) := by decide +kernel
theorem dL_areKeys_215 : decode cL_areKeys 215 = .ok (.invokevirtual 136, 3) := by decide +kernel
theorem dL_areKeys_218 : decode cL_areKeys 218 = .ok (.iconst (-1), 1) := by decide +kernel
theorem dL_areKeys_219 : decode cL_areKeys 219 = .ok (.if_icmp .ne 7, 3) := by decide +kernel
theorem dL_areKeys_222 : decode cL_areKeys 222 = .ok (.iconst 1, 1) := by decide +kernel
theorem dL_areKeys_223 : decode cL_areKeys 223 = .ok (.goto 4, 3) := by decide +kernel
theorem dL_areKeys_226 : decode cL_areKeys 226 = .ok (.iconst 0, 1) := by decide +kernel
theorem dL_areKeys_227 : decode cL_areKeys 227 = .ok (.istore 4, 2) := by decide +kernel
theorem dL_areKeys_229 : decode cL_areKeys 229 = .ok (.iconst (-1), 1) := by decide +kernel
theorem dL_areKeys_230 : decode cL_areKeys 230 = .ok (.istore 10, 2) := by decide +kernel
theorem dL_areKeys_232 : decode cL_areKeys 232 = .ok (.iconst 0, 1) := by decide +kernel
theorem dL_areKeys_233 : decode cL_areKeys 233 = .ok (.istore 11, 2) := by decide +kernel
theorem dL_areKeys_235 : decode cL_areKeys 235 = .ok (.iload 11, 2) := by decide +kernel
theorem dL_areKeys_237 : decode cL_areKeys 237 = .ok (.aload_n 2, 1) := by decide +kernel
theorem dL_areKeys_238 : decode cL_areKeys 238 = .ok (.iconst 5, 1) := by decide +kernel
theorem dL_areKeys_239 : decode cL_areKeys 239 = .ok (.bipush 6, 2) := by decide +kernel
theorem dL_areKeys_241 : decode cL_areKeys 241 = .ok (.iconst 1, 1) := by decide +kernel
theorem dL_areKeys_242 : decode cL_areKeys 242 = .ok (.iload 5, 2) := by decide +kernel
theorem dL_areKeys_244 : decode cL_areKeys 244 = .ok (.isub, 1) := by decide +kernel
theorem dL_areKeys_245 : decode cL_areKeys 245 = .ok (.imul, 1) := by decide +kernel
theorem dL_areKeys_246 : decode cL_areKeys 246 = .ok (.iadd, 1) := by decide +kernel
theorem dL_areKeys_247 : decode cL_areKeys 247 = .ok (.iaload, 1) := by decide +kernel
theorem dL_areKeys_248 : decode cL_areKeys 248 = .ok (.if_icmp .ge 40, 3) := by decide +kernel
theorem dL_areKeys_251 : decode cL_areKeys 251 = .ok (.iload 9, 2) := by decide +kernel
theorem dL_areKeys_253 : decode cL_areKeys 253 = .ok (.ifCond .eq 35, 3) := by decide +kernel
theorem dL_areKeys_256 : decode cL_areKeys 256 = .ok (.aload_n 0, 1) := by decide +kernel
theorem dL_areKeys_257 : decode cL_areKeys 257 = .ok (.iconst 1, 1) := by decide +kernel
theorem dL_areKeys_258 : decode cL_areKeys 258 = .ok (.iload 5, 2) := by decide +kernel
theorem dL_areKeys_260 : decode cL_areKeys 260 = .ok (.isub, 1) := by decide +kernel
theorem dL_areKeys_261 : decode cL_areKeys 261 = .ok (.iload 11, 2) := by decide +kernel
theorem dL_areKeys_263 : decode cL_areKeys 263 = .ok (.iload_n 1, 1) := by decide +kernel
theorem dL_areKeys_264 : decode cL_areKeys 264 = .ok (.iconst 0, 1) := by decide +kernel
theorem dL_areKeys_265 : decode cL_areKeys 265 = .ok (.invokevirtual 116, 3) := by decide +kernel
theorem dL_areKeys_268 : decode cL_areKeys 268 = .ok (.iload 7, 2) := by decide +kernel
theorem dL_areKeys_270 : decode cL_areKeys 270 = .ok (.if_icmp .ne 8, 3) := by decide +kernel
theorem dL_areKeys_273 : decode cL_areKeys 273 = .ok (.iload 11, 2) := by decide +kernel
theorem dL_areKeys_275 : decode cL_areKeys 275 = .ok (.goto 5, 3) := by decide +kernel
theorem dL_areKeys_278 : decode cL_areKeys 278 = .ok (.iload 10, 2) := by decide +kernel
theorem dL_areKeys_280 : decode cL_areKeys 280 = .ok (.istore 10, 2) := by decide +kernel
theorem dL_areKeys_282 : decode cL_areKeys 282 = .ok (.iinc 11 1, 3) := by decide +kernel
theorem dL_areKeys_285 : decode cL_areKeys 285 = .ok (.goto (-50), 3) := by decide +kernel
theorem dL_areKeys_288 : decode cL_areKeys 288 = .ok (.iconst 0, 1) := by decide +kernel
theorem dL_areKeys_289 : decode cL_areKeys 289 = .ok (.istore 11, 2) := by decide +kernel
theorem dL_areKeys_291 : decode cL_areKeys 291 = .ok (.iconst 0, 1) := by decide +kernel
theorem dL_areKeys_292 : decode cL_areKeys 292 = .ok (.istore 12, 2) := by decide +kernel
theorem dL_areKeys_294 : decode cL_areKeys 294 = .ok (.iload 12, 2) := by decide +kernel
theorem dL_areKeys_296 : decode cL_areKeys 296 = .ok (.bipush 24, 2) := by decide +kernel
theorem dL_areKeys_298 : decode cL_areKeys 298 = .ok (.if_icmp .ge 68, 3) := by decide +kernel
theorem dL_areKeys_301 : decode cL_areKeys 301 = .ok (.iload 10, 2) := by decide +kernel
theorem dL_areKeys_303 : decode cL_areKeys 303 = .ok (.ifCond .lt 63, 3) := by decide +kernel
theorem dL_areKeys_306 : decode cL_areKeys 306 = .ok (.iload 9, 2) := by decide +kernel
theorem dL_areKeys_308 : decode cL_areKeys 308 = .ok (.ifCond .eq 58, 3) := by decide +kernel
theorem dL_areKeys_311 : decode cL_areKeys 311 = .ok (.iload 11, 2) := by decide +kernel
theorem dL_areKeys_313 : decode cL_areKeys 313 = .ok (.ifCond .ne 40, 3) := by decide +kernel
theorem dL_areKeys_316 : decode cL_areKeys 316 = .ok (.aload_n 0, 1) := by decide +kernel
theorem dL_areKeys_317 : decode cL_areKeys 317 = .ok (.iload 5, 2) := by decide +kernel
theorem dL_areKeys_319 : decode cL_areKeys 319 = .ok (.iload 6, 2) := by decide +kernel
theorem dL_areKeys_321 : decode cL_areKeys 321 = .ok (.iload 12, 2) := by decide +kernel
theorem dL_areKeys_323 : decode cL_areKeys 323 = .ok (.iconst 3, 1) := by decide +kernel
theorem dL_areKeys_324 : decode cL_areKeys 324 = .ok (.idiv, 1) := by decide +kernel
theorem dL_areKeys_325 : decode cL_areKeys 325 = .ok (.iload 12, 2) := by decide +kernel
theorem dL_areKeys_327 : decode cL_areKeys 327 = .ok (.iconst 3, 1) := by decide +kernel
theorem dL_areKeys_328 : decode cL_areKeys 328 = .ok (.irem, 1) := by decide +kernel
theorem dL_areKeys_329 : decode cL_areKeys 329 = .ok (.invokevirtual 116, 3) := by decide +kernel
theorem dL_areKeys_332 : decode cL_areKeys 332 = .ok (.aload_n 0, 1) := by decide +kernel
theorem dL_areKeys_333 : decode cL_areKeys 333 = .ok (.iconst 1, 1) := by decide +kernel
theorem dL_areKeys_334 : decode cL_areKeys 334 = .ok (.iload 5, 2) := by decide +kernel
theorem dL_areKeys_336 : decode cL_areKeys 336 = .ok (.isub, 1) := by decide +kernel
theorem dL_areKeys_337 : decode cL_areKeys 337 = .ok (.iload 10, 2) := by decide +kernel
theorem dL_areKeys_339 : decode cL_areKeys 339 = .ok (.iload 12, 2) := by decide +kernel
theorem dL_areKeys_341 : decode cL_areKeys 341 = .ok (.iconst 3, 1) := by decide +kernel
theorem dL_areKeys_342 : decode cL_areKeys 342 = .ok (.idiv, 1) := by decide +kernel
theorem dL_areKeys_343 : decode cL_areKeys 343 = .ok (.iload 12, 2) := by decide +kernel
theorem dL_areKeys_345 : decode cL_areKeys 345 = .ok (.iconst 3, 1) := by decide +kernel
theorem dL_areKeys_346 : decode cL_areKeys 346 = .ok (.irem, 1) := by decide +kernel
theorem dL_areKeys_347 : decode cL_areKeys 347 = .ok (.invokevirtual 116, 3) := by decide +kernel
theorem dL_areKeys_350 : decode cL_areKeys 350 = .ok (.if_icmp .eq 7, 3) := by decide +kernel
theorem dL_areKeys_353 : decode cL_areKeys 353 = .ok (.iconst 1, 1) := by decide +kernel
theorem dL_areKeys_354 : decode cL_areKeys 354 = .ok (.goto 4, 3) := by decide +kernel
theorem dL_areKeys_357 : decode cL_areKeys 357 = .ok (.iconst 0, 1) := by decide +kernel
theorem dL_areKeys_358 : decode cL_areKeys 358 = .ok (.istore 11, 2) := by decide +kernel
theorem dL_areKeys_360 : decode cL_areKeys 360 = .ok (.iinc 12 1, 3) := by decide +kernel
theorem dL_areKeys_363 : decode cL_areKeys 363 = .ok (.goto (-69), 3) := by decide +kernel
theorem dL_areKeys_366 : decode cL_areKeys 366 = .ok (.iload_n 3, 1) := by decide +kernel
theorem dL_areKeys_367 : decode cL_areKeys 367 = .ok (.iload 9, 2) := by decide +kernel
theorem dL_areKeys_369 : decode cL_areKeys 369 = .ok (.ifCond .ne 7, 3) := by decide +kernel
theorem dL_areKeys_372 : decode cL_areKeys 372 = .ok (.iconst 0, 1) := by decide +kernel
theorem dL_areKeys_373 : decode cL_areKeys 373 = .ok (.goto 39, 3) := by decide +kernel
theorem dL_areKeys_376 : decode cL_areKeys 376 = .ok (.iload 10, 2) := by decide +kernel
theorem dL_areKeys_378 : decode cL_areKeys 378 = .ok (.ifCond .ge 19, 3) := by decide +kernel
theorem dL_areKeys_381 : decode cL_areKeys 381 = .ok (.iload 5, 2) := by decide +kernel
theorem dL_areKeys_383 : decode cL_areKeys 383 = .ok (.ifCond .ne 8, 3) := by decide +kernel
theorem dL_areKeys_386 : decode cL_areKeys 386 = .ok (.bipush 100, 2) := by decide +kernel
theorem dL_areKeys_388 : decode cL_areKeys 388 = .ok (.goto 24, 3) := by decide +kernel
theorem dL_areKeys_391 : decode cL_areKeys 391 = .ok (.sipush 10000, 3) := by decide +kernel
theorem dL_areKeys_394 : decode cL_areKeys 394 = .ok (.goto 18, 3) := by decide +kernel
theorem dL_areKeys_397 : decode cL_areKeys 397 = .ok (.iload 11, 2) := by decide +kernel
theorem dL_areKeys_399 : decode cL_areKeys 399 = .ok (.ifCond .eq 12, 3) := by decide +kernel
theorem dL_areKeys_402 : decode cL_areKeys 402 = .ok (.iload 5, 2) := by decide +kernel
theorem dL_areKeys_404 : decode cL_areKeys 404 = .ok (.ifCond .ne 7, 3) := by decide +kernel
theorem dL_areKeys_407 : decode cL_areKeys 407 = .ok (.iconst 1, 1) := by decide +kernel
theorem dL_areKeys_408 : decode cL_areKeys 408 = .ok (.goto 4, 3) := by decide +kernel
theorem dL_areKeys_411 : decode cL_areKeys 411 = .ok (.iconst 0, 1) := by decide +kernel
theorem dL_areKeys_412 : decode cL_areKeys 412 = .ok (.iadd, 1) := by decide +kernel
theorem dL_areKeys_413 : decode cL_areKeys 413 = .ok (.istore_n 3, 1) := by decide +kernel
theorem dL_areKeys_414 : decode cL_areKeys 414 = .ok (.iinc 6 1, 3) := by decide +kernel
theorem dL_areKeys_417 : decode cL_areKeys 417 = .ok (.goto (-395), 3) := by decide +kernel
theorem dL_areKeys_420 : decode cL_areKeys 420 = .ok (.iinc 5 1, 3) := by decide +kernel
theorem dL_areKeys_423 : decode cL_areKeys 423 = .ok (.goto (-415), 3) := by decide +kernel
theorem dL_areKeys_426 : decode cL_areKeys 426 = .ok (.iload 4, 2) := by decide +kernel
theorem dL_areKeys_428 : decode cL_areKeys 428 = .ok (.ifCond .eq 28, 3) := by decide +kernel
theorem dL_areKeys_431 : decode cL_areKeys 431 = .ok (.aload_n 0, 1) := by decide +kernel
theorem dL_areKeys_432 : decode cL_areKeys 432 = .ok (.iload_n 1, 1) := by decide +kernel
theorem dL_areKeys_433 : decode cL_areKeys 433 = .ok (.invokevirtual 142, 3) := by decide +kernel
theorem dL_areKeys_436 : decode cL_areKeys 436 = .ok (.iload_n 3, 1) := by decide +kernel
theorem dL_areKeys_437 : decode cL_areKeys 437 = .ok (.if_icmp .ne 19, 3) := by decide +kernel
theorem dL_areKeys_440 : decode cL_areKeys 440 = .ok (.aload_n 0, 1) := by decide +kernel
theorem dL_areKeys_441 : decode cL_areKeys 441 = .ok (.iconst 0, 1) := by decide +kernel
theorem dL_areKeys_442 : decode cL_areKeys 442 = .ok (.iload_n 1, 1) := by decide +kernel
theorem dL_areKeys_443 : decode cL_areKeys 443 = .ok (.iconst (-1), 1) := by decide +kernel
theorem dL_areKeys_444 : decode cL_areKeys 444 = .ok (.iconst 0, 1) := by decide +kernel
theorem dL_areKeys_445 : decode cL_areKeys 445 = .ok (.invokevirtual 136, 3) := by decide +kernel
theorem dL_areKeys_448 : decode cL_areKeys 448 = .ok (.iconst (-1), 1) := by decide +kernel
theorem dL_areKeys_449 : decode cL_areKeys 449 = .ok (.if_icmp .ne 7, 3) := by decide +kernel
theorem dL_areKeys_452 : decode cL_areKeys 452 = .ok (.iconst 1, 1) := by decide +kernel
theorem dL_areKeys_453 : decode cL_areKeys 453 = .ok (.goto 4, 3) := by decide +kernel
theorem dL_areKeys_456 : decode cL_areKeys 456 = .ok (.iconst 0, 1) := by decide +kernel
theorem dL_areKeys_457 : decode cL_areKeys 457 = .ok (.ireturn, 1) := by decide +kernel
def is_L_areKeys (Rt : np_Rt) : List (Nat × np_Op) := [(0, np_push 1 (.int 0)), (1, nw_ist 1 3), (2, np_push 1 (.int 1)), (3, nw_ist 2 4), (5, np_push 1 (.int 0)), (6, nw_ist 2 5), (8, np_ild 2 5), (10, np_push 1 (.int 2)), (11, nq_ic (fun x y => y ≤ x) 426), (14, np_ild 2 4), (16, nq_if (fun x => x = 0) 426), (19, np_push 1 (.int 0)), (20, nw_ist 2 6), (22, np_ild 2 6), (24, np_ald 1 2), (25, np_push 1 (.int 5)), (26, np_push 2 (.int 6)), (28, np_ild 2 5), (30, np_ib (fun x y => x * y)), (31, np_ib (fun x y => x + y)), (32, nw_ialdT .int), (33, nq_ic (fun x y => y ≤ x) 420), (36, np_ild 2 4), (38, nq_if (fun x => x = 0) 420), (41, np_ald 1 0), (42, np_ild 2 5), (44, np_ild 2 6), (46, np_ild 1 1), (47, np_push 1 (.int 0)), (48, nw_callVX 11 5 sp_X11_cell 6 1 6 2510 15060 []), (51, nw_ist 2 7), (53, np_push 1 (.int 0)), (54, nw_ist 2 8), (56, np_ild 2 7), (58, np_push 2 (.int (-2147483648))), (60, nq_ic (fun x y => x = y) 67), (63, np_push 1 (.int 1)), (64, np_goto 68), (67, np_push 1 (.int 0)), (68, nw_ist 2 9), (70, np_push 1 (.int 0)), (71, nw_ist 2 10), (73, np_ild 2 10), (75, np_ald 1 2), (76, np_push 1 (.int 5)), (77, np_push 2 (.int 6)), (79, np_ild 2 5), (81, np_ib (fun x y => x * y)), (82, np_ib (fun x y => x + y)), (83, nw_ialdT .int), (84, nq_ic (fun x y => y ≤ x) 161), (87, np_ald 1 0), (88, np_ild 2 5), (90, np_ild 2 10), (92, np_ild 1 1), (93, np_push 1 (.int 0)), (94, nw_callVX 11 5 sp_X11_cell 6 1 6 2510 15060 []), (97, np_ild 2 7), (99, nq_icne 106), (102, np_push 1 (.int 1)), (103, np_goto 107), (106, np_push 1 (.int 0)), (107, nw_ist 2 11), (109, np_ild 2 8), (111, np_ild 2 11), (113, nq_if (fun x => x = 0) 127), (116, np_ild 2 10), (118, np_ild 2 6), (120, nq_ic (fun x y => y ≤ x) 127), (123, np_push 1 (.int 1)), (124, np_goto 128), (127, np_push 1 (.int 0)), (128, np_ib (fun x y => x + y)), (129, nw_ist 2 8), (131, np_ild 2 9), (133, nq_if (fun x => x = 0) 152), (136, np_ild 2 11), (138, nq_if (fun x => x = 0) 148), (141, np_ild 2 10), (143, np_ild 2 6), (145, nq_ic (fun x y => y < x) 152), (148, np_push 1 (.int 1)), (149, np_goto 153), (152, np_push 1 (.int 0)), (153, nw_ist 2 9), (155, nw_iinc 10 1), (158, np_goto 73), (161, np_ild 2 7), (163, np_push 2 (.int (-2147483648))), (165, nq_ic (fun x y => x = y) 222), (168, np_ald 1 0), (169, np_ild 2 5), (171, np_ild 1 1), (172, np_ild 2 7), (174, np_ild 2 8), (176, nw_callVX 11 5 sp_X11_find 6 1 6 2510 15060 []), (179, np_ild 2 6), (181, nq_icne 226), (184, np_ald 1 0), (185, np_ild 2 5), (187, np_ild 1 1), (188, np_ild 2 7), (190, np_ild 2 8), (192, nw_callVX 11 5 sp_X11_findAnew 6 1 6 2510 15060 []), (195, np_ild 2 6), (197, nq_icne 226), (200, np_ild 2 9), (202, nq_if (fun x => x = 0) 222), (205, np_ald 1 0), (206, np_ild 2 5), (208, np_ild 1 1), (209, np_ild 2 7), (211, np_ild 2 8), (213, np_push 1 (.int 1)), (214, np_ib (fun x y => x + y)), (215, nw_callVX 11 5 sp_X11_find 6 1 6 2510 15060 []), (218, np_push 1 (.int (-1))), (219, nq_icne 226), (222, np_push 1 (.int 1)), (223, np_goto 227), (226, np_push 1 (.int 0)), (227, nw_ist 2 4), (229, np_push 1 (.int (-1))), (230, nw_ist 2 10), (232, np_push 1 (.int 0)), (233, nw_ist 2 11), (235, np_ild 2 11), (237, np_ald 1 2), (238, np_push 1 (.int 5)), (239, np_push 2 (.int 6)), (241, np_push 1 (.int 1)), (242, np_ild 2 5), (244, np_ib (fun x y => x - y)), (245, np_ib (fun x y => x * y)), (246, np_ib (fun x y => x + y)), (247, nw_ialdT .int), (248, nq_ic (fun x y => y ≤ x) 288), (251, np_ild 2 9), (253, nq_if (fun x => x = 0) 288), (256, np_ald 1 0), (257, np_push 1 (.int 1)), (258, np_ild 2 5), (260, np_ib (fun x y => x - y)), (261, np_ild 2 11), (263, np_ild 1 1), (264, np_push 1 (.int 0)), (265, nw_callVX 11 5 sp_X11_cell 6 1 6 2510 15060 []), (268, np_ild 2 7), (270, nq_icne 278), (273, np_ild 2 11), (275, np_goto 280), (278, np_ild 2 10), (280, nw_ist 2 10), (282, nw_iinc 11 1), (285, np_goto 235), (288, np_push 1 (.int 0)), (289, nw_ist 2 11), (291, np_push 1 (.int 0)), (292, nw_ist 2 12), (294, np_ild 2 12), (296, np_push 2 (.int 24)), (298, nq_ic (fun x y => y ≤ x) 366), (301, np_ild 2 10), (303, nq_if (fun x => x < 0) 366), (306, np_ild 2 9), (308, nq_if (fun x => x = 0) 366), (311, np_ild 2 11), (313, nq_ifne 353), (316, np_ald 1 0), (317, np_ild 2 5), (319, np_ild 2 6), (321, np_ild 2 12), (323, np_push 1 (.int 3)), (324, nq_ibn (fun x y => x / y)), (325, np_ild 2 12), (327, np_push 1 (.int 3)), (328, nq_ibn (fun x y => x - x / y * y)), (329, nw_callVX 11 5 sp_X11_cell 6 1 6 2510 15060 []), (332, np_ald 1 0), (333, np_push 1 (.int 1)), (334, np_ild 2 5), (336, np_ib (fun x y => x - y)), (337, np_ild 2 10), (339, np_ild 2 12), (341, np_push 1 (.int 3)), (342, nq_ibn (fun x y => x / y)), (343, np_ild 2 12), (345, np_push 1 (.int 3)), (346, nq_ibn (fun x y => x - x / y * y)), (347, nw_callVX 11 5 sp_X11_cell 6 1 6 2510 15060 []), (350, nq_ic (fun x y => x = y) 357), (353, np_push 1 (.int 1)), (354, np_goto 358), (357, np_push 1 (.int 0)), (358, nw_ist 2 11), (360, nw_iinc 12 1), (363, np_goto 294), (366, np_ild 1 3), (367, np_ild 2 9), (369, nq_ifne 376), (372, np_push 1 (.int 0)), (373, np_goto 412), (376, np_ild 2 10), (378, nq_if (fun x => 0 ≤ x) 397), (381, np_ild 2 5), (383, nq_ifne 391), (386, np_push 2 (.int 100)), (388, np_goto 412), (391, np_push 3 (.int 10000)), (394, np_goto 412), (397, np_ild 2 11), (399, nq_if (fun x => x = 0) 411), (402, np_ild 2 5), (404, nq_ifne 411), (407, np_push 1 (.int 1)), (408, np_goto 412), (411, np_push 1 (.int 0)), (412, np_ib (fun x y => x + y)), (413, nw_ist 1 3), (414, nw_iinc 6 1), (417, np_goto 22), (420, nw_iinc 5 1), (423, np_goto 8), (426, np_ild 2 4), (428, nq_if (fun x => x = 0) 456), (431, np_ald 1 0), (432, np_ild 1 1), (433, nw_callVX 11 2 sp_X11_compare 4 1 6 2510 15060 []), (436, np_ild 1 3), (437, nq_icne 456), (440, np_ald 1 0), (441, np_push 1 (.int 0)), (442, np_ild 1 1), (443, np_push 1 (.int (-1))), (444, np_push 1 (.int 0)), (445, nw_callVX 11 5 sp_X11_find 6 1 6 2510 15060 []), (448, np_push 1 (.int (-1))), (449, nq_icne 456), (452, np_push 1 (.int 1)), (453, np_goto 457), (456, np_push 1 (.int 0)), (457, np_ret Rt)]
set_option maxRecDepth 20000 in
theorem so_L_areKeys {X : np_Ctx} {Rt : np_Rt} (hX : np_ok RL cL_areKeys 13 7 160 2510 15060 .ireturn X) (hR : ∀ st w ce sl, Rt st w ce sl → X.2.2.1 st w ce sl) : ∀ q ∈ is_L_areKeys Rt, np_S X q.1 q.2 :=
  List.forall_mem_cons.mpr ⟨np_s_iconst hX dL_areKeys_0 (by decide), List.forall_mem_cons.mpr ⟨np_S.mono (op := np_ist 1 3) (np_s_istore_n hX dL_areKeys_1 rfl (by decide)) nw_ist_le, List.forall_mem_cons.mpr ⟨np_s_iconst hX dL_areKeys_2 (by decide), List.forall_mem_cons.mpr ⟨np_S.mono (op := np_ist 2 4) (np_s_istore hX dL_areKeys_3 (by decide)) nw_ist_le, List.forall_mem_cons.mpr ⟨np_s_iconst hX dL_areKeys_5 (by decide), List.forall_mem_cons.mpr ⟨np_S.mono (op := np_ist 2 5) (np_s_istore hX dL_areKeys_6 (by decide)) nw_ist_le, List.forall_mem_cons.mpr ⟨np_s_iload hX dL_areKeys_8, List.forall_mem_cons.mpr ⟨np_s_iconst hX dL_areKeys_10 (by decide), List.forall_mem_cons.mpr ⟨np_S.mono (op := np_ic (fun x y => y ≤ x) 426) (np_s_icmp_ge hX dL_areKeys_11 (by decide)) nq_ic_le, List.forall_mem_cons.mpr ⟨np_s_iload hX dL_areKeys_14, List.forall_mem_cons.mpr ⟨np_S.mono (op := np_if (fun x => x = 0) 426) (np_s_if_eq hX dL_areKeys_16 (by decide)) nq_if_le, List.forall_mem_cons.mpr ⟨np_s_iconst hX dL_areKeys_19 (by decide), List.forall_mem_cons.mpr ⟨np_S.mono (op := np_ist 2 6) (np_s_istore hX dL_areKeys_20 (by decide)) nw_ist_le, List.forall_mem_cons.mpr ⟨np_s_iload hX dL_areKeys_22, List.forall_mem_cons.mpr ⟨np_s_aload_n hX dL_areKeys_24 rfl, List.forall_mem_cons.mpr ⟨np_s_iconst hX dL_areKeys_25 (by decide), List.forall_mem_cons.mpr ⟨np_s_bipush hX dL_areKeys_26 (by decide), List.forall_mem_cons.mpr ⟨np_s_iload hX dL_areKeys_28, List.forall_mem_cons.mpr ⟨np_s_imul hX dL_areKeys_30, List.forall_mem_cons.mpr ⟨np_s_iadd hX dL_areKeys_31, List.forall_mem_cons.mpr ⟨np_S.mono (op := np_ialdT .int) (np_s_iald hX dL_areKeys_32) nw_ialdT_le, List.forall_mem_cons.mpr ⟨np_S.mono (op := np_ic (fun x y => y ≤ x) 420) (np_s_icmp_ge hX dL_areKeys_33 (by decide)) nq_ic_le, List.forall_mem_cons.mpr ⟨np_s_iload hX dL_areKeys_36, List.forall_mem_cons.mpr ⟨np_S.mono (op := np_if (fun x => x = 0) 420) (np_s_if_eq hX dL_areKeys_38 (by decide)) nq_if_le, List.forall_mem_cons.mpr ⟨np_s_aload_n hX dL_areKeys_41 rfl, List.forall_mem_cons.mpr ⟨np_s_iload hX dL_areKeys_42, List.forall_mem_cons.mpr ⟨np_s_iload hX dL_areKeys_44, List.forall_mem_cons.mpr ⟨np_s_iload_n hX dL_areKeys_46 rfl, List.forall_mem_cons.mpr ⟨np_s_iconst hX dL_areKeys_47 (by decide), List.forall_mem_cons.mpr ⟨np_S.mono (op := np_callVX 11 5 sp_X11_cell 6 1 6 2510 15060 []) (np_s_callVX hX C_X11_cell dL_areKeys_48 (q := (RX11, TX11, 14)) rfl rfl gw1264 gw63 gw1261 gw1262 gw1263 ⟨by decide, by decide, by decide⟩ (by decide) (by decide) (fun _ h => nomatch h)) (nw_callVX_le2 (ci := 11) (n := 5) (sp := sp_X11_cell) (maxL := 6) (mc := 1) (ms := 6) (RC := 2510) (RS := 15060) (hs := [])), List.forall_mem_cons.mpr ⟨np_S.mono (op := np_ist 2 7) (np_s_istore hX dL_areKeys_51 (by decide)) nw_ist_le, List.forall_mem_cons.mpr ⟨np_s_iconst hX dL_areKeys_53 (by decide), List.forall_mem_cons.mpr ⟨np_S.mono (op := np_ist 2 8) (np_s_istore hX dL_areKeys_54 (by decide)) nw_ist_le, List.forall_mem_cons.mpr ⟨np_s_iload hX dL_areKeys_56, List.forall_mem_cons.mpr ⟨np_s_ldc hX dL_areKeys_58 gw1266, List.forall_mem_cons.mpr ⟨np_S.mono (op := np_ic (fun x y => x = y) 67) (np_s_icmp_eq hX dL_areKeys_60 (by decide)) nq_ic_le, List.forall_mem_cons.mpr ⟨np_s_iconst hX dL_areKeys_63 (by decide), List.forall_mem_cons.mpr ⟨np_s_goto hX dL_areKeys_64 (by decide), List.forall_mem_cons.mpr ⟨np_s_iconst hX dL_areKeys_67 (by decide), List.forall_mem_cons.mpr ⟨np_S.mono (op := np_ist 2 9) (np_s_istore hX dL_areKeys_68 (by decide)) nw_ist_le, List.forall_mem_cons.mpr ⟨np_s_iconst hX dL_areKeys_70 (by decide), List.forall_mem_cons.mpr ⟨np_S.mono (op := np_ist 2 10) (np_s_istore hX dL_areKeys_71 (by decide)) nw_ist_le, List.forall_mem_cons.mpr ⟨np_s_iload hX dL_areKeys_73, List.forall_mem_cons.mpr ⟨np_s_aload_n hX dL_areKeys_75 rfl, List.forall_mem_cons.mpr ⟨np_s_iconst hX dL_areKeys_76 (by decide), List.forall_mem_cons.mpr ⟨np_s_bipush hX dL_areKeys_77 (by decide), List.forall_mem_cons.mpr ⟨np_s_iload hX dL_areKeys_79, List.forall_mem_cons.mpr ⟨np_s_imul hX dL_areKeys_81, List.forall_mem_cons.mpr ⟨np_s_iadd hX dL_areKeys_82, List.forall_mem_cons.mpr ⟨np_S.mono (op := np_ialdT .int) (np_s_iald hX dL_areKeys_83) nw_ialdT_le, List.forall_mem_cons.mpr ⟨np_S.mono (op := np_ic (fun x y => y ≤ x) 161) (np_s_icmp_ge hX dL_areKeys_84 (by decide)) nq_ic_le, List.forall_mem_cons.mpr ⟨np_s_aload_n hX dL_areKeys_87 rfl, List.forall_mem_cons.mpr ⟨np_s_iload hX dL_areKeys_88, List.forall_mem_cons.mpr ⟨np_s_iload hX dL_areKeys_90, List.forall_mem_cons.mpr ⟨np_s_iload_n hX dL_areKeys_92 rfl, List.forall_mem_cons.mpr ⟨np_s_iconst hX dL_areKeys_93 (by decide), List.forall_mem_cons.mpr ⟨np_S.mono (op := np_callVX 11 5 sp_X11_cell 6 1 6 2510 15060 []) (np_s_callVX hX C_X11_cell dL_areKeys_94 (q := (RX11, TX11, 14)) rfl rfl gw1264 gw63 gw1261 gw1262 gw1263 ⟨by decide, by decide, by decide⟩ (by decide) (by decide) (fun _ h => nomatch h)) (nw_callVX_le2 (ci := 11) (n := 5) (sp := sp_X11_cell) (maxL := 6) (mc := 1) (ms := 6) (RC := 2510) (RS := 15060) (hs := [])), List.forall_mem_cons.mpr ⟨np_s_iload hX dL_areKeys_97, List.forall_mem_cons.mpr ⟨np_S.mono (op := np_icne 106) (np_s_icmp_ne hX dL_areKeys_99 (by decide)) nq_icne_le, List.forall_mem_cons.mpr ⟨np_s_iconst hX dL_areKeys_102 (by decide), List.forall_mem_cons.mpr ⟨np_s_goto hX dL_areKeys_103 (by decide), List.forall_mem_cons.mpr ⟨np_s_iconst hX dL_areKeys_106 (by decide), List.forall_mem_cons.mpr ⟨np_S.mono (op := np_ist 2 11) (np_s_istore hX dL_areKeys_107 (by decide)) nw_ist_le, List.forall_mem_cons.mpr ⟨np_s_iload hX dL_areKeys_109, List.forall_mem_cons.mpr ⟨np_s_iload hX dL_areKeys_111, List.forall_mem_cons.mpr ⟨np_S.mono (op := np_if (fun x => x = 0) 127) (np_s_if_eq hX dL_areKeys_113 (by decide)) nq_if_le, List.forall_mem_cons.mpr ⟨np_s_iload hX dL_areKeys_116, List.forall_mem_cons.mpr ⟨np_s_iload hX dL_areKeys_118, List.forall_mem_cons.mpr ⟨np_S.mono (op := np_ic (fun x y => y ≤ x) 127) (np_s_icmp_ge hX dL_areKeys_120 (by decide)) nq_ic_le, List.forall_mem_cons.mpr ⟨np_s_iconst hX dL_areKeys_123 (by decide), List.forall_mem_cons.mpr ⟨np_s_goto hX dL_areKeys_124 (by decide), List.forall_mem_cons.mpr ⟨np_s_iconst hX dL_areKeys_127 (by decide), List.forall_mem_cons.mpr ⟨np_s_iadd hX dL_areKeys_128, List.forall_mem_cons.mpr ⟨np_S.mono (op := np_ist 2 8) (np_s_istore hX dL_areKeys_129 (by decide)) nw_ist_le, List.forall_mem_cons.mpr ⟨np_s_iload hX dL_areKeys_131, List.forall_mem_cons.mpr ⟨np_S.mono (op := np_if (fun x => x = 0) 152) (np_s_if_eq hX dL_areKeys_133 (by decide)) nq_if_le, List.forall_mem_cons.mpr ⟨np_s_iload hX dL_areKeys_136, List.forall_mem_cons.mpr ⟨np_S.mono (op := np_if (fun x => x = 0) 148) (np_s_if_eq hX dL_areKeys_138 (by decide)) nq_if_le, List.forall_mem_cons.mpr ⟨np_s_iload hX dL_areKeys_141, List.forall_mem_cons.mpr ⟨np_s_iload hX dL_areKeys_143, List.forall_mem_cons.mpr ⟨np_S.mono (op := np_ic (fun x y => y < x) 152) (np_s_icmp_gt hX dL_areKeys_145 (by decide)) nq_ic_le, List.forall_mem_cons.mpr ⟨np_s_iconst hX dL_areKeys_148 (by decide), List.forall_mem_cons.mpr ⟨np_s_goto hX dL_areKeys_149 (by decide), List.forall_mem_cons.mpr ⟨np_s_iconst hX dL_areKeys_152 (by decide), List.forall_mem_cons.mpr ⟨np_S.mono (op := np_ist 2 9) (np_s_istore hX dL_areKeys_153 (by decide)) nw_ist_le, List.forall_mem_cons.mpr ⟨np_S.mono (op := np_iinc 10 1) (np_s_iinc hX dL_areKeys_155 (by decide)) nw_iinc_le, List.forall_mem_cons.mpr ⟨np_s_goto hX dL_areKeys_158 (by decide), List.forall_mem_cons.mpr ⟨np_s_iload hX dL_areKeys_161, List.forall_mem_cons.mpr ⟨np_s_ldc hX dL_areKeys_163 gw1266, List.forall_mem_cons.mpr ⟨np_S.mono (op := np_ic (fun x y => x = y) 222) (np_s_icmp_eq hX dL_areKeys_165 (by decide)) nq_ic_le, List.forall_mem_cons.mpr ⟨np_s_aload_n hX dL_areKeys_168 rfl, List.forall_mem_cons.mpr ⟨np_s_iload hX dL_areKeys_169, List.forall_mem_cons.mpr ⟨np_s_iload_n hX dL_areKeys_171 rfl, List.forall_mem_cons.mpr ⟨np_s_iload hX dL_areKeys_172, List.forall_mem_cons.mpr ⟨np_s_iload hX dL_areKeys_174, List.forall_mem_cons.mpr ⟨np_S.mono (op := np_callVX 11 5 sp_X11_find 6 1 6 2510 15060 []) (np_s_callVX hX C_X11_find dL_areKeys_176 (q := (RX11, TX11, 14)) rfl rfl gw1456 gw63 gw1453 gw1454 gw1455 ⟨by decide, by decide, by decide⟩ (by decide) (by decide) (fun _ h => nomatch h)) (nw_callVX_le2 (ci := 11) (n := 5) (sp := sp_X11_find) (maxL := 6) (mc := 1) (ms := 6) (RC := 2510) (RS := 15060) (hs := [])), List.forall_mem_cons.mpr ⟨np_s_iload hX dL_areKeys_179, List.forall_mem_cons.mpr ⟨np_S.mono (op := np_icne 226) (np_s_icmp_ne hX dL_areKeys_181 (by decide)) nq_icne_le, List.forall_mem_cons.mpr ⟨np_s_aload_n hX dL_areKeys_184 rfl, List.forall_mem_cons.mpr ⟨np_s_iload hX dL_areKeys_185, List.forall_mem_cons.mpr ⟨np_s_iload_n hX dL_areKeys_187 rfl, List.forall_mem_cons.mpr ⟨np_s_iload hX dL_areKeys_188, List.forall_mem_cons.mpr ⟨np_s_iload hX dL_areKeys_190, List.forall_mem_cons.mpr ⟨np_S.mono (op := np_callVX 11 5 sp_X11_findAnew 6 1 6 2510 15060 []) (np_s_callVX hX C_X11_findAnew dL_areKeys_192 (q := (RX11, TX11, 14)) rfl rfl gw1465 gw63 gw1462 gw1463 gw1464 ⟨by decide, by decide, by decide⟩ (by decide) (by decide) (fun _ h => nomatch h)) (nw_callVX_le2 (ci := 11) (n := 5) (sp := sp_X11_findAnew) (maxL := 6) (mc := 1) (ms := 6) (RC := 2510) (RS := 15060) (hs := [])), List.forall_mem_cons.mpr ⟨np_s_iload hX dL_areKeys_195, List.forall_mem_cons.mpr ⟨np_S.mono (op := np_icne 226) (np_s_icmp_ne hX dL_areKeys_197 (by decide)) nq_icne_le, List.forall_mem_cons.mpr ⟨np_s_iload hX dL_areKeys_200, List.forall_mem_cons.mpr ⟨np_S.mono (op := np_if (fun x => x = 0) 222) (np_s_if_eq hX dL_areKeys_202 (by decide)) nq_if_le, List.forall_mem_cons.mpr ⟨np_s_aload_n hX dL_areKeys_205 rfl, List.forall_mem_cons.mpr ⟨np_s_iload hX dL_areKeys_206, List.forall_mem_cons.mpr ⟨np_s_iload_n hX dL_areKeys_208 rfl, List.forall_mem_cons.mpr ⟨np_s_iload hX dL_areKeys_209, List.forall_mem_cons.mpr ⟨np_s_iload hX dL_areKeys_211, List.forall_mem_cons.mpr ⟨np_s_iconst hX dL_areKeys_213 (by decide), List.forall_mem_cons.mpr ⟨np_s_iadd hX dL_areKeys_214, List.forall_mem_cons.mpr ⟨np_S.mono (op := np_callVX 11 5 sp_X11_find 6 1 6 2510 15060 []) (np_s_callVX hX C_X11_find dL_areKeys_215 (q := (RX11, TX11, 14)) rfl rfl gw1456 gw63 gw1453 gw1454 gw1455 ⟨by decide, by decide, by decide⟩ (by decide) (by decide) (fun _ h => nomatch h)) (nw_callVX_le2 (ci := 11) (n := 5) (sp := sp_X11_find) (maxL := 6) (mc := 1) (ms := 6) (RC := 2510) (RS := 15060) (hs := [])), List.forall_mem_cons.mpr ⟨np_s_iconst hX dL_areKeys_218 (by decide), List.forall_mem_cons.mpr ⟨np_S.mono (op := np_icne 226) (np_s_icmp_ne hX dL_areKeys_219 (by decide)) nq_icne_le, List.forall_mem_cons.mpr ⟨np_s_iconst hX dL_areKeys_222 (by decide), List.forall_mem_cons.mpr ⟨np_s_goto hX dL_areKeys_223 (by decide), List.forall_mem_cons.mpr ⟨np_s_iconst hX dL_areKeys_226 (by decide), List.forall_mem_cons.mpr ⟨np_S.mono (op := np_ist 2 4) (np_s_istore hX dL_areKeys_227 (by decide)) nw_ist_le, List.forall_mem_cons.mpr ⟨np_s_iconst hX dL_areKeys_229 (by decide), List.forall_mem_cons.mpr ⟨np_S.mono (op := np_ist 2 10) (np_s_istore hX dL_areKeys_230 (by decide)) nw_ist_le, List.forall_mem_cons.mpr ⟨np_s_iconst hX dL_areKeys_232 (by decide), List.forall_mem_cons.mpr ⟨np_S.mono (op := np_ist 2 11) (np_s_istore hX dL_areKeys_233 (by decide)) nw_ist_le, List.forall_mem_cons.mpr ⟨np_s_iload hX dL_areKeys_235, List.forall_mem_cons.mpr ⟨np_s_aload_n hX dL_areKeys_237 rfl, List.forall_mem_cons.mpr ⟨np_s_iconst hX dL_areKeys_238 (by decide), List.forall_mem_cons.mpr ⟨np_s_bipush hX dL_areKeys_239 (by decide), List.forall_mem_cons.mpr ⟨np_s_iconst hX dL_areKeys_241 (by decide), List.forall_mem_cons.mpr ⟨np_s_iload hX dL_areKeys_242, List.forall_mem_cons.mpr ⟨np_s_isub hX dL_areKeys_244, List.forall_mem_cons.mpr ⟨np_s_imul hX dL_areKeys_245, List.forall_mem_cons.mpr ⟨np_s_iadd hX dL_areKeys_246, List.forall_mem_cons.mpr ⟨np_S.mono (op := np_ialdT .int) (np_s_iald hX dL_areKeys_247) nw_ialdT_le, List.forall_mem_cons.mpr ⟨np_S.mono (op := np_ic (fun x y => y ≤ x) 288) (np_s_icmp_ge hX dL_areKeys_248 (by decide)) nq_ic_le, List.forall_mem_cons.mpr ⟨np_s_iload hX dL_areKeys_251, List.forall_mem_cons.mpr ⟨np_S.mono (op := np_if (fun x => x = 0) 288) (np_s_if_eq hX dL_areKeys_253 (by decide)) nq_if_le, List.forall_mem_cons.mpr ⟨np_s_aload_n hX dL_areKeys_256 rfl, List.forall_mem_cons.mpr ⟨np_s_iconst hX dL_areKeys_257 (by decide), List.forall_mem_cons.mpr ⟨np_s_iload hX dL_areKeys_258, List.forall_mem_cons.mpr ⟨np_s_isub hX dL_areKeys_260, List.forall_mem_cons.mpr ⟨np_s_iload hX dL_areKeys_261, List.forall_mem_cons.mpr ⟨np_s_iload_n hX dL_areKeys_263 rfl, List.forall_mem_cons.mpr ⟨np_s_iconst hX dL_areKeys_264 (by decide), List.forall_mem_cons.mpr ⟨np_S.mono (op := np_callVX 11 5 sp_X11_cell 6 1 6 2510 15060 []) (np_s_callVX hX C_X11_cell dL_areKeys_265 (q := (RX11, TX11, 14)) rfl rfl gw1264 gw63 gw1261 gw1262 gw1263 ⟨by decide, by decide, by decide⟩ (by decide) (by decide) (fun _ h => nomatch h)) (nw_callVX_le2 (ci := 11) (n := 5) (sp := sp_X11_cell) (maxL := 6) (mc := 1) (ms := 6) (RC := 2510) (RS := 15060) (hs := [])), List.forall_mem_cons.mpr ⟨np_s_iload hX dL_areKeys_268, List.forall_mem_cons.mpr ⟨np_S.mono (op := np_icne 278) (np_s_icmp_ne hX dL_areKeys_270 (by decide)) nq_icne_le, List.forall_mem_cons.mpr ⟨np_s_iload hX dL_areKeys_273, List.forall_mem_cons.mpr ⟨np_s_goto hX dL_areKeys_275 (by decide), List.forall_mem_cons.mpr ⟨np_s_iload hX dL_areKeys_278, List.forall_mem_cons.mpr ⟨np_S.mono (op := np_ist 2 10) (np_s_istore hX dL_areKeys_280 (by decide)) nw_ist_le, List.forall_mem_cons.mpr ⟨np_S.mono (op := np_iinc 11 1) (np_s_iinc hX dL_areKeys_282 (by decide)) nw_iinc_le, List.forall_mem_cons.mpr ⟨np_s_goto hX dL_areKeys_285 (by decide), List.forall_mem_cons.mpr ⟨np_s_iconst hX dL_areKeys_288 (by decide), List.forall_mem_cons.mpr ⟨np_S.mono (op := np_ist 2 11) (np_s_istore hX dL_areKeys_289 (by decide)) nw_ist_le, List.forall_mem_cons.mpr ⟨np_s_iconst hX dL_areKeys_291 (by decide), List.forall_mem_cons.mpr ⟨np_S.mono (op := np_ist 2 12) (np_s_istore hX dL_areKeys_292 (by decide)) nw_ist_le, List.forall_mem_cons.mpr ⟨np_s_iload hX dL_areKeys_294, List.forall_mem_cons.mpr ⟨np_s_bipush hX dL_areKeys_296 (by decide), List.forall_mem_cons.mpr ⟨np_S.mono (op := np_ic (fun x y => y ≤ x) 366) (np_s_icmp_ge hX dL_areKeys_298 (by decide)) nq_ic_le, List.forall_mem_cons.mpr ⟨np_s_iload hX dL_areKeys_301, List.forall_mem_cons.mpr ⟨np_S.mono (op := np_if (fun x => x < 0) 366) (np_s_if_lt hX dL_areKeys_303 (by decide)) nq_if_le, List.forall_mem_cons.mpr ⟨np_s_iload hX dL_areKeys_306, List.forall_mem_cons.mpr ⟨np_S.mono (op := np_if (fun x => x = 0) 366) (np_s_if_eq hX dL_areKeys_308 (by decide)) nq_if_le, List.forall_mem_cons.mpr ⟨np_s_iload hX dL_areKeys_311, List.forall_mem_cons.mpr ⟨np_S.mono (op := np_ifne 353) (np_s_if_ne hX dL_areKeys_313 (by decide)) nq_ifne_le, List.forall_mem_cons.mpr ⟨np_s_aload_n hX dL_areKeys_316 rfl, List.forall_mem_cons.mpr ⟨np_s_iload hX dL_areKeys_317, List.forall_mem_cons.mpr ⟨np_s_iload hX dL_areKeys_319, List.forall_mem_cons.mpr ⟨np_s_iload hX dL_areKeys_321, List.forall_mem_cons.mpr ⟨np_s_iconst hX dL_areKeys_323 (by decide), List.forall_mem_cons.mpr ⟨np_S.mono (op := np_ibn (fun x y => x / y)) (np_s_idiv hX dL_areKeys_324) nq_ibn_le, List.forall_mem_cons.mpr ⟨np_s_iload hX dL_areKeys_325, List.forall_mem_cons.mpr ⟨np_s_iconst hX dL_areKeys_327 (by decide), List.forall_mem_cons.mpr ⟨np_S.mono (op := np_ibn (fun x y => x - x / y * y)) (np_s_irem hX dL_areKeys_328) nq_ibn_le, List.forall_mem_cons.mpr ⟨np_S.mono (op := np_callVX 11 5 sp_X11_cell 6 1 6 2510 15060 []) (np_s_callVX hX C_X11_cell dL_areKeys_329 (q := (RX11, TX11, 14)) rfl rfl gw1264 gw63 gw1261 gw1262 gw1263 ⟨by decide, by decide, by decide⟩ (by decide) (by decide) (fun _ h => nomatch h)) (nw_callVX_le2 (ci := 11) (n := 5) (sp := sp_X11_cell) (maxL := 6) (mc := 1) (ms := 6) (RC := 2510) (RS := 15060) (hs := [])), List.forall_mem_cons.mpr ⟨np_s_aload_n hX dL_areKeys_332 rfl, List.forall_mem_cons.mpr ⟨np_s_iconst hX dL_areKeys_333 (by decide), List.forall_mem_cons.mpr ⟨np_s_iload hX dL_areKeys_334, List.forall_mem_cons.mpr ⟨np_s_isub hX dL_areKeys_336, List.forall_mem_cons.mpr ⟨np_s_iload hX dL_areKeys_337, List.forall_mem_cons.mpr ⟨np_s_iload hX dL_areKeys_339, List.forall_mem_cons.mpr ⟨np_s_iconst hX dL_areKeys_341 (by decide), List.forall_mem_cons.mpr ⟨np_S.mono (op := np_ibn (fun x y => x / y)) (np_s_idiv hX dL_areKeys_342) nq_ibn_le, List.forall_mem_cons.mpr ⟨np_s_iload hX dL_areKeys_343, List.forall_mem_cons.mpr ⟨np_s_iconst hX dL_areKeys_345 (by decide), List.forall_mem_cons.mpr ⟨np_S.mono (op := np_ibn (fun x y => x - x / y * y)) (np_s_irem hX dL_areKeys_346) nq_ibn_le, List.forall_mem_cons.mpr ⟨np_S.mono (op := np_callVX 11 5 sp_X11_cell 6 1 6 2510 15060 []) (np_s_callVX hX C_X11_cell dL_areKeys_347 (q := (RX11, TX11, 14)) rfl rfl gw1264 gw63 gw1261 gw1262 gw1263 ⟨by decide, by decide, by decide⟩ (by decide) (by decide) (fun _ h => nomatch h)) (nw_callVX_le2 (ci := 11) (n := 5) (sp := sp_X11_cell) (maxL := 6) (mc := 1) (ms := 6) (RC := 2510) (RS := 15060) (hs := [])), List.forall_mem_cons.mpr ⟨np_S.mono (op := np_ic (fun x y => x = y) 357) (np_s_icmp_eq hX dL_areKeys_350 (by decide)) nq_ic_le, List.forall_mem_cons.mpr ⟨np_s_iconst hX dL_areKeys_353 (by decide), List.forall_mem_cons.mpr ⟨np_s_goto hX dL_areKeys_354 (by decide), List.forall_mem_cons.mpr ⟨np_s_iconst hX dL_areKeys_357 (by decide), List.forall_mem_cons.mpr ⟨np_S.mono (op := np_ist 2 11) (np_s_istore hX dL_areKeys_358 (by decide)) nw_ist_le, List.forall_mem_cons.mpr ⟨np_S.mono (op := np_iinc 12 1) (np_s_iinc hX dL_areKeys_360 (by decide)) nw_iinc_le, List.forall_mem_cons.mpr ⟨np_s_goto hX dL_areKeys_363 (by decide), List.forall_mem_cons.mpr ⟨np_s_iload_n hX dL_areKeys_366 rfl, List.forall_mem_cons.mpr ⟨np_s_iload hX dL_areKeys_367, List.forall_mem_cons.mpr ⟨np_S.mono (op := np_ifne 376) (np_s_if_ne hX dL_areKeys_369 (by decide)) nq_ifne_le, List.forall_mem_cons.mpr ⟨np_s_iconst hX dL_areKeys_372 (by decide), List.forall_mem_cons.mpr ⟨np_s_goto hX dL_areKeys_373 (by decide), List.forall_mem_cons.mpr ⟨np_s_iload hX dL_areKeys_376, List.forall_mem_cons.mpr ⟨np_S.mono (op := np_if (fun x => 0 ≤ x) 397) (np_s_if_ge hX dL_areKeys_378 (by decide)) nq_if_le, List.forall_mem_cons.mpr ⟨np_s_iload hX dL_areKeys_381, List.forall_mem_cons.mpr ⟨np_S.mono (op := np_ifne 391) (np_s_if_ne hX dL_areKeys_383 (by decide)) nq_ifne_le, List.forall_mem_cons.mpr ⟨np_s_bipush hX dL_areKeys_386 (by decide), List.forall_mem_cons.mpr ⟨np_s_goto hX dL_areKeys_388 (by decide), List.forall_mem_cons.mpr ⟨np_s_sipush hX dL_areKeys_391 (by decide), List.forall_mem_cons.mpr ⟨np_s_goto hX dL_areKeys_394 (by decide), List.forall_mem_cons.mpr ⟨np_s_iload hX dL_areKeys_397, List.forall_mem_cons.mpr ⟨np_S.mono (op := np_if (fun x => x = 0) 411) (np_s_if_eq hX dL_areKeys_399 (by decide)) nq_if_le, List.forall_mem_cons.mpr ⟨np_s_iload hX dL_areKeys_402, List.forall_mem_cons.mpr ⟨np_S.mono (op := np_ifne 411) (np_s_if_ne hX dL_areKeys_404 (by decide)) nq_ifne_le, List.forall_mem_cons.mpr ⟨np_s_iconst hX dL_areKeys_407 (by decide), List.forall_mem_cons.mpr ⟨np_s_goto hX dL_areKeys_408 (by decide), List.forall_mem_cons.mpr ⟨np_s_iconst hX dL_areKeys_411 (by decide), List.forall_mem_cons.mpr ⟨np_s_iadd hX dL_areKeys_412, List.forall_mem_cons.mpr ⟨np_S.mono (op := np_ist 1 3) (np_s_istore_n hX dL_areKeys_413 rfl (by decide)) nw_ist_le, List.forall_mem_cons.mpr ⟨np_S.mono (op := np_iinc 6 1) (np_s_iinc hX dL_areKeys_414 (by decide)) nw_iinc_le, List.forall_mem_cons.mpr ⟨np_s_goto hX dL_areKeys_417 (by decide), List.forall_mem_cons.mpr ⟨np_S.mono (op := np_iinc 5 1) (np_s_iinc hX dL_areKeys_420 (by decide)) nw_iinc_le, List.forall_mem_cons.mpr ⟨np_s_goto hX dL_areKeys_423 (by decide), List.forall_mem_cons.mpr ⟨np_s_iload hX dL_areKeys_426, List.forall_mem_cons.mpr ⟨np_S.mono (op := np_if (fun x => x = 0) 456) (np_s_if_eq hX dL_areKeys_428 (by decide)) nq_if_le, List.forall_mem_cons.mpr ⟨np_s_aload_n hX dL_areKeys_431 rfl, List.forall_mem_cons.mpr ⟨np_s_iload_n hX dL_areKeys_432 rfl, List.forall_mem_cons.mpr ⟨np_S.mono (op := np_callVX 11 2 sp_X11_compare 4 1 6 2510 15060 []) (np_s_callVX hX C_X11_compare dL_areKeys_433 (q := (RX11, TX11, 14)) rfl rfl gw1473 gw63 gw1470 gw1471 gw1472 ⟨by decide, by decide, by decide⟩ (by decide) (by decide) (fun _ h => nomatch h)) (nw_callVX_le2 (ci := 11) (n := 2) (sp := sp_X11_compare) (maxL := 4) (mc := 1) (ms := 6) (RC := 2510) (RS := 15060) (hs := [])), List.forall_mem_cons.mpr ⟨np_s_iload_n hX dL_areKeys_436 rfl, List.forall_mem_cons.mpr ⟨np_S.mono (op := np_icne 456) (np_s_icmp_ne hX dL_areKeys_437 (by decide)) nq_icne_le, List.forall_mem_cons.mpr ⟨np_s_aload_n hX dL_areKeys_440 rfl, List.forall_mem_cons.mpr ⟨np_s_iconst hX dL_areKeys_441 (by decide), List.forall_mem_cons.mpr ⟨np_s_iload_n hX dL_areKeys_442 rfl, List.forall_mem_cons.mpr ⟨np_s_iconst hX dL_areKeys_443 (by decide), List.forall_mem_cons.mpr ⟨np_s_iconst hX dL_areKeys_444 (by decide), List.forall_mem_cons.mpr ⟨np_S.mono (op := np_callVX 11 5 sp_X11_find 6 1 6 2510 15060 []) (np_s_callVX hX C_X11_find dL_areKeys_445 (q := (RX11, TX11, 14)) rfl rfl gw1456 gw63 gw1453 gw1454 gw1455 ⟨by decide, by decide, by decide⟩ (by decide) (by decide) (fun _ h => nomatch h)) (nw_callVX_le2 (ci := 11) (n := 5) (sp := sp_X11_find) (maxL := 6) (mc := 1) (ms := 6) (RC := 2510) (RS := 15060) (hs := [])), List.forall_mem_cons.mpr ⟨np_s_iconst hX dL_areKeys_448 (by decide), List.forall_mem_cons.mpr ⟨np_S.mono (op := np_icne 456) (np_s_icmp_ne hX dL_areKeys_449 (by decide)) nq_icne_le, List.forall_mem_cons.mpr ⟨np_s_iconst hX dL_areKeys_452 (by decide), List.forall_mem_cons.mpr ⟨np_s_goto hX dL_areKeys_453 (by decide), List.forall_mem_cons.mpr ⟨np_s_iconst hX dL_areKeys_456 (by decide), List.forall_mem_cons.mpr ⟨np_S.mono (op := np_ret X.2.2.1) (np_s_ret hX dL_areKeys_457) (nq_ret_le hR), fun _ h => nomatch h⟩⟩⟩⟩⟩⟩⟩⟩⟩⟩⟩⟩⟩⟩⟩⟩⟩⟩⟩⟩⟩⟩⟩⟩⟩⟩⟩⟩⟩⟩⟩⟩⟩⟩⟩⟩⟩⟩⟩⟩⟩⟩⟩⟩⟩⟩⟩⟩⟩⟩⟩⟩⟩⟩⟩⟩⟩⟩⟩⟩⟩⟩⟩⟩⟩⟩⟩⟩⟩⟩⟩⟩⟩⟩⟩⟩⟩⟩⟩⟩⟩⟩⟩⟩⟩⟩⟩⟩⟩⟩⟩⟩⟩⟩⟩⟩⟩⟩⟩⟩⟩⟩⟩⟩⟩⟩⟩⟩⟩⟩⟩⟩⟩⟩⟩⟩⟩⟩⟩⟩⟩⟩⟩⟩⟩⟩⟩⟩⟩⟩⟩⟩⟩⟩⟩⟩⟩⟩⟩⟩⟩⟩⟩⟩⟩⟩⟩⟩⟩⟩⟩⟩⟩⟩⟩⟩⟩⟩⟩⟩⟩⟩⟩⟩⟩⟩⟩⟩⟩⟩⟩⟩⟩⟩⟩⟩⟩⟩⟩⟩⟩⟩⟩⟩⟩⟩⟩⟩⟩⟩⟩⟩⟩⟩⟩⟩⟩⟩⟩⟩⟩⟩⟩⟩⟩⟩⟩⟩⟩⟩⟩⟩⟩⟩⟩⟩⟩⟩⟩⟩⟩⟩⟩⟩⟩⟩⟩⟩⟩⟩⟩⟩⟩⟩⟩⟩⟩⟩⟩⟩⟩⟩
noncomputable def m_L_areKeys_235 (k288 : pw_S → Nat → Int32 → Nat → Nat → Int32 → Int32 → Int32 → Int32 → Int32 → Int32 → pw_R Int32) : Nat → pw_S → Nat → Int32 → Nat → Nat → Int32 → Int32 → Int32 → Int32 → Int32 → Int32 → Int32 → Int32 → pw_R Int32
| 0, _, _, _, _, _, _, _, _, _, _, _, _, _ => none
| N + 1, S, v0, v1, va2, vi2, v3, v4, v5, v6, v7, v9, v10, v11 =>
 pw_c (np_inb (5 + (6 * (1 - v5))) (pw_len va2)) <|
 if (S va2 vi2 ((5 + (6 * (1 - v5))) : Int32).toNatClampNeg) ≤ v11 then
 (k288 S v0 v1 va2 vi2 v3 v4 v5 v6 v9 v10)
 else
 (if v9 = 0 then
 (k288 S v0 v1 va2 vi2 v3 v4 v5 v6 v9 v10)
 else
 (pw_b (m_X11_cell S v0 (1 - v5) v11 v1 0) fun S1 r4 =>
 pw_e r4 (fun r6 =>
 (if r6 = v7 then
 (pw_l (v11 : Int32) fun z8 =>
 pw_l (v11 + 1 : Int32) fun z9 =>
 m_L_areKeys_235 k288 N S1 v0 v1 va2 vi2 v3 v4 v5 v6 v7 v9 z8 z9)
 else
 (pw_l (v10 : Int32) fun z10 =>
 pw_l (v11 + 1 : Int32) fun z11 =>
 m_L_areKeys_235 k288 N S1 v0 v1 va2 vi2 v3 v4 v5 v6 v7 v9 z10 z11))) (fun _ => none)))
set_option maxRecDepth 100000 in
set_option maxHeartbeats 8000000 in
theorem L_L_areKeys_235 {X : np_Ctx} (hX : np_ok RL cL_areKeys 13 7 160 2510 15060 .ireturn X) {Q : Option Value → np_W → Prop} {q : Nat} {n dc ds : Nat} (hR : ∀ st w ce sl, np_rt (some .boolean) 2510 15060 Q st w ce sl → X.2.2.1 st w ce sl) {k288 : pw_S → Nat → Int32 → Nat → Nat → Int32 → Int32 → Int32 → Int32 → Int32 → Int32 → pw_R Int32} (hk288 : ∀ (S : pw_S) (v0 : Nat) (v1 : Int32) (va2 : Nat) (vi2 : Nat) (v3 : Int32) (v4 : Int32) (v5 : Int32) (v6 : Int32) (v9 : Int32) (v10 : Int32) (f : Nat → Option np_E) (ce sl : Nat) (hv0 : pw_ok q 61 v0 = true) (ha2 : pw_arr va2 = true) (hi2 : pw_ok q va2 vi2 = true), ce + dc ≤ 2510 → sl + ds ≤ 15060 → pw_W q (n, f) S → pw_p (k288 S v0 v1 va2 vi2 v3 v4 v5 v6 v9 v10) (fun S' r => ∀ f', pw_W q (n, f') S' → Q (some (.int r)) (n, f')) → np_G X 288 [(0, .ref (pw_pl 61 v0)), (1, .int v1), (2, .ref (pw_pl va2 vi2)), (3, .int v3), (4, .int v4), (5, .int v5), (6, .int v6), (9, .int v9), (10, .int v10)] [] (n, f) ce sl) : ∀ (N : Nat) (S : pw_S) (v0 : Nat) (v1 : Int32) (va2 : Nat) (vi2 : Nat) (v3 : Int32) (v4 : Int32) (v5 : Int32) (v6 : Int32) (v7 : Int32) (v9 : Int32) (v10 : Int32) (v11 : Int32) (f : Nat → Option np_E) (ce sl : Nat) (hv0 : pw_ok q 61 v0 = true) (ha2 : pw_arr va2 = true) (hi2 : pw_ok q va2 vi2 = true), ce + N * 1 + dc ≤ 2510 → sl + N * 6 + ds ≤ 15060 → pw_W q (n, f) S → pw_p (m_L_areKeys_235 k288 N S v0 v1 va2 vi2 v3 v4 v5 v6 v7 v9 v10 v11) (fun S' r => ∀ f', pw_W q (n, f') S' → Q (some (.int r)) (n, f')) → np_G X 235 [(0, .ref (pw_pl 61 v0)), (1, .int v1), (2, .ref (pw_pl va2 vi2)), (3, .int v3), (4, .int v4), (5, .int v5), (6, .int v6), (7, .int v7), (9, .int v9), (10, .int v10), (11, .int v11)] [] (n, f) ce sl := by
  intro N
  induction N with
  | zero =>
    intro S v0 v1 va2 vi2 v3 v4 v5 v6 v7 v9 v10 v11 f ce sl hv0 ha2 hi2 hc hs hW h
    exact (pw_pn h).elim
  | succ N ih =>
    intro S v0 v1 va2 vi2 v3 v4 v5 v6 v7 v9 v10 v11 f ce sl hv0 ha2 hi2 hc hs hW h
    unfold m_L_areKeys_235 at h
    refine np_soundW (so_L_areKeys hX hR) [8, 22, 73, 235, 288, 294] 400 235 _ _ _ _ _ ?_
    conv => whnf
    refine np_rd_i (hW.ga ha2 hi2) ?_
    conv => whnf
    refine pw_ck h (fun _ h => ?_)
    conv => whnf
    refine pw_br h (fun _ h => ?_) (fun _ h => ?_)
    · conv => whnf
      exact np_gl (hk288 S v0 v1 va2 vi2 v3 v4 v5 v6 v9 v10 f _ _ hv0 ha2 hi2 (by omega) (by omega) hW h) ⟨rfl, rfl, rfl, rfl, rfl, rfl, rfl, rfl, rfl, trivial⟩
    · conv => whnf
      refine pw_br h (fun _ h => ?_) (fun _ h => ?_)
      · conv => whnf
        exact np_gl (hk288 S v0 v1 va2 vi2 v3 v4 v5 v6 v9 v10 f _ _ hv0 ha2 hi2 (by omega) (by omega) hW h) ⟨rfl, rfl, rfl, rfl, rfl, rfl, rfl, rfl, rfl, trivial⟩
      · conv => whnf
        refine np_rd_i (hW.g hv0) ?_
        conv => whnf
        refine np_chk_i (pw_and rfl (pw_and rfl (pw_and rfl (pw_and rfl ((pw_and (pw_le (by omega)) (pw_le (by omega)))))))) ?_
        conv => whnf
        refine ⟨q, S, v0, (1 - v5), v11, v1, 0, rfl, hv0, hW, pw_bd h (fun S1 r4 h f2 hW3 => ?_)⟩
        rcases r4 with r6 | e7
        · replace h := pw_ei h
          conv => whnf
          refine pw_br h (fun _ h => ?_) (fun _ h => ?_)
          · conv => whnf
            refine pw_st h (fun z8 h => ?_)
            conv => whnf
            refine pw_st h (fun z9 h => ?_)
            conv => whnf
            exact np_gl (ih S1 v0 v1 va2 vi2 v3 v4 v5 v6 v7 v9 z8 z9 f2 _ _ hv0 ha2 hi2 (by omega) (by omega) hW3 h) ⟨rfl, rfl, rfl, rfl, rfl, rfl, rfl, rfl, rfl, rfl, rfl, trivial⟩
          · conv => whnf
            refine pw_st h (fun z10 h => ?_)
            conv => whnf
            refine pw_st h (fun z11 h => ?_)
            conv => whnf
            exact np_gl (ih S1 v0 v1 va2 vi2 v3 v4 v5 v6 v7 v9 z10 z11 f2 _ _ hv0 ha2 hi2 (by omega) (by omega) hW3 h) ⟨rfl, rfl, rfl, rfl, rfl, rfl, rfl, rfl, rfl, rfl, rfl, trivial⟩
        · exact (pw_pn h).elim
noncomputable def m_L_areKeys_294 (k366 : pw_S → Nat → Int32 → Nat → Nat → Int32 → Int32 → Int32 → Int32 → Int32 → Int32 → Int32 → pw_R Int32) : Nat → pw_S → Nat → Int32 → Nat → Nat → Int32 → Int32 → Int32 → Int32 → Int32 → Int32 → Int32 → Int32 → pw_R Int32
| 0, _, _, _, _, _, _, _, _, _, _, _, _, _ => none
| N + 1, S, v0, v1, va2, vi2, v3, v4, v5, v6, v9, v10, v11, v12 =>
 if 24 ≤ v12 then
 (k366 S v0 v1 va2 vi2 v3 v4 v5 v6 v9 v10 v11)
 else
 (if v10 < 0 then
 (k366 S v0 v1 va2 vi2 v3 v4 v5 v6 v9 v10 v11)
 else
 (if v9 = 0 then
 (k366 S v0 v1 va2 vi2 v3 v4 v5 v6 v9 v10 v11)
 else
 (if v11 = 0 then
 (pw_b (m_X11_cell S v0 v5 v6 (v12 / 3) (v12 - v12 / 3 * 3)) fun S12 r15 =>
 pw_e r15 (fun r17 =>
 (pw_b (m_X11_cell S12 v0 (1 - v5) v10 (v12 / 3) (v12 - v12 / 3 * 3)) fun S19 r22 =>
 pw_e r22 (fun r24 =>
 (if r17 = r24 then
 (pw_l (0 : Int32) fun z26 =>
 pw_l (v12 + 1 : Int32) fun z27 =>
 m_L_areKeys_294 k366 N S19 v0 v1 va2 vi2 v3 v4 v5 v6 v9 v10 z26 z27)
 else
 (pw_l (1 : Int32) fun z28 =>
 pw_l (v12 + 1 : Int32) fun z29 =>
 m_L_areKeys_294 k366 N S19 v0 v1 va2 vi2 v3 v4 v5 v6 v9 v10 z28 z29))) (fun _ => none))) (fun _ => none))
 else
 (pw_l (1 : Int32) fun z30 =>
 pw_l (v12 + 1 : Int32) fun z31 =>
 m_L_areKeys_294 k366 N S v0 v1 va2 vi2 v3 v4 v5 v6 v9 v10 z30 z31))))
set_option maxRecDepth 100000 in
set_option maxHeartbeats 8000000 in
theorem L_L_areKeys_294 {X : np_Ctx} (hX : np_ok RL cL_areKeys 13 7 160 2510 15060 .ireturn X) {Q : Option Value → np_W → Prop} {q : Nat} {n dc ds : Nat} (hR : ∀ st w ce sl, np_rt (some .boolean) 2510 15060 Q st w ce sl → X.2.2.1 st w ce sl) {k366 : pw_S → Nat → Int32 → Nat → Nat → Int32 → Int32 → Int32 → Int32 → Int32 → Int32 → Int32 → pw_R Int32} (hk366 : ∀ (S : pw_S) (v0 : Nat) (v1 : Int32) (va2 : Nat) (vi2 : Nat) (v3 : Int32) (v4 : Int32) (v5 : Int32) (v6 : Int32) (v9 : Int32) (v10 : Int32) (v11 : Int32) (f : Nat → Option np_E) (ce sl : Nat) (hv0 : pw_ok q 61 v0 = true) (ha2 : pw_arr va2 = true) (hi2 : pw_ok q va2 vi2 = true), ce + dc ≤ 2510 → sl + ds ≤ 15060 → pw_W q (n, f) S → pw_p (k366 S v0 v1 va2 vi2 v3 v4 v5 v6 v9 v10 v11) (fun S' r => ∀ f', pw_W q (n, f') S' → Q (some (.int r)) (n, f')) → np_G X 366 [(0, .ref (pw_pl 61 v0)), (1, .int v1), (2, .ref (pw_pl va2 vi2)), (3, .int v3), (4, .int v4), (5, .int v5), (6, .int v6), (9, .int v9), (10, .int v10), (11, .int v11)] [] (n, f) ce sl) : ∀ (N : Nat) (S : pw_S) (v0 : Nat) (v1 : Int32) (va2 : Nat) (vi2 : Nat) (v3 : Int32) (v4 : Int32) (v5 : Int32) (v6 : Int32) (v9 : Int32) (v10 : Int32) (v11 : Int32) (v12 : Int32) (f : Nat → Option np_E) (ce sl : Nat) (hv0 : pw_ok q 61 v0 = true) (ha2 : pw_arr va2 = true) (hi2 : pw_ok q va2 vi2 = true), ce + N * 2 + dc ≤ 2510 → sl + N * 12 + ds ≤ 15060 → pw_W q (n, f) S → pw_p (m_L_areKeys_294 k366 N S v0 v1 va2 vi2 v3 v4 v5 v6 v9 v10 v11 v12) (fun S' r => ∀ f', pw_W q (n, f') S' → Q (some (.int r)) (n, f')) → np_G X 294 [(0, .ref (pw_pl 61 v0)), (1, .int v1), (2, .ref (pw_pl va2 vi2)), (3, .int v3), (4, .int v4), (5, .int v5), (6, .int v6), (9, .int v9), (10, .int v10), (11, .int v11), (12, .int v12)] [] (n, f) ce sl := by
  intro N
  induction N with
  | zero =>
    intro S v0 v1 va2 vi2 v3 v4 v5 v6 v9 v10 v11 v12 f ce sl hv0 ha2 hi2 hc hs hW h
    exact (pw_pn h).elim
  | succ N ih =>
    intro S v0 v1 va2 vi2 v3 v4 v5 v6 v9 v10 v11 v12 f ce sl hv0 ha2 hi2 hc hs hW h
    unfold m_L_areKeys_294 at h
    refine np_soundW (so_L_areKeys hX hR) [8, 22, 73, 235, 294, 366] 400 294 _ _ _ _ _ ?_
    conv => whnf
    refine pw_br h (fun _ h => ?_) (fun _ h => ?_)
    · conv => whnf
      exact np_gl (hk366 S v0 v1 va2 vi2 v3 v4 v5 v6 v9 v10 v11 f _ _ hv0 ha2 hi2 (by omega) (by omega) hW h) ⟨rfl, rfl, rfl, rfl, rfl, rfl, rfl, rfl, rfl, rfl, trivial⟩
    · conv => whnf
      refine pw_br h (fun _ h => ?_) (fun _ h => ?_)
      · conv => whnf
        exact np_gl (hk366 S v0 v1 va2 vi2 v3 v4 v5 v6 v9 v10 v11 f _ _ hv0 ha2 hi2 (by omega) (by omega) hW h) ⟨rfl, rfl, rfl, rfl, rfl, rfl, rfl, rfl, rfl, rfl, trivial⟩
      · conv => whnf
        refine pw_br h (fun _ h => ?_) (fun _ h => ?_)
        · conv => whnf
          exact np_gl (hk366 S v0 v1 va2 vi2 v3 v4 v5 v6 v9 v10 v11 f _ _ hv0 ha2 hi2 (by omega) (by omega) hW h) ⟨rfl, rfl, rfl, rfl, rfl, rfl, rfl, rfl, rfl, rfl, trivial⟩
        · conv => whnf
          refine pw_br h (fun _ h => ?_) (fun _ h => ?_)
          · conv => whnf
            refine np_rd_i (hW.g hv0) ?_
            conv => whnf
            refine np_chk_i (pw_and rfl (pw_and rfl (pw_and rfl (pw_and rfl ((pw_and (pw_le (by omega)) (pw_le (by omega)))))))) ?_
            conv => whnf
            refine ⟨q, S, v0, v5, v6, (v12 / 3), (v12 - v12 / 3 * 3), rfl, hv0, hW, pw_bd h (fun S12 r15 h f13 hW14 => ?_)⟩
            rcases r15 with r17 | e18
            · replace h := pw_ei h
              conv => whnf
              refine np_rd_i (hW14.g hv0) ?_
              conv => whnf
              refine np_chk_i (pw_and rfl (pw_and rfl (pw_and rfl (pw_and rfl ((pw_and (pw_le (by omega)) (pw_le (by omega)))))))) ?_
              conv => whnf
              refine ⟨q, S12, v0, (1 - v5), v10, (v12 / 3), (v12 - v12 / 3 * 3), rfl, hv0, hW14, pw_bd h (fun S19 r22 h f20 hW21 => ?_)⟩
              rcases r22 with r24 | e25
              · replace h := pw_ei h
                conv => whnf
                refine pw_br h (fun _ h => ?_) (fun _ h => ?_)
                · conv => whnf
                  refine pw_st h (fun z26 h => ?_)
                  conv => whnf
                  refine pw_st h (fun z27 h => ?_)
                  conv => whnf
                  exact np_gl (ih S19 v0 v1 va2 vi2 v3 v4 v5 v6 v9 v10 z26 z27 f20 _ _ hv0 ha2 hi2 (by omega) (by omega) hW21 h) ⟨rfl, rfl, rfl, rfl, rfl, rfl, rfl, rfl, rfl, rfl, rfl, trivial⟩
                · conv => whnf
                  refine pw_st h (fun z28 h => ?_)
                  conv => whnf
                  refine pw_st h (fun z29 h => ?_)
                  conv => whnf
                  exact np_gl (ih S19 v0 v1 va2 vi2 v3 v4 v5 v6 v9 v10 z28 z29 f20 _ _ hv0 ha2 hi2 (by omega) (by omega) hW21 h) ⟨rfl, rfl, rfl, rfl, rfl, rfl, rfl, rfl, rfl, rfl, rfl, trivial⟩
              · exact (pw_pn h).elim
            · exact (pw_pn h).elim
          · conv => whnf
            refine pw_st h (fun z30 h => ?_)
            conv => whnf
            refine pw_st h (fun z31 h => ?_)
            conv => whnf
            exact np_gl (ih S v0 v1 va2 vi2 v3 v4 v5 v6 v9 v10 z30 z31 f _ _ hv0 ha2 hi2 (by omega) (by omega) hW h) ⟨rfl, rfl, rfl, rfl, rfl, rfl, rfl, rfl, rfl, rfl, rfl, trivial⟩
noncomputable def m_L_areKeys_73 (k161 : pw_S → Nat → Int32 → Nat → Nat → Int32 → Int32 → Int32 → Int32 → Int32 → Int32 → pw_R Int32) : Nat → pw_S → Nat → Int32 → Nat → Nat → Int32 → Int32 → Int32 → Int32 → Int32 → Int32 → Int32 → pw_R Int32
| 0, _, _, _, _, _, _, _, _, _, _, _, _ => none
| N + 1, S, v0, v1, va2, vi2, v3, v5, v6, v7, v8, v9, v10 =>
 pw_c (np_inb (5 + (6 * v5)) (pw_len va2)) <|
 if (S va2 vi2 ((5 + (6 * v5)) : Int32).toNatClampNeg) ≤ v10 then
 (k161 S v0 v1 va2 vi2 v3 v5 v6 v7 v8 v9)
 else
 (pw_b (m_X11_cell S v0 v5 v10 v1 0) fun S32 r35 =>
 pw_e r35 (fun r37 =>
 (if r37 = v7 then
 (pw_l (1 : Int32) fun z39 =>
 if z39 = 0 then
 (pw_l ((v8 + 0) : Int32) fun z40 =>
 if v9 = 0 then
 (pw_l (0 : Int32) fun z41 =>
 pw_l (v10 + 1 : Int32) fun z42 =>
 m_L_areKeys_73 k161 N S32 v0 v1 va2 vi2 v3 v5 v6 v7 z40 z41 z42)
 else
 (if z39 = 0 then
 (pw_l (1 : Int32) fun z43 =>
 pw_l (v10 + 1 : Int32) fun z44 =>
 m_L_areKeys_73 k161 N S32 v0 v1 va2 vi2 v3 v5 v6 v7 z40 z43 z44)
 else
 (if v6 < v10 then
 (pw_l (0 : Int32) fun z45 =>
 pw_l (v10 + 1 : Int32) fun z46 =>
 m_L_areKeys_73 k161 N S32 v0 v1 va2 vi2 v3 v5 v6 v7 z40 z45 z46)
 else
 (pw_l (1 : Int32) fun z47 =>
 pw_l (v10 + 1 : Int32) fun z48 =>
 m_L_areKeys_73 k161 N S32 v0 v1 va2 vi2 v3 v5 v6 v7 z40 z47 z48))))
 else
 (if v6 ≤ v10 then
 (pw_l ((v8 + 0) : Int32) fun z49 =>
 if v9 = 0 then
 (pw_l (0 : Int32) fun z50 =>
 pw_l (v10 + 1 : Int32) fun z51 =>
 m_L_areKeys_73 k161 N S32 v0 v1 va2 vi2 v3 v5 v6 v7 z49 z50 z51)
 else
 (if z39 = 0 then
 (pw_l (1 : Int32) fun z52 =>
 pw_l (v10 + 1 : Int32) fun z53 =>
 m_L_areKeys_73 k161 N S32 v0 v1 va2 vi2 v3 v5 v6 v7 z49 z52 z53)
 else
 (if v6 < v10 then
 (pw_l (0 : Int32) fun z54 =>
 pw_l (v10 + 1 : Int32) fun z55 =>
 m_L_areKeys_73 k161 N S32 v0 v1 va2 vi2 v3 v5 v6 v7 z49 z54 z55)
 else
 (pw_l (1 : Int32) fun z56 =>
 pw_l (v10 + 1 : Int32) fun z57 =>
 m_L_areKeys_73 k161 N S32 v0 v1 va2 vi2 v3 v5 v6 v7 z49 z56 z57))))
 else
 (pw_l ((v8 + 1) : Int32) fun z58 =>
 if v9 = 0 then
 (pw_l (0 : Int32) fun z59 =>
 pw_l (v10 + 1 : Int32) fun z60 =>
 m_L_areKeys_73 k161 N S32 v0 v1 va2 vi2 v3 v5 v6 v7 z58 z59 z60)
 else
 (if z39 = 0 then
 (pw_l (1 : Int32) fun z61 =>
 pw_l (v10 + 1 : Int32) fun z62 =>
 m_L_areKeys_73 k161 N S32 v0 v1 va2 vi2 v3 v5 v6 v7 z58 z61 z62)
 else
 (if v6 < v10 then
 (pw_l (0 : Int32) fun z63 =>
 pw_l (v10 + 1 : Int32) fun z64 =>
 m_L_areKeys_73 k161 N S32 v0 v1 va2 vi2 v3 v5 v6 v7 z58 z63 z64)
 else
 (pw_l (1 : Int32) fun z65 =>
 pw_l (v10 + 1 : Int32) fun z66 =>
 m_L_areKeys_73 k161 N S32 v0 v1 va2 vi2 v3 v5 v6 v7 z58 z65 z66))))))
 else
 (pw_l (0 : Int32) fun z67 =>
 if z67 = 0 then
 (pw_l ((v8 + 0) : Int32) fun z68 =>
 if v9 = 0 then
 (pw_l (0 : Int32) fun z69 =>
 pw_l (v10 + 1 : Int32) fun z70 =>
 m_L_areKeys_73 k161 N S32 v0 v1 va2 vi2 v3 v5 v6 v7 z68 z69 z70)
 else
 (if z67 = 0 then
 (pw_l (1 : Int32) fun z71 =>
 pw_l (v10 + 1 : Int32) fun z72 =>
 m_L_areKeys_73 k161 N S32 v0 v1 va2 vi2 v3 v5 v6 v7 z68 z71 z72)
 else
 (if v6 < v10 then
 (pw_l (0 : Int32) fun z73 =>
 pw_l (v10 + 1 : Int32) fun z74 =>
 m_L_areKeys_73 k161 N S32 v0 v1 va2 vi2 v3 v5 v6 v7 z68 z73 z74)
 else
 (pw_l (1 : Int32) fun z75 =>
 pw_l (v10 + 1 : Int32) fun z76 =>
 m_L_areKeys_73 k161 N S32 v0 v1 va2 vi2 v3 v5 v6 v7 z68 z75 z76))))
 else
 (if v6 ≤ v10 then
 (pw_l ((v8 + 0) : Int32) fun z77 =>
 if v9 = 0 then
 (pw_l (0 : Int32) fun z78 =>
 pw_l (v10 + 1 : Int32) fun z79 =>
 m_L_areKeys_73 k161 N S32 v0 v1 va2 vi2 v3 v5 v6 v7 z77 z78 z79)
 else
 (if z67 = 0 then
 (pw_l (1 : Int32) fun z80 =>
 pw_l (v10 + 1 : Int32) fun z81 =>
 m_L_areKeys_73 k161 N S32 v0 v1 va2 vi2 v3 v5 v6 v7 z77 z80 z81)
 else
 (if v6 < v10 then
 (pw_l (0 : Int32) fun z82 =>
 pw_l (v10 + 1 : Int32) fun z83 =>
 m_L_areKeys_73 k161 N S32 v0 v1 va2 vi2 v3 v5 v6 v7 z77 z82 z83)
 else
 (pw_l (1 : Int32) fun z84 =>
 pw_l (v10 + 1 : Int32) fun z85 =>
 m_L_areKeys_73 k161 N S32 v0 v1 va2 vi2 v3 v5 v6 v7 z77 z84 z85))))
 else
 (pw_l ((v8 + 1) : Int32) fun z86 =>
 if v9 = 0 then
 (pw_l (0 : Int32) fun z87 =>
 pw_l (v10 + 1 : Int32) fun z88 =>
 m_L_areKeys_73 k161 N S32 v0 v1 va2 vi2 v3 v5 v6 v7 z86 z87 z88)
 else
 (if z67 = 0 then
 (pw_l (1 : Int32) fun z89 =>
 pw_l (v10 + 1 : Int32) fun z90 =>
 m_L_areKeys_73 k161 N S32 v0 v1 va2 vi2 v3 v5 v6 v7 z86 z89 z90)
 else
 (if v6 < v10 then
 (pw_l (0 : Int32) fun z91 =>
 pw_l (v10 + 1 : Int32) fun z92 =>
 m_L_areKeys_73 k161 N S32 v0 v1 va2 vi2 v3 v5 v6 v7 z86 z91 z92)
 else
 (pw_l (1 : Int32) fun z93 =>
 pw_l (v10 + 1 : Int32) fun z94 =>
 m_L_areKeys_73 k161 N S32 v0 v1 va2 vi2 v3 v5 v6 v7 z86 z93 z94)))))))) (fun _ => none))
set_option maxRecDepth 100000 in
set_option maxHeartbeats 8000000 in
theorem L_L_areKeys_73 {X : np_Ctx} (hX : np_ok RL cL_areKeys 13 7 160 2510 15060 .ireturn X) {Q : Option Value → np_W → Prop} {q : Nat} {n dc ds : Nat} (hR : ∀ st w ce sl, np_rt (some .boolean) 2510 15060 Q st w ce sl → X.2.2.1 st w ce sl) {k161 : pw_S → Nat → Int32 → Nat → Nat → Int32 → Int32 → Int32 → Int32 → Int32 → Int32 → pw_R Int32} (hk161 : ∀ (S : pw_S) (v0 : Nat) (v1 : Int32) (va2 : Nat) (vi2 : Nat) (v3 : Int32) (v5 : Int32) (v6 : Int32) (v7 : Int32) (v8 : Int32) (v9 : Int32) (f : Nat → Option np_E) (ce sl : Nat) (hv0 : pw_ok q 61 v0 = true) (ha2 : pw_arr va2 = true) (hi2 : pw_ok q va2 vi2 = true), ce + dc ≤ 2510 → sl + ds ≤ 15060 → pw_W q (n, f) S → pw_p (k161 S v0 v1 va2 vi2 v3 v5 v6 v7 v8 v9) (fun S' r => ∀ f', pw_W q (n, f') S' → Q (some (.int r)) (n, f')) → np_G X 161 [(0, .ref (pw_pl 61 v0)), (1, .int v1), (2, .ref (pw_pl va2 vi2)), (3, .int v3), (5, .int v5), (6, .int v6), (7, .int v7), (8, .int v8), (9, .int v9)] [] (n, f) ce sl) : ∀ (N : Nat) (S : pw_S) (v0 : Nat) (v1 : Int32) (va2 : Nat) (vi2 : Nat) (v3 : Int32) (v5 : Int32) (v6 : Int32) (v7 : Int32) (v8 : Int32) (v9 : Int32) (v10 : Int32) (f : Nat → Option np_E) (ce sl : Nat) (hv0 : pw_ok q 61 v0 = true) (ha2 : pw_arr va2 = true) (hi2 : pw_ok q va2 vi2 = true), ce + N * 1 + dc ≤ 2510 → sl + N * 6 + ds ≤ 15060 → pw_W q (n, f) S → pw_p (m_L_areKeys_73 k161 N S v0 v1 va2 vi2 v3 v5 v6 v7 v8 v9 v10) (fun S' r => ∀ f', pw_W q (n, f') S' → Q (some (.int r)) (n, f')) → np_G X 73 [(0, .ref (pw_pl 61 v0)), (1, .int v1), (2, .ref (pw_pl va2 vi2)), (3, .int v3), (5, .int v5), (6, .int v6), (7, .int v7), (8, .int v8), (9, .int v9), (10, .int v10)] [] (n, f) ce sl := by
  intro N
  induction N with
  | zero =>
    intro S v0 v1 va2 vi2 v3 v5 v6 v7 v8 v9 v10 f ce sl hv0 ha2 hi2 hc hs hW h
    exact (pw_pn h).elim
  | succ N ih =>
    intro S v0 v1 va2 vi2 v3 v5 v6 v7 v8 v9 v10 f ce sl hv0 ha2 hi2 hc hs hW h
    unfold m_L_areKeys_73 at h
    refine np_soundW (so_L_areKeys hX hR) [8, 22, 73, 161, 235, 294] 400 73 _ _ _ _ _ ?_
    conv => whnf
    refine np_rd_i (hW.ga ha2 hi2) ?_
    conv => whnf
    refine pw_ck h (fun _ h => ?_)
    conv => whnf
    refine pw_br h (fun _ h => ?_) (fun _ h => ?_)
    · conv => whnf
      exact np_gl (hk161 S v0 v1 va2 vi2 v3 v5 v6 v7 v8 v9 f _ _ hv0 ha2 hi2 (by omega) (by omega) hW h) ⟨rfl, rfl, rfl, rfl, rfl, rfl, rfl, rfl, rfl, trivial⟩
    · conv => whnf
      refine np_rd_i (hW.g hv0) ?_
      conv => whnf
      refine np_chk_i (pw_and rfl (pw_and rfl (pw_and rfl (pw_and rfl ((pw_and (pw_le (by omega)) (pw_le (by omega)))))))) ?_
      conv => whnf
      refine ⟨q, S, v0, v5, v10, v1, 0, rfl, hv0, hW, pw_bd h (fun S32 r35 h f33 hW34 => ?_)⟩
      rcases r35 with r37 | e38
      · replace h := pw_ei h
        conv => whnf
        refine pw_br h (fun _ h => ?_) (fun _ h => ?_)
        · conv => whnf
          refine pw_st h (fun z39 h => ?_)
          conv => whnf
          refine pw_br h (fun _ h => ?_) (fun _ h => ?_)
          · conv => whnf
            refine pw_st h (fun z40 h => ?_)
            conv => whnf
            refine pw_br h (fun _ h => ?_) (fun _ h => ?_)
            · conv => whnf
              refine pw_st h (fun z41 h => ?_)
              conv => whnf
              refine pw_st h (fun z42 h => ?_)
              conv => whnf
              exact np_gl (ih S32 v0 v1 va2 vi2 v3 v5 v6 v7 z40 z41 z42 f33 _ _ hv0 ha2 hi2 (by omega) (by omega) hW34 h) ⟨rfl, rfl, rfl, rfl, rfl, rfl, rfl, rfl, rfl, rfl, trivial⟩
            · conv => whnf
              refine pw_br h (fun _ h => ?_) (fun _ h => ?_)
              · conv => whnf
                refine pw_st h (fun z43 h => ?_)
                conv => whnf
                refine pw_st h (fun z44 h => ?_)
                conv => whnf
                exact np_gl (ih S32 v0 v1 va2 vi2 v3 v5 v6 v7 z40 z43 z44 f33 _ _ hv0 ha2 hi2 (by omega) (by omega) hW34 h) ⟨rfl, rfl, rfl, rfl, rfl, rfl, rfl, rfl, rfl, rfl, trivial⟩
              · conv => whnf
                refine pw_br h (fun _ h => ?_) (fun _ h => ?_)
                · conv => whnf
                  refine pw_st h (fun z45 h => ?_)
                  conv => whnf
                  refine pw_st h (fun z46 h => ?_)
                  conv => whnf
                  exact np_gl (ih S32 v0 v1 va2 vi2 v3 v5 v6 v7 z40 z45 z46 f33 _ _ hv0 ha2 hi2 (by omega) (by omega) hW34 h) ⟨rfl, rfl, rfl, rfl, rfl, rfl, rfl, rfl, rfl, rfl, trivial⟩
                · conv => whnf
                  refine pw_st h (fun z47 h => ?_)
                  conv => whnf
                  refine pw_st h (fun z48 h => ?_)
                  conv => whnf
                  exact np_gl (ih S32 v0 v1 va2 vi2 v3 v5 v6 v7 z40 z47 z48 f33 _ _ hv0 ha2 hi2 (by omega) (by omega) hW34 h) ⟨rfl, rfl, rfl, rfl, rfl, rfl, rfl, rfl, rfl, rfl, trivial⟩
          · conv => whnf
            refine pw_br h (fun _ h => ?_) (fun _ h => ?_)
            · conv => whnf
              refine pw_st h (fun z49 h => ?_)
              conv => whnf
              refine pw_br h (fun _ h => ?_) (fun _ h => ?_)
              · conv => whnf
                refine pw_st h (fun z50 h => ?_)
                conv => whnf
                refine pw_st h (fun z51 h => ?_)
                conv => whnf
                exact np_gl (ih S32 v0 v1 va2 vi2 v3 v5 v6 v7 z49 z50 z51 f33 _ _ hv0 ha2 hi2 (by omega) (by omega) hW34 h) ⟨rfl, rfl, rfl, rfl, rfl, rfl, rfl, rfl, rfl, rfl, trivial⟩
              · conv => whnf
                refine pw_br h (fun _ h => ?_) (fun _ h => ?_)
                · conv => whnf
                  refine pw_st h (fun z52 h => ?_)
                  conv => whnf
                  refine pw_st h (fun z53 h => ?_)
                  conv => whnf
                  exact np_gl (ih S32 v0 v1 va2 vi2 v3 v5 v6 v7 z49 z52 z53 f33 _ _ hv0 ha2 hi2 (by omega) (by omega) hW34 h) ⟨rfl, rfl, rfl, rfl, rfl, rfl, rfl, rfl, rfl, rfl, trivial⟩
                · conv => whnf
                  refine pw_br h (fun _ h => ?_) (fun _ h => ?_)
                  · conv => whnf
                    refine pw_st h (fun z54 h => ?_)
                    conv => whnf
                    refine pw_st h (fun z55 h => ?_)
                    conv => whnf
                    exact np_gl (ih S32 v0 v1 va2 vi2 v3 v5 v6 v7 z49 z54 z55 f33 _ _ hv0 ha2 hi2 (by omega) (by omega) hW34 h) ⟨rfl, rfl, rfl, rfl, rfl, rfl, rfl, rfl, rfl, rfl, trivial⟩
                  · conv => whnf
                    refine pw_st h (fun z56 h => ?_)
                    conv => whnf
                    refine pw_st h (fun z57 h => ?_)
                    conv => whnf
                    exact np_gl (ih S32 v0 v1 va2 vi2 v3 v5 v6 v7 z49 z56 z57 f33 _ _ hv0 ha2 hi2 (by omega) (by omega) hW34 h) ⟨rfl, rfl, rfl, rfl, rfl, rfl, rfl, rfl, rfl, rfl, trivial⟩
            · conv => whnf
              refine pw_st h (fun z58 h => ?_)
              conv => whnf
              refine pw_br h (fun _ h => ?_) (fun _ h => ?_)
              · conv => whnf
                refine pw_st h (fun z59 h => ?_)
                conv => whnf
                refine pw_st h (fun z60 h => ?_)
                conv => whnf
                exact np_gl (ih S32 v0 v1 va2 vi2 v3 v5 v6 v7 z58 z59 z60 f33 _ _ hv0 ha2 hi2 (by omega) (by omega) hW34 h) ⟨rfl, rfl, rfl, rfl, rfl, rfl, rfl, rfl, rfl, rfl, trivial⟩
              · conv => whnf
                refine pw_br h (fun _ h => ?_) (fun _ h => ?_)
                · conv => whnf
                  refine pw_st h (fun z61 h => ?_)
                  conv => whnf
                  refine pw_st h (fun z62 h => ?_)
                  conv => whnf
                  exact np_gl (ih S32 v0 v1 va2 vi2 v3 v5 v6 v7 z58 z61 z62 f33 _ _ hv0 ha2 hi2 (by omega) (by omega) hW34 h) ⟨rfl, rfl, rfl, rfl, rfl, rfl, rfl, rfl, rfl, rfl, trivial⟩
                · conv => whnf
                  refine pw_br h (fun _ h => ?_) (fun _ h => ?_)
                  · conv => whnf
                    refine pw_st h (fun z63 h => ?_)
                    conv => whnf
                    refine pw_st h (fun z64 h => ?_)
                    conv => whnf
                    exact np_gl (ih S32 v0 v1 va2 vi2 v3 v5 v6 v7 z58 z63 z64 f33 _ _ hv0 ha2 hi2 (by omega) (by omega) hW34 h) ⟨rfl, rfl, rfl, rfl, rfl, rfl, rfl, rfl, rfl, rfl, trivial⟩
                  · conv => whnf
                    refine pw_st h (fun z65 h => ?_)
                    conv => whnf
                    refine pw_st h (fun z66 h => ?_)
                    conv => whnf
                    exact np_gl (ih S32 v0 v1 va2 vi2 v3 v5 v6 v7 z58 z65 z66 f33 _ _ hv0 ha2 hi2 (by omega) (by omega) hW34 h) ⟨rfl, rfl, rfl, rfl, rfl, rfl, rfl, rfl, rfl, rfl, trivial⟩
        · conv => whnf
          refine pw_st h (fun z67 h => ?_)
          conv => whnf
          refine pw_br h (fun _ h => ?_) (fun _ h => ?_)
          · conv => whnf
            refine pw_st h (fun z68 h => ?_)
            conv => whnf
            refine pw_br h (fun _ h => ?_) (fun _ h => ?_)
            · conv => whnf
              refine pw_st h (fun z69 h => ?_)
              conv => whnf
              refine pw_st h (fun z70 h => ?_)
              conv => whnf
              exact np_gl (ih S32 v0 v1 va2 vi2 v3 v5 v6 v7 z68 z69 z70 f33 _ _ hv0 ha2 hi2 (by omega) (by omega) hW34 h) ⟨rfl, rfl, rfl, rfl, rfl, rfl, rfl, rfl, rfl, rfl, trivial⟩
            · conv => whnf
              refine pw_br h (fun _ h => ?_) (fun _ h => ?_)
              · conv => whnf
                refine pw_st h (fun z71 h => ?_)
                conv => whnf
                refine pw_st h (fun z72 h => ?_)
                conv => whnf
                exact np_gl (ih S32 v0 v1 va2 vi2 v3 v5 v6 v7 z68 z71 z72 f33 _ _ hv0 ha2 hi2 (by omega) (by omega) hW34 h) ⟨rfl, rfl, rfl, rfl, rfl, rfl, rfl, rfl, rfl, rfl, trivial⟩
              · conv => whnf
                refine pw_br h (fun _ h => ?_) (fun _ h => ?_)
                · conv => whnf
                  refine pw_st h (fun z73 h => ?_)
                  conv => whnf
                  refine pw_st h (fun z74 h => ?_)
                  conv => whnf
                  exact np_gl (ih S32 v0 v1 va2 vi2 v3 v5 v6 v7 z68 z73 z74 f33 _ _ hv0 ha2 hi2 (by omega) (by omega) hW34 h) ⟨rfl, rfl, rfl, rfl, rfl, rfl, rfl, rfl, rfl, rfl, trivial⟩
                · conv => whnf
                  refine pw_st h (fun z75 h => ?_)
                  conv => whnf
                  refine pw_st h (fun z76 h => ?_)
                  conv => whnf
                  exact np_gl (ih S32 v0 v1 va2 vi2 v3 v5 v6 v7 z68 z75 z76 f33 _ _ hv0 ha2 hi2 (by omega) (by omega) hW34 h) ⟨rfl, rfl, rfl, rfl, rfl, rfl, rfl, rfl, rfl, rfl, trivial⟩
          · conv => whnf
            refine pw_br h (fun _ h => ?_) (fun _ h => ?_)
            · conv => whnf
              refine pw_st h (fun z77 h => ?_)
              conv => whnf
              refine pw_br h (fun _ h => ?_) (fun _ h => ?_)
              · conv => whnf
                refine pw_st h (fun z78 h => ?_)
                conv => whnf
                refine pw_st h (fun z79 h => ?_)
                conv => whnf
                exact np_gl (ih S32 v0 v1 va2 vi2 v3 v5 v6 v7 z77 z78 z79 f33 _ _ hv0 ha2 hi2 (by omega) (by omega) hW34 h) ⟨rfl, rfl, rfl, rfl, rfl, rfl, rfl, rfl, rfl, rfl, trivial⟩
              · conv => whnf
                refine pw_br h (fun _ h => ?_) (fun _ h => ?_)
                · conv => whnf
                  refine pw_st h (fun z80 h => ?_)
                  conv => whnf
                  refine pw_st h (fun z81 h => ?_)
                  conv => whnf
                  exact np_gl (ih S32 v0 v1 va2 vi2 v3 v5 v6 v7 z77 z80 z81 f33 _ _ hv0 ha2 hi2 (by omega) (by omega) hW34 h) ⟨rfl, rfl, rfl, rfl, rfl, rfl, rfl, rfl, rfl, rfl, trivial⟩
                · conv => whnf
                  refine pw_br h (fun _ h => ?_) (fun _ h => ?_)
                  · conv => whnf
                    refine pw_st h (fun z82 h => ?_)
                    conv => whnf
                    refine pw_st h (fun z83 h => ?_)
                    conv => whnf
                    exact np_gl (ih S32 v0 v1 va2 vi2 v3 v5 v6 v7 z77 z82 z83 f33 _ _ hv0 ha2 hi2 (by omega) (by omega) hW34 h) ⟨rfl, rfl, rfl, rfl, rfl, rfl, rfl, rfl, rfl, rfl, trivial⟩
                  · conv => whnf
                    refine pw_st h (fun z84 h => ?_)
                    conv => whnf
                    refine pw_st h (fun z85 h => ?_)
                    conv => whnf
                    exact np_gl (ih S32 v0 v1 va2 vi2 v3 v5 v6 v7 z77 z84 z85 f33 _ _ hv0 ha2 hi2 (by omega) (by omega) hW34 h) ⟨rfl, rfl, rfl, rfl, rfl, rfl, rfl, rfl, rfl, rfl, trivial⟩
            · conv => whnf
              refine pw_st h (fun z86 h => ?_)
              conv => whnf
              refine pw_br h (fun _ h => ?_) (fun _ h => ?_)
              · conv => whnf
                refine pw_st h (fun z87 h => ?_)
                conv => whnf
                refine pw_st h (fun z88 h => ?_)
                conv => whnf
                exact np_gl (ih S32 v0 v1 va2 vi2 v3 v5 v6 v7 z86 z87 z88 f33 _ _ hv0 ha2 hi2 (by omega) (by omega) hW34 h) ⟨rfl, rfl, rfl, rfl, rfl, rfl, rfl, rfl, rfl, rfl, trivial⟩
              · conv => whnf
                refine pw_br h (fun _ h => ?_) (fun _ h => ?_)
                · conv => whnf
                  refine pw_st h (fun z89 h => ?_)
                  conv => whnf
                  refine pw_st h (fun z90 h => ?_)
                  conv => whnf
                  exact np_gl (ih S32 v0 v1 va2 vi2 v3 v5 v6 v7 z86 z89 z90 f33 _ _ hv0 ha2 hi2 (by omega) (by omega) hW34 h) ⟨rfl, rfl, rfl, rfl, rfl, rfl, rfl, rfl, rfl, rfl, trivial⟩
                · conv => whnf
                  refine pw_br h (fun _ h => ?_) (fun _ h => ?_)
                  · conv => whnf
                    refine pw_st h (fun z91 h => ?_)
                    conv => whnf
                    refine pw_st h (fun z92 h => ?_)
                    conv => whnf
                    exact np_gl (ih S32 v0 v1 va2 vi2 v3 v5 v6 v7 z86 z91 z92 f33 _ _ hv0 ha2 hi2 (by omega) (by omega) hW34 h) ⟨rfl, rfl, rfl, rfl, rfl, rfl, rfl, rfl, rfl, rfl, trivial⟩
                  · conv => whnf
                    refine pw_st h (fun z93 h => ?_)
                    conv => whnf
                    refine pw_st h (fun z94 h => ?_)
                    conv => whnf
                    exact np_gl (ih S32 v0 v1 va2 vi2 v3 v5 v6 v7 z86 z93 z94 f33 _ _ hv0 ha2 hi2 (by omega) (by omega) hW34 h) ⟨rfl, rfl, rfl, rfl, rfl, rfl, rfl, rfl, rfl, rfl, trivial⟩
      · exact (pw_pn h).elim
noncomputable def m_L_areKeys_22 (k420 : pw_S → Nat → Int32 → Nat → Nat → Int32 → Int32 → Int32 → pw_R Int32) : Nat → pw_S → Nat → Int32 → Nat → Nat → Int32 → Int32 → Int32 → Int32 → pw_R Int32
| 0, _, _, _, _, _, _, _, _, _ => none
| N + 1, S, v0, v1, va2, vi2, v3, v4, v5, v6 =>
 pw_c (np_inb (5 + (6 * v5)) (pw_len va2)) <|
 if (S va2 vi2 ((5 + (6 * v5)) : Int32).toNatClampNeg) ≤ v6 then
 (k420 S v0 v1 va2 vi2 v3 v4 v5)
 else
 (if v4 = 0 then
 (k420 S v0 v1 va2 vi2 v3 v4 v5)
 else
 (pw_b (m_X11_cell S v0 v5 v6 v1 0) fun S95 r98 =>
 pw_e r98 (fun r100 =>
 (pw_l (r100 : Int32) fun z102 =>
 pw_l (0 : Int32) fun z103 =>
 if z102 = (-2147483648) then
 (pw_l (0 : Int32) fun z104 =>
 pw_l (0 : Int32) fun z105 =>
 m_L_areKeys_73
 (fun S119 u106 u108 u109 u110 u113 u114 u115 u116 u117 u118 =>
 (if u116 = (-2147483648) then
 (pw_l (1 : Int32) fun z122 =>
 pw_l ((-1) : Int32) fun z123 =>
 pw_l (0 : Int32) fun z124 =>
 m_L_areKeys_235
 (fun S138 u125 u127 u128 u129 u132 u133 u134 u135 u136 u137 =>
 (pw_l (0 : Int32) fun z141 =>
 pw_l (0 : Int32) fun z142 =>
 m_L_areKeys_294
 (fun S157 u143 u145 u146 u147 u150 u151 u152 u153 u154 u155 u156 =>
 (if u154 = 0 then
 (pw_l ((u150 + 0) : Int32) fun z160 =>
 pw_l (u153 + 1 : Int32) fun z161 =>
 m_L_areKeys_22 k420 N S157 u143 u145 u146 u147 z160 u151 u152 z161)
 else
 (if 0 ≤ u155 then
 (if u156 = 0 then
 (pw_l ((u150 + 0) : Int32) fun z162 =>
 pw_l (u153 + 1 : Int32) fun z163 =>
 m_L_areKeys_22 k420 N S157 u143 u145 u146 u147 z162 u151 u152 z163)
 else
 (if u152 = 0 then
 (pw_l ((u150 + 1) : Int32) fun z164 =>
 pw_l (u153 + 1 : Int32) fun z165 =>
 m_L_areKeys_22 k420 N S157 u143 u145 u146 u147 z164 u151 u152 z165)
 else
 (pw_l ((u150 + 0) : Int32) fun z166 =>
 pw_l (u153 + 1 : Int32) fun z167 =>
 m_L_areKeys_22 k420 N S157 u143 u145 u146 u147 z166 u151 u152 z167)))
 else
 (if u152 = 0 then
 (pw_l ((u150 + 100) : Int32) fun z168 =>
 pw_l (u153 + 1 : Int32) fun z169 =>
 m_L_areKeys_22 k420 N S157 u143 u145 u146 u147 z168 u151 u152 z169)
 else
 (pw_l ((u150 + 10000) : Int32) fun z170 =>
 pw_l (u153 + 1 : Int32) fun z171 =>
 m_L_areKeys_22 k420 N S157 u143 u145 u146 u147 z170 u151 u152 z171))))) (pw_F 25) S138 u125 u127 u128 u129 u132 u133 u134 u135 u136 u137 z141 z142)) (pw_F 11) S119 u106 u108 u109 u110 u113 z122 u114 u115 u116 u118 z123 z124)
 else
 (pw_b (m_X11_find S119 u106 u114 u108 u116 u117) fun S180 r183 =>
 pw_e r183 (fun r185 =>
 (if r185 = u115 then
 (pw_b (m_X11_findAnew S180 u106 u114 u108 u116 u117) fun S187 r190 =>
 pw_e r190 (fun r192 =>
 (if r192 = u115 then
 (if u118 = 0 then
 (pw_l (1 : Int32) fun z194 =>
 pw_l ((-1) : Int32) fun z195 =>
 pw_l (0 : Int32) fun z196 =>
 m_L_areKeys_235
 (fun S210 u197 u199 u200 u201 u204 u205 u206 u207 u208 u209 =>
 (pw_l (0 : Int32) fun z213 =>
 pw_l (0 : Int32) fun z214 =>
 m_L_areKeys_294
 (fun S229 u215 u217 u218 u219 u222 u223 u224 u225 u226 u227 u228 =>
 (if u226 = 0 then
 (pw_l ((u222 + 0) : Int32) fun z232 =>
 pw_l (u225 + 1 : Int32) fun z233 =>
 m_L_areKeys_22 k420 N S229 u215 u217 u218 u219 z232 u223 u224 z233)
 else
 (if 0 ≤ u227 then
 (if u228 = 0 then
 (pw_l ((u222 + 0) : Int32) fun z234 =>
 pw_l (u225 + 1 : Int32) fun z235 =>
 m_L_areKeys_22 k420 N S229 u215 u217 u218 u219 z234 u223 u224 z235)
 else
 (if u224 = 0 then
 (pw_l ((u222 + 1) : Int32) fun z236 =>
 pw_l (u225 + 1 : Int32) fun z237 =>
 m_L_areKeys_22 k420 N S229 u215 u217 u218 u219 z236 u223 u224 z237)
 else
 (pw_l ((u222 + 0) : Int32) fun z238 =>
 pw_l (u225 + 1 : Int32) fun z239 =>
 m_L_areKeys_22 k420 N S229 u215 u217 u218 u219 z238 u223 u224 z239)))
 else
 (if u224 = 0 then
 (pw_l ((u222 + 100) : Int32) fun z240 =>
 pw_l (u225 + 1 : Int32) fun z241 =>
 m_L_areKeys_22 k420 N S229 u215 u217 u218 u219 z240 u223 u224 z241)
 else
 (pw_l ((u222 + 10000) : Int32) fun z242 =>
 pw_l (u225 + 1 : Int32) fun z243 =>
 m_L_areKeys_22 k420 N S229 u215 u217 u218 u219 z242 u223 u224 z243))))) (pw_F 25) S210 u197 u199 u200 u201 u204 u205 u206 u207 u208 u209 z213 z214)) (pw_F 11) S187 u106 u108 u109 u110 u113 z194 u114 u115 u116 u118 z195 z196)
 else
 (pw_b (m_X11_find S187 u106 u114 u108 u116 (u117 + 1)) fun S252 r255 =>
 pw_e r255 (fun r257 =>
 (if r257 = (-1) then
 (pw_l (1 : Int32) fun z259 =>
 pw_l ((-1) : Int32) fun z260 =>
 pw_l (0 : Int32) fun z261 =>
 m_L_areKeys_235
 (fun S275 u262 u264 u265 u266 u269 u270 u271 u272 u273 u274 =>
 (pw_l (0 : Int32) fun z278 =>
 pw_l (0 : Int32) fun z279 =>
 m_L_areKeys_294
 (fun S294 u280 u282 u283 u284 u287 u288 u289 u290 u291 u292 u293 =>
 (if u291 = 0 then
 (pw_l ((u287 + 0) : Int32) fun z297 =>
 pw_l (u290 + 1 : Int32) fun z298 =>
 m_L_areKeys_22 k420 N S294 u280 u282 u283 u284 z297 u288 u289 z298)
 else
 (if 0 ≤ u292 then
 (if u293 = 0 then
 (pw_l ((u287 + 0) : Int32) fun z299 =>
 pw_l (u290 + 1 : Int32) fun z300 =>
 m_L_areKeys_22 k420 N S294 u280 u282 u283 u284 z299 u288 u289 z300)
 else
 (if u289 = 0 then
 (pw_l ((u287 + 1) : Int32) fun z301 =>
 pw_l (u290 + 1 : Int32) fun z302 =>
 m_L_areKeys_22 k420 N S294 u280 u282 u283 u284 z301 u288 u289 z302)
 else
 (pw_l ((u287 + 0) : Int32) fun z303 =>
 pw_l (u290 + 1 : Int32) fun z304 =>
 m_L_areKeys_22 k420 N S294 u280 u282 u283 u284 z303 u288 u289 z304)))
 else
 (if u289 = 0 then
 (pw_l ((u287 + 100) : Int32) fun z305 =>
 pw_l (u290 + 1 : Int32) fun z306 =>
 m_L_areKeys_22 k420 N S294 u280 u282 u283 u284 z305 u288 u289 z306)
 else
 (pw_l ((u287 + 10000) : Int32) fun z307 =>
 pw_l (u290 + 1 : Int32) fun z308 =>
 m_L_areKeys_22 k420 N S294 u280 u282 u283 u284 z307 u288 u289 z308))))) (pw_F 25) S275 u262 u264 u265 u266 u269 u270 u271 u272 u273 u274 z278 z279)) (pw_F 11) S252 u106 u108 u109 u110 u113 z259 u114 u115 u116 u118 z260 z261)
 else
 (pw_l (0 : Int32) fun z317 =>
 pw_l ((-1) : Int32) fun z318 =>
 pw_l (0 : Int32) fun z319 =>
 m_L_areKeys_235
 (fun S333 u320 u322 u323 u324 u327 u328 u329 u330 u331 u332 =>
 (pw_l (0 : Int32) fun z336 =>
 pw_l (0 : Int32) fun z337 =>
 m_L_areKeys_294
 (fun S352 u338 u340 u341 u342 u345 u346 u347 u348 u349 u350 u351 =>
 (if u349 = 0 then
 (pw_l ((u345 + 0) : Int32) fun z355 =>
 pw_l (u348 + 1 : Int32) fun z356 =>
 m_L_areKeys_22 k420 N S352 u338 u340 u341 u342 z355 u346 u347 z356)
 else
 (if 0 ≤ u350 then
 (if u351 = 0 then
 (pw_l ((u345 + 0) : Int32) fun z357 =>
 pw_l (u348 + 1 : Int32) fun z358 =>
 m_L_areKeys_22 k420 N S352 u338 u340 u341 u342 z357 u346 u347 z358)
 else
 (if u347 = 0 then
 (pw_l ((u345 + 1) : Int32) fun z359 =>
 pw_l (u348 + 1 : Int32) fun z360 =>
 m_L_areKeys_22 k420 N S352 u338 u340 u341 u342 z359 u346 u347 z360)
 else
 (pw_l ((u345 + 0) : Int32) fun z361 =>
 pw_l (u348 + 1 : Int32) fun z362 =>
 m_L_areKeys_22 k420 N S352 u338 u340 u341 u342 z361 u346 u347 z362)))
 else
 (if u347 = 0 then
 (pw_l ((u345 + 100) : Int32) fun z363 =>
 pw_l (u348 + 1 : Int32) fun z364 =>
 m_L_areKeys_22 k420 N S352 u338 u340 u341 u342 z363 u346 u347 z364)
 else
 (pw_l ((u345 + 10000) : Int32) fun z365 =>
 pw_l (u348 + 1 : Int32) fun z366 =>
 m_L_areKeys_22 k420 N S352 u338 u340 u341 u342 z365 u346 u347 z366))))) (pw_F 25) S333 u320 u322 u323 u324 u327 u328 u329 u330 u331 u332 z336 z337)) (pw_F 11) S252 u106 u108 u109 u110 u113 z317 u114 u115 u116 u118 z318 z319))) (fun _ => none)))
 else
 (pw_l (0 : Int32) fun z375 =>
 pw_l ((-1) : Int32) fun z376 =>
 pw_l (0 : Int32) fun z377 =>
 m_L_areKeys_235
 (fun S391 u378 u380 u381 u382 u385 u386 u387 u388 u389 u390 =>
 (pw_l (0 : Int32) fun z394 =>
 pw_l (0 : Int32) fun z395 =>
 m_L_areKeys_294
 (fun S410 u396 u398 u399 u400 u403 u404 u405 u406 u407 u408 u409 =>
 (if u407 = 0 then
 (pw_l ((u403 + 0) : Int32) fun z413 =>
 pw_l (u406 + 1 : Int32) fun z414 =>
 m_L_areKeys_22 k420 N S410 u396 u398 u399 u400 z413 u404 u405 z414)
 else
 (if 0 ≤ u408 then
 (if u409 = 0 then
 (pw_l ((u403 + 0) : Int32) fun z415 =>
 pw_l (u406 + 1 : Int32) fun z416 =>
 m_L_areKeys_22 k420 N S410 u396 u398 u399 u400 z415 u404 u405 z416)
 else
 (if u405 = 0 then
 (pw_l ((u403 + 1) : Int32) fun z417 =>
 pw_l (u406 + 1 : Int32) fun z418 =>
 m_L_areKeys_22 k420 N S410 u396 u398 u399 u400 z417 u404 u405 z418)
 else
 (pw_l ((u403 + 0) : Int32) fun z419 =>
 pw_l (u406 + 1 : Int32) fun z420 =>
 m_L_areKeys_22 k420 N S410 u396 u398 u399 u400 z419 u404 u405 z420)))
 else
 (if u405 = 0 then
 (pw_l ((u403 + 100) : Int32) fun z421 =>
 pw_l (u406 + 1 : Int32) fun z422 =>
 m_L_areKeys_22 k420 N S410 u396 u398 u399 u400 z421 u404 u405 z422)
 else
 (pw_l ((u403 + 10000) : Int32) fun z423 =>
 pw_l (u406 + 1 : Int32) fun z424 =>
 m_L_areKeys_22 k420 N S410 u396 u398 u399 u400 z423 u404 u405 z424))))) (pw_F 25) S391 u378 u380 u381 u382 u385 u386 u387 u388 u389 u390 z394 z395)) (pw_F 11) S187 u106 u108 u109 u110 u113 z375 u114 u115 u116 u118 z376 z377))) (fun _ => none))
 else
 (pw_l (0 : Int32) fun z433 =>
 pw_l ((-1) : Int32) fun z434 =>
 pw_l (0 : Int32) fun z435 =>
 m_L_areKeys_235
 (fun S449 u436 u438 u439 u440 u443 u444 u445 u446 u447 u448 =>
 (pw_l (0 : Int32) fun z452 =>
 pw_l (0 : Int32) fun z453 =>
 m_L_areKeys_294
 (fun S468 u454 u456 u457 u458 u461 u462 u463 u464 u465 u466 u467 =>
 (if u465 = 0 then
 (pw_l ((u461 + 0) : Int32) fun z471 =>
 pw_l (u464 + 1 : Int32) fun z472 =>
 m_L_areKeys_22 k420 N S468 u454 u456 u457 u458 z471 u462 u463 z472)
 else
 (if 0 ≤ u466 then
 (if u467 = 0 then
 (pw_l ((u461 + 0) : Int32) fun z473 =>
 pw_l (u464 + 1 : Int32) fun z474 =>
 m_L_areKeys_22 k420 N S468 u454 u456 u457 u458 z473 u462 u463 z474)
 else
 (if u463 = 0 then
 (pw_l ((u461 + 1) : Int32) fun z475 =>
 pw_l (u464 + 1 : Int32) fun z476 =>
 m_L_areKeys_22 k420 N S468 u454 u456 u457 u458 z475 u462 u463 z476)
 else
 (pw_l ((u461 + 0) : Int32) fun z477 =>
 pw_l (u464 + 1 : Int32) fun z478 =>
 m_L_areKeys_22 k420 N S468 u454 u456 u457 u458 z477 u462 u463 z478)))
 else
 (if u463 = 0 then
 (pw_l ((u461 + 100) : Int32) fun z479 =>
 pw_l (u464 + 1 : Int32) fun z480 =>
 m_L_areKeys_22 k420 N S468 u454 u456 u457 u458 z479 u462 u463 z480)
 else
 (pw_l ((u461 + 10000) : Int32) fun z481 =>
 pw_l (u464 + 1 : Int32) fun z482 =>
 m_L_areKeys_22 k420 N S468 u454 u456 u457 u458 z481 u462 u463 z482))))) (pw_F 25) S449 u436 u438 u439 u440 u443 u444 u445 u446 u447 u448 z452 z453)) (pw_F 11) S180 u106 u108 u109 u110 u113 z433 u114 u115 u116 u118 z434 z435))) (fun _ => none)))) (pw_F 11) S95 v0 v1 va2 vi2 v3 v5 v6 z102 z103 z104 z105)
 else
 (pw_l (1 : Int32) fun z495 =>
 pw_l (0 : Int32) fun z496 =>
 m_L_areKeys_73
 (fun S510 u497 u499 u500 u501 u504 u505 u506 u507 u508 u509 =>
 (if u507 = (-2147483648) then
 (pw_l (1 : Int32) fun z513 =>
 pw_l ((-1) : Int32) fun z514 =>
 pw_l (0 : Int32) fun z515 =>
 m_L_areKeys_235
 (fun S529 u516 u518 u519 u520 u523 u524 u525 u526 u527 u528 =>
 (pw_l (0 : Int32) fun z532 =>
 pw_l (0 : Int32) fun z533 =>
 m_L_areKeys_294
 (fun S548 u534 u536 u537 u538 u541 u542 u543 u544 u545 u546 u547 =>
 (if u545 = 0 then
 (pw_l ((u541 + 0) : Int32) fun z551 =>
 pw_l (u544 + 1 : Int32) fun z552 =>
 m_L_areKeys_22 k420 N S548 u534 u536 u537 u538 z551 u542 u543 z552)
 else
 (if 0 ≤ u546 then
 (if u547 = 0 then
 (pw_l ((u541 + 0) : Int32) fun z553 =>
 pw_l (u544 + 1 : Int32) fun z554 =>
 m_L_areKeys_22 k420 N S548 u534 u536 u537 u538 z553 u542 u543 z554)
 else
 (if u543 = 0 then
 (pw_l ((u541 + 1) : Int32) fun z555 =>
 pw_l (u544 + 1 : Int32) fun z556 =>
 m_L_areKeys_22 k420 N S548 u534 u536 u537 u538 z555 u542 u543 z556)
 else
 (pw_l ((u541 + 0) : Int32) fun z557 =>
 pw_l (u544 + 1 : Int32) fun z558 =>
 m_L_areKeys_22 k420 N S548 u534 u536 u537 u538 z557 u542 u543 z558)))
 else
 (if u543 = 0 then
 (pw_l ((u541 + 100) : Int32) fun z559 =>
 pw_l (u544 + 1 : Int32) fun z560 =>
 m_L_areKeys_22 k420 N S548 u534 u536 u537 u538 z559 u542 u543 z560)
 else
 (pw_l ((u541 + 10000) : Int32) fun z561 =>
 pw_l (u544 + 1 : Int32) fun z562 =>
 m_L_areKeys_22 k420 N S548 u534 u536 u537 u538 z561 u542 u543 z562))))) (pw_F 25) S529 u516 u518 u519 u520 u523 u524 u525 u526 u527 u528 z532 z533)) (pw_F 11) S510 u497 u499 u500 u501 u504 z513 u505 u506 u507 u509 z514 z515)
 else
 (pw_b (m_X11_find S510 u497 u505 u499 u507 u508) fun S571 r574 =>
 pw_e r574 (fun r576 =>
 (if r576 = u506 then
 (pw_b (m_X11_findAnew S571 u497 u505 u499 u507 u508) fun S578 r581 =>
 pw_e r581 (fun r583 =>
 (if r583 = u506 then
 (if u509 = 0 then
 (pw_l (1 : Int32) fun z585 =>
 pw_l ((-1) : Int32) fun z586 =>
 pw_l (0 : Int32) fun z587 =>
 m_L_areKeys_235
 (fun S601 u588 u590 u591 u592 u595 u596 u597 u598 u599 u600 =>
 (pw_l (0 : Int32) fun z604 =>
 pw_l (0 : Int32) fun z605 =>
 m_L_areKeys_294
 (fun S620 u606 u608 u609 u610 u613 u614 u615 u616 u617 u618 u619 =>
 (if u617 = 0 then
 (pw_l ((u613 + 0) : Int32) fun z623 =>
 pw_l (u616 + 1 : Int32) fun z624 =>
 m_L_areKeys_22 k420 N S620 u606 u608 u609 u610 z623 u614 u615 z624)
 else
 (if 0 ≤ u618 then
 (if u619 = 0 then
 (pw_l ((u613 + 0) : Int32) fun z625 =>
 pw_l (u616 + 1 : Int32) fun z626 =>
 m_L_areKeys_22 k420 N S620 u606 u608 u609 u610 z625 u614 u615 z626)
 else
 (if u615 = 0 then
 (pw_l ((u613 + 1) : Int32) fun z627 =>
 pw_l (u616 + 1 : Int32) fun z628 =>
 m_L_areKeys_22 k420 N S620 u606 u608 u609 u610 z627 u614 u615 z628)
 else
 (pw_l ((u613 + 0) : Int32) fun z629 =>
 pw_l (u616 + 1 : Int32) fun z630 =>
 m_L_areKeys_22 k420 N S620 u606 u608 u609 u610 z629 u614 u615 z630)))
 else
 (if u615 = 0 then
 (pw_l ((u613 + 100) : Int32) fun z631 =>
 pw_l (u616 + 1 : Int32) fun z632 =>
 m_L_areKeys_22 k420 N S620 u606 u608 u609 u610 z631 u614 u615 z632)
 else
 (pw_l ((u613 + 10000) : Int32) fun z633 =>
 pw_l (u616 + 1 : Int32) fun z634 =>
 m_L_areKeys_22 k420 N S620 u606 u608 u609 u610 z633 u614 u615 z634))))) (pw_F 25) S601 u588 u590 u591 u592 u595 u596 u597 u598 u599 u600 z604 z605)) (pw_F 11) S578 u497 u499 u500 u501 u504 z585 u505 u506 u507 u509 z586 z587)
 else
 (pw_b (m_X11_find S578 u497 u505 u499 u507 (u508 + 1)) fun S643 r646 =>
 pw_e r646 (fun r648 =>
 (if r648 = (-1) then
 (pw_l (1 : Int32) fun z650 =>
 pw_l ((-1) : Int32) fun z651 =>
 pw_l (0 : Int32) fun z652 =>
 m_L_areKeys_235
 (fun S666 u653 u655 u656 u657 u660 u661 u662 u663 u664 u665 =>
 (pw_l (0 : Int32) fun z669 =>
 pw_l (0 : Int32) fun z670 =>
 m_L_areKeys_294
 (fun S685 u671 u673 u674 u675 u678 u679 u680 u681 u682 u683 u684 =>
 (if u682 = 0 then
 (pw_l ((u678 + 0) : Int32) fun z688 =>
 pw_l (u681 + 1 : Int32) fun z689 =>
 m_L_areKeys_22 k420 N S685 u671 u673 u674 u675 z688 u679 u680 z689)
 else
 (if 0 ≤ u683 then
 (if u684 = 0 then
 (pw_l ((u678 + 0) : Int32) fun z690 =>
 pw_l (u681 + 1 : Int32) fun z691 =>
 m_L_areKeys_22 k420 N S685 u671 u673 u674 u675 z690 u679 u680 z691)
 else
 (if u680 = 0 then
 (pw_l ((u678 + 1) : Int32) fun z692 =>
 pw_l (u681 + 1 : Int32) fun z693 =>
 m_L_areKeys_22 k420 N S685 u671 u673 u674 u675 z692 u679 u680 z693)
 else
 (pw_l ((u678 + 0) : Int32) fun z694 =>
 pw_l (u681 + 1 : Int32) fun z695 =>
 m_L_areKeys_22 k420 N S685 u671 u673 u674 u675 z694 u679 u680 z695)))
 else
 (if u680 = 0 then
 (pw_l ((u678 + 100) : Int32) fun z696 =>
 pw_l (u681 + 1 : Int32) fun z697 =>
 m_L_areKeys_22 k420 N S685 u671 u673 u674 u675 z696 u679 u680 z697)
 else
 (pw_l ((u678 + 10000) : Int32) fun z698 =>
 pw_l (u681 + 1 : Int32) fun z699 =>
 m_L_areKeys_22 k420 N S685 u671 u673 u674 u675 z698 u679 u680 z699))))) (pw_F 25) S666 u653 u655 u656 u657 u660 u661 u662 u663 u664 u665 z669 z670)) (pw_F 11) S643 u497 u499 u500 u501 u504 z650 u505 u506 u507 u509 z651 z652)
 else
 (pw_l (0 : Int32) fun z708 =>
 pw_l ((-1) : Int32) fun z709 =>
 pw_l (0 : Int32) fun z710 =>
 m_L_areKeys_235
 (fun S724 u711 u713 u714 u715 u718 u719 u720 u721 u722 u723 =>
 (pw_l (0 : Int32) fun z727 =>
 pw_l (0 : Int32) fun z728 =>
 m_L_areKeys_294
 (fun S743 u729 u731 u732 u733 u736 u737 u738 u739 u740 u741 u742 =>
 (if u740 = 0 then
 (pw_l ((u736 + 0) : Int32) fun z746 =>
 pw_l (u739 + 1 : Int32) fun z747 =>
 m_L_areKeys_22 k420 N S743 u729 u731 u732 u733 z746 u737 u738 z747)
 else
 (if 0 ≤ u741 then
 (if u742 = 0 then
 (pw_l ((u736 + 0) : Int32) fun z748 =>
 pw_l (u739 + 1 : Int32) fun z749 =>
 m_L_areKeys_22 k420 N S743 u729 u731 u732 u733 z748 u737 u738 z749)
 else
 (if u738 = 0 then
 (pw_l ((u736 + 1) : Int32) fun z750 =>
 pw_l (u739 + 1 : Int32) fun z751 =>
 m_L_areKeys_22 k420 N S743 u729 u731 u732 u733 z750 u737 u738 z751)
 else
 (pw_l ((u736 + 0) : Int32) fun z752 =>
 pw_l (u739 + 1 : Int32) fun z753 =>
 m_L_areKeys_22 k420 N S743 u729 u731 u732 u733 z752 u737 u738 z753)))
 else
 (if u738 = 0 then
 (pw_l ((u736 + 100) : Int32) fun z754 =>
 pw_l (u739 + 1 : Int32) fun z755 =>
 m_L_areKeys_22 k420 N S743 u729 u731 u732 u733 z754 u737 u738 z755)
 else
 (pw_l ((u736 + 10000) : Int32) fun z756 =>
 pw_l (u739 + 1 : Int32) fun z757 =>
 m_L_areKeys_22 k420 N S743 u729 u731 u732 u733 z756 u737 u738 z757))))) (pw_F 25) S724 u711 u713 u714 u715 u718 u719 u720 u721 u722 u723 z727 z728)) (pw_F 11) S643 u497 u499 u500 u501 u504 z708 u505 u506 u507 u509 z709 z710))) (fun _ => none)))
 else
 (pw_l (0 : Int32) fun z766 =>
 pw_l ((-1) : Int32) fun z767 =>
 pw_l (0 : Int32) fun z768 =>
 m_L_areKeys_235
 (fun S782 u769 u771 u772 u773 u776 u777 u778 u779 u780 u781 =>
 (pw_l (0 : Int32) fun z785 =>
 pw_l (0 : Int32) fun z786 =>
 m_L_areKeys_294
 (fun S801 u787 u789 u790 u791 u794 u795 u796 u797 u798 u799 u800 =>
 (if u798 = 0 then
 (pw_l ((u794 + 0) : Int32) fun z804 =>
 pw_l (u797 + 1 : Int32) fun z805 =>
 m_L_areKeys_22 k420 N S801 u787 u789 u790 u791 z804 u795 u796 z805)
 else
 (if 0 ≤ u799 then
 (if u800 = 0 then
 (pw_l ((u794 + 0) : Int32) fun z806 =>
 pw_l (u797 + 1 : Int32) fun z807 =>
 m_L_areKeys_22 k420 N S801 u787 u789 u790 u791 z806 u795 u796 z807)
 else
 (if u796 = 0 then
 (pw_l ((u794 + 1) : Int32) fun z808 =>
 pw_l (u797 + 1 : Int32) fun z809 =>
 m_L_areKeys_22 k420 N S801 u787 u789 u790 u791 z808 u795 u796 z809)
 else
 (pw_l ((u794 + 0) : Int32) fun z810 =>
 pw_l (u797 + 1 : Int32) fun z811 =>
 m_L_areKeys_22 k420 N S801 u787 u789 u790 u791 z810 u795 u796 z811)))
 else
 (if u796 = 0 then
 (pw_l ((u794 + 100) : Int32) fun z812 =>
 pw_l (u797 + 1 : Int32) fun z813 =>
 m_L_areKeys_22 k420 N S801 u787 u789 u790 u791 z812 u795 u796 z813)
 else
 (pw_l ((u794 + 10000) : Int32) fun z814 =>
 pw_l (u797 + 1 : Int32) fun z815 =>
 m_L_areKeys_22 k420 N S801 u787 u789 u790 u791 z814 u795 u796 z815))))) (pw_F 25) S782 u769 u771 u772 u773 u776 u777 u778 u779 u780 u781 z785 z786)) (pw_F 11) S578 u497 u499 u500 u501 u504 z766 u505 u506 u507 u509 z767 z768))) (fun _ => none))
 else
 (pw_l (0 : Int32) fun z824 =>
 pw_l ((-1) : Int32) fun z825 =>
 pw_l (0 : Int32) fun z826 =>
 m_L_areKeys_235
 (fun S840 u827 u829 u830 u831 u834 u835 u836 u837 u838 u839 =>
 (pw_l (0 : Int32) fun z843 =>
 pw_l (0 : Int32) fun z844 =>
 m_L_areKeys_294
 (fun S859 u845 u847 u848 u849 u852 u853 u854 u855 u856 u857 u858 =>
 (if u856 = 0 then
 (pw_l ((u852 + 0) : Int32) fun z862 =>
 pw_l (u855 + 1 : Int32) fun z863 =>
 m_L_areKeys_22 k420 N S859 u845 u847 u848 u849 z862 u853 u854 z863)
 else
 (if 0 ≤ u857 then
 (if u858 = 0 then
 (pw_l ((u852 + 0) : Int32) fun z864 =>
 pw_l (u855 + 1 : Int32) fun z865 =>
 m_L_areKeys_22 k420 N S859 u845 u847 u848 u849 z864 u853 u854 z865)
 else
 (if u854 = 0 then
 (pw_l ((u852 + 1) : Int32) fun z866 =>
 pw_l (u855 + 1 : Int32) fun z867 =>
 m_L_areKeys_22 k420 N S859 u845 u847 u848 u849 z866 u853 u854 z867)
 else
 (pw_l ((u852 + 0) : Int32) fun z868 =>
 pw_l (u855 + 1 : Int32) fun z869 =>
 m_L_areKeys_22 k420 N S859 u845 u847 u848 u849 z868 u853 u854 z869)))
 else
 (if u854 = 0 then
 (pw_l ((u852 + 100) : Int32) fun z870 =>
 pw_l (u855 + 1 : Int32) fun z871 =>
 m_L_areKeys_22 k420 N S859 u845 u847 u848 u849 z870 u853 u854 z871)
 else
 (pw_l ((u852 + 10000) : Int32) fun z872 =>
 pw_l (u855 + 1 : Int32) fun z873 =>
 m_L_areKeys_22 k420 N S859 u845 u847 u848 u849 z872 u853 u854 z873))))) (pw_F 25) S840 u827 u829 u830 u831 u834 u835 u836 u837 u838 u839 z843 z844)) (pw_F 11) S571 u497 u499 u500 u501 u504 z824 u505 u506 u507 u509 z825 z826))) (fun _ => none)))) (pw_F 11) S95 v0 v1 va2 vi2 v3 v5 v6 z102 z103 z495 z496))) (fun _ => none)))
set_option maxRecDepth 100000 in
set_option maxHeartbeats 8000000 in
theorem L_L_areKeys_22 {X : np_Ctx} (hX : np_ok RL cL_areKeys 13 7 160 2510 15060 .ireturn X) {Q : Option Value → np_W → Prop} {q : Nat} {n dc ds : Nat} (hR : ∀ st w ce sl, np_rt (some .boolean) 2510 15060 Q st w ce sl → X.2.2.1 st w ce sl) {k420 : pw_S → Nat → Int32 → Nat → Nat → Int32 → Int32 → Int32 → pw_R Int32} (hk420 : ∀ (S : pw_S) (v0 : Nat) (v1 : Int32) (va2 : Nat) (vi2 : Nat) (v3 : Int32) (v4 : Int32) (v5 : Int32) (f : Nat → Option np_E) (ce sl : Nat) (hv0 : pw_ok q 61 v0 = true) (ha2 : pw_arr va2 = true) (hi2 : pw_ok q va2 vi2 = true), ce + dc ≤ 2510 → sl + ds ≤ 15060 → pw_W q (n, f) S → pw_p (k420 S v0 v1 va2 vi2 v3 v4 v5) (fun S' r => ∀ f', pw_W q (n, f') S' → Q (some (.int r)) (n, f')) → np_G X 420 [(0, .ref (pw_pl 61 v0)), (1, .int v1), (2, .ref (pw_pl va2 vi2)), (3, .int v3), (4, .int v4), (5, .int v5)] [] (n, f) ce sl) : ∀ (N : Nat) (S : pw_S) (v0 : Nat) (v1 : Int32) (va2 : Nat) (vi2 : Nat) (v3 : Int32) (v4 : Int32) (v5 : Int32) (v6 : Int32) (f : Nat → Option np_E) (ce sl : Nat) (hv0 : pw_ok q 61 v0 = true) (ha2 : pw_arr va2 = true) (hi2 : pw_ok q va2 vi2 = true), ce + N * 76 + dc ≤ 2510 → sl + N * 456 + ds ≤ 15060 → pw_W q (n, f) S → pw_p (m_L_areKeys_22 k420 N S v0 v1 va2 vi2 v3 v4 v5 v6) (fun S' r => ∀ f', pw_W q (n, f') S' → Q (some (.int r)) (n, f')) → np_G X 22 [(0, .ref (pw_pl 61 v0)), (1, .int v1), (2, .ref (pw_pl va2 vi2)), (3, .int v3), (4, .int v4), (5, .int v5), (6, .int v6)] [] (n, f) ce sl := by
  intro N
  induction N with
  | zero =>
    intro S v0 v1 va2 vi2 v3 v4 v5 v6 f ce sl hv0 ha2 hi2 hc hs hW h
    exact (pw_pn h).elim
  | succ N ih =>
    intro S v0 v1 va2 vi2 v3 v4 v5 v6 f ce sl hv0 ha2 hi2 hc hs hW h
    unfold m_L_areKeys_22 at h
    refine np_soundW (so_L_areKeys hX hR) [8, 22, 73, 235, 294, 420] 400 22 _ _ _ _ _ ?_
    conv => whnf
    refine np_rd_i (hW.ga ha2 hi2) ?_
    conv => whnf
    refine pw_ck h (fun _ h => ?_)
    conv => whnf
    refine pw_br h (fun _ h => ?_) (fun _ h => ?_)
    · conv => whnf
      exact np_gl (hk420 S v0 v1 va2 vi2 v3 v4 v5 f _ _ hv0 ha2 hi2 (by omega) (by omega) hW h) ⟨rfl, rfl, rfl, rfl, rfl, rfl, trivial⟩
    · conv => whnf
      refine pw_br h (fun _ h => ?_) (fun _ h => ?_)
      · conv => whnf
        exact np_gl (hk420 S v0 v1 va2 vi2 v3 v4 v5 f _ _ hv0 ha2 hi2 (by omega) (by omega) hW h) ⟨rfl, rfl, rfl, rfl, rfl, rfl, trivial⟩
      · conv => whnf
        refine np_rd_i (hW.g hv0) ?_
        conv => whnf
        refine np_chk_i (pw_and rfl (pw_and rfl (pw_and rfl (pw_and rfl ((pw_and (pw_le (by omega)) (pw_le (by omega)))))))) ?_
        conv => whnf
        refine ⟨q, S, v0, v5, v6, v1, 0, rfl, hv0, hW, pw_bd h (fun S95 r98 h f96 hW97 => ?_)⟩
        rcases r98 with r100 | e101
        · replace h := pw_ei h
          conv => whnf
          refine pw_st h (fun z102 h => ?_)
          conv => whnf
          refine pw_st h (fun z103 h => ?_)
          conv => whnf
          refine pw_br h (fun _ h => ?_) (fun _ h => ?_)
          · conv => whnf
            refine pw_st h (fun z104 h => ?_)
            conv => whnf
            refine pw_st h (fun z105 h => ?_)
            conv => whnf
            refine np_gl (L_L_areKeys_73 (dc := N * 76 + dc + 64) (ds := N * 456 + ds + 384) hX hR (fun S119 u106 u108 u109 u110 u113 u114 u115 u116 u117 u118 f120 ce491 sl492 ho107 ho111 ho112 hc493 hs494 hW121 h => ?_) (pw_F 11) S95 v0 v1 va2 vi2 v3 v5 v6 z102 z103 z104 z105 f96 _ _ hv0 ha2 hi2 (by rw [pw_F_eq]; omega) (by rw [pw_F_eq]; omega) hW97 h) ⟨rfl, rfl, rfl, rfl, rfl, rfl, rfl, rfl, rfl, rfl, trivial⟩
            · refine np_soundW (so_L_areKeys hX hR) [8, 22, 73, 235, 294, 420] 400 161 _ _ _ _ _ ?_
              conv => whnf
              refine pw_br h (fun _ h => ?_) (fun _ h => ?_)
              · conv => whnf
                refine pw_st h (fun z122 h => ?_)
                conv => whnf
                refine pw_st h (fun z123 h => ?_)
                conv => whnf
                refine pw_st h (fun z124 h => ?_)
                conv => whnf
                refine np_gl (L_L_areKeys_235 (dc := N * 76 + dc + 50) (ds := N * 456 + ds + 300) hX hR (fun S138 u125 u127 u128 u129 u132 u133 u134 u135 u136 u137 f139 ce176 sl177 ho126 ho130 ho131 hc178 hs179 hW140 h => ?_) (pw_F 11) S119 u106 u108 u109 u110 u113 z122 u114 u115 u116 u118 z123 z124 f120 _ _ ho107 ho111 ho112 (by rw [pw_F_eq]; omega) (by rw [pw_F_eq]; omega) hW121 h) ⟨rfl, rfl, rfl, rfl, rfl, rfl, rfl, rfl, rfl, rfl, rfl, trivial⟩
                · refine np_soundW (so_L_areKeys hX hR) [8, 22, 73, 235, 294, 420] 400 288 _ _ _ _ _ ?_
                  conv => whnf
                  refine pw_st h (fun z141 h => ?_)
                  conv => whnf
                  refine pw_st h (fun z142 h => ?_)
                  conv => whnf
                  refine np_gl (L_L_areKeys_294 (dc := N * 76 + dc + 0) (ds := N * 456 + ds + 0) hX hR (fun S157 u143 u145 u146 u147 u150 u151 u152 u153 u154 u155 u156 f158 ce172 sl173 ho144 ho148 ho149 hc174 hs175 hW159 h => ?_) (pw_F 25) S138 u125 u127 u128 u129 u132 u133 u134 u135 u136 u137 z141 z142 f139 _ _ ho126 ho130 ho131 (by rw [pw_F_eq]; omega) (by rw [pw_F_eq]; omega) hW140 h) ⟨rfl, rfl, rfl, rfl, rfl, rfl, rfl, rfl, rfl, rfl, rfl, trivial⟩
                  · refine np_soundW (so_L_areKeys hX hR) [8, 22, 73, 235, 294, 420] 400 366 _ _ _ _ _ ?_
                    conv => whnf
                    refine pw_br h (fun _ h => ?_) (fun _ h => ?_)
                    · conv => whnf
                      refine pw_st h (fun z160 h => ?_)
                      conv => whnf
                      refine pw_st h (fun z161 h => ?_)
                      conv => whnf
                      exact np_gl (ih S157 u143 u145 u146 u147 z160 u151 u152 z161 f158 _ _ ho144 ho148 ho149 (by omega) (by omega) hW159 h) ⟨rfl, rfl, rfl, rfl, rfl, rfl, rfl, trivial⟩
                    · conv => whnf
                      refine pw_br h (fun _ h => ?_) (fun _ h => ?_)
                      · conv => whnf
                        refine pw_br h (fun _ h => ?_) (fun _ h => ?_)
                        · conv => whnf
                          refine pw_st h (fun z162 h => ?_)
                          conv => whnf
                          refine pw_st h (fun z163 h => ?_)
                          conv => whnf
                          exact np_gl (ih S157 u143 u145 u146 u147 z162 u151 u152 z163 f158 _ _ ho144 ho148 ho149 (by omega) (by omega) hW159 h) ⟨rfl, rfl, rfl, rfl, rfl, rfl, rfl, trivial⟩
                        · conv => whnf
                          refine pw_br h (fun _ h => ?_) (fun _ h => ?_)
                          · conv => whnf
                            refine pw_st h (fun z164 h => ?_)
                            conv => whnf
                            refine pw_st h (fun z165 h => ?_)
                            conv => whnf
                            exact np_gl (ih S157 u143 u145 u146 u147 z164 u151 u152 z165 f158 _ _ ho144 ho148 ho149 (by omega) (by omega) hW159 h) ⟨rfl, rfl, rfl, rfl, rfl, rfl, rfl, trivial⟩
                          · conv => whnf
                            refine pw_st h (fun z166 h => ?_)
                            conv => whnf
                            refine pw_st h (fun z167 h => ?_)
                            conv => whnf
                            exact np_gl (ih S157 u143 u145 u146 u147 z166 u151 u152 z167 f158 _ _ ho144 ho148 ho149 (by omega) (by omega) hW159 h) ⟨rfl, rfl, rfl, rfl, rfl, rfl, rfl, trivial⟩
                      · conv => whnf
                        refine pw_br h (fun _ h => ?_) (fun _ h => ?_)
                        · conv => whnf
                          refine pw_st h (fun z168 h => ?_)
                          conv => whnf
                          refine pw_st h (fun z169 h => ?_)
                          conv => whnf
                          exact np_gl (ih S157 u143 u145 u146 u147 z168 u151 u152 z169 f158 _ _ ho144 ho148 ho149 (by omega) (by omega) hW159 h) ⟨rfl, rfl, rfl, rfl, rfl, rfl, rfl, trivial⟩
                        · conv => whnf
                          refine pw_st h (fun z170 h => ?_)
                          conv => whnf
                          refine pw_st h (fun z171 h => ?_)
                          conv => whnf
                          exact np_gl (ih S157 u143 u145 u146 u147 z170 u151 u152 z171 f158 _ _ ho144 ho148 ho149 (by omega) (by omega) hW159 h) ⟨rfl, rfl, rfl, rfl, rfl, rfl, rfl, trivial⟩
              · conv => whnf
                refine np_rd_i (hW121.g ho107) ?_
                conv => whnf
                refine np_chk_i (pw_and rfl (pw_and rfl (pw_and rfl (pw_and rfl ((pw_and (pw_le (by omega)) (pw_le (by omega)))))))) ?_
                conv => whnf
                refine ⟨q, S119, u106, u114, u108, u116, u117, rfl, ho107, hW121, pw_bd h (fun S180 r183 h f181 hW182 => ?_)⟩
                rcases r183 with r185 | e186
                · replace h := pw_ei h
                  conv => whnf
                  refine pw_br h (fun _ h => ?_) (fun _ h => ?_)
                  · conv => whnf
                    refine np_rd_i (hW182.g ho107) ?_
                    conv => whnf
                    refine np_chk_i (pw_and rfl (pw_and rfl (pw_and rfl (pw_and rfl ((pw_and (pw_le (by omega)) (pw_le (by omega)))))))) ?_
                    conv => whnf
                    refine ⟨q, S180, u106, u114, u108, u116, u117, rfl, ho107, hW182, pw_bd h (fun S187 r190 h f188 hW189 => ?_)⟩
                    rcases r190 with r192 | e193
                    · replace h := pw_ei h
                      conv => whnf
                      refine pw_br h (fun _ h => ?_) (fun _ h => ?_)
                      · conv => whnf
                        refine pw_br h (fun _ h => ?_) (fun _ h => ?_)
                        · conv => whnf
                          refine pw_st h (fun z194 h => ?_)
                          conv => whnf
                          refine pw_st h (fun z195 h => ?_)
                          conv => whnf
                          refine pw_st h (fun z196 h => ?_)
                          conv => whnf
                          refine np_gl (L_L_areKeys_235 (dc := N * 76 + dc + 50) (ds := N * 456 + ds + 300) hX hR (fun S210 u197 u199 u200 u201 u204 u205 u206 u207 u208 u209 f211 ce248 sl249 ho198 ho202 ho203 hc250 hs251 hW212 h => ?_) (pw_F 11) S187 u106 u108 u109 u110 u113 z194 u114 u115 u116 u118 z195 z196 f188 _ _ ho107 ho111 ho112 (by rw [pw_F_eq]; omega) (by rw [pw_F_eq]; omega) hW189 h) ⟨rfl, rfl, rfl, rfl, rfl, rfl, rfl, rfl, rfl, rfl, rfl, trivial⟩
                          · refine np_soundW (so_L_areKeys hX hR) [8, 22, 73, 235, 294, 420] 400 288 _ _ _ _ _ ?_
                            conv => whnf
                            refine pw_st h (fun z213 h => ?_)
                            conv => whnf
                            refine pw_st h (fun z214 h => ?_)
                            conv => whnf
                            refine np_gl (L_L_areKeys_294 (dc := N * 76 + dc + 0) (ds := N * 456 + ds + 0) hX hR (fun S229 u215 u217 u218 u219 u222 u223 u224 u225 u226 u227 u228 f230 ce244 sl245 ho216 ho220 ho221 hc246 hs247 hW231 h => ?_) (pw_F 25) S210 u197 u199 u200 u201 u204 u205 u206 u207 u208 u209 z213 z214 f211 _ _ ho198 ho202 ho203 (by rw [pw_F_eq]; omega) (by rw [pw_F_eq]; omega) hW212 h) ⟨rfl, rfl, rfl, rfl, rfl, rfl, rfl, rfl, rfl, rfl, rfl, trivial⟩
                            · refine np_soundW (so_L_areKeys hX hR) [8, 22, 73, 235, 294, 420] 400 366 _ _ _ _ _ ?_
                              conv => whnf
                              refine pw_br h (fun _ h => ?_) (fun _ h => ?_)
                              · conv => whnf
                                refine pw_st h (fun z232 h => ?_)
                                conv => whnf
                                refine pw_st h (fun z233 h => ?_)
                                conv => whnf
                                exact np_gl (ih S229 u215 u217 u218 u219 z232 u223 u224 z233 f230 _ _ ho216 ho220 ho221 (by omega) (by omega) hW231 h) ⟨rfl, rfl, rfl, rfl, rfl, rfl, rfl, trivial⟩
                              · conv => whnf
                                refine pw_br h (fun _ h => ?_) (fun _ h => ?_)
                                · conv => whnf
                                  refine pw_br h (fun _ h => ?_) (fun _ h => ?_)
                                  · conv => whnf
                                    refine pw_st h (fun z234 h => ?_)
                                    conv => whnf
                                    refine pw_st h (fun z235 h => ?_)
                                    conv => whnf
                                    exact np_gl (ih S229 u215 u217 u218 u219 z234 u223 u224 z235 f230 _ _ ho216 ho220 ho221 (by omega) (by omega) hW231 h) ⟨rfl, rfl, rfl, rfl, rfl, rfl, rfl, trivial⟩
                                  · conv => whnf
                                    refine pw_br h (fun _ h => ?_) (fun _ h => ?_)
                                    · conv => whnf
                                      refine pw_st h (fun z236 h => ?_)
                                      conv => whnf
                                      refine pw_st h (fun z237 h => ?_)
                                      conv => whnf
                                      exact np_gl (ih S229 u215 u217 u218 u219 z236 u223 u224 z237 f230 _ _ ho216 ho220 ho221 (by omega) (by omega) hW231 h) ⟨rfl, rfl, rfl, rfl, rfl, rfl, rfl, trivial⟩
                                    · conv => whnf
                                      refine pw_st h (fun z238 h => ?_)
                                      conv => whnf
                                      refine pw_st h (fun z239 h => ?_)
                                      conv => whnf
                                      exact np_gl (ih S229 u215 u217 u218 u219 z238 u223 u224 z239 f230 _ _ ho216 ho220 ho221 (by omega) (by omega) hW231 h) ⟨rfl, rfl, rfl, rfl, rfl, rfl, rfl, trivial⟩
                                · conv => whnf
                                  refine pw_br h (fun _ h => ?_) (fun _ h => ?_)
                                  · conv => whnf
                                    refine pw_st h (fun z240 h => ?_)
                                    conv => whnf
                                    refine pw_st h (fun z241 h => ?_)
                                    conv => whnf
                                    exact np_gl (ih S229 u215 u217 u218 u219 z240 u223 u224 z241 f230 _ _ ho216 ho220 ho221 (by omega) (by omega) hW231 h) ⟨rfl, rfl, rfl, rfl, rfl, rfl, rfl, trivial⟩
                                  · conv => whnf
                                    refine pw_st h (fun z242 h => ?_)
                                    conv => whnf
                                    refine pw_st h (fun z243 h => ?_)
                                    conv => whnf
                                    exact np_gl (ih S229 u215 u217 u218 u219 z242 u223 u224 z243 f230 _ _ ho216 ho220 ho221 (by omega) (by omega) hW231 h) ⟨rfl, rfl, rfl, rfl, rfl, rfl, rfl, trivial⟩
                        · conv => whnf
                          refine np_rd_i (hW189.g ho107) ?_
                          conv => whnf
                          refine np_chk_i (pw_and rfl (pw_and rfl (pw_and rfl (pw_and rfl ((pw_and (pw_le (by omega)) (pw_le (by omega)))))))) ?_
                          conv => whnf
                          refine ⟨q, S187, u106, u114, u108, u116, (u117 + 1), rfl, ho107, hW189, pw_bd h (fun S252 r255 h f253 hW254 => ?_)⟩
                          rcases r255 with r257 | e258
                          · replace h := pw_ei h
                            conv => whnf
                            refine pw_br h (fun _ h => ?_) (fun _ h => ?_)
                            · conv => whnf
                              refine pw_st h (fun z259 h => ?_)
                              conv => whnf
                              refine pw_st h (fun z260 h => ?_)
                              conv => whnf
                              refine pw_st h (fun z261 h => ?_)
                              conv => whnf
                              refine np_gl (L_L_areKeys_235 (dc := N * 76 + dc + 50) (ds := N * 456 + ds + 300) hX hR (fun S275 u262 u264 u265 u266 u269 u270 u271 u272 u273 u274 f276 ce313 sl314 ho263 ho267 ho268 hc315 hs316 hW277 h => ?_) (pw_F 11) S252 u106 u108 u109 u110 u113 z259 u114 u115 u116 u118 z260 z261 f253 _ _ ho107 ho111 ho112 (by rw [pw_F_eq]; omega) (by rw [pw_F_eq]; omega) hW254 h) ⟨rfl, rfl, rfl, rfl, rfl, rfl, rfl, rfl, rfl, rfl, rfl, trivial⟩
                              · refine np_soundW (so_L_areKeys hX hR) [8, 22, 73, 235, 294, 420] 400 288 _ _ _ _ _ ?_
                                conv => whnf
                                refine pw_st h (fun z278 h => ?_)
                                conv => whnf
                                refine pw_st h (fun z279 h => ?_)
                                conv => whnf
                                refine np_gl (L_L_areKeys_294 (dc := N * 76 + dc + 0) (ds := N * 456 + ds + 0) hX hR (fun S294 u280 u282 u283 u284 u287 u288 u289 u290 u291 u292 u293 f295 ce309 sl310 ho281 ho285 ho286 hc311 hs312 hW296 h => ?_) (pw_F 25) S275 u262 u264 u265 u266 u269 u270 u271 u272 u273 u274 z278 z279 f276 _ _ ho263 ho267 ho268 (by rw [pw_F_eq]; omega) (by rw [pw_F_eq]; omega) hW277 h) ⟨rfl, rfl, rfl, rfl, rfl, rfl, rfl, rfl, rfl, rfl, rfl, trivial⟩
                                · refine np_soundW (so_L_areKeys hX hR) [8, 22, 73, 235, 294, 420] 400 366 _ _ _ _ _ ?_
                                  conv => whnf
                                  refine pw_br h (fun _ h => ?_) (fun _ h => ?_)
                                  · conv => whnf
                                    refine pw_st h (fun z297 h => ?_)
                                    conv => whnf
                                    refine pw_st h (fun z298 h => ?_)
                                    conv => whnf
                                    exact np_gl (ih S294 u280 u282 u283 u284 z297 u288 u289 z298 f295 _ _ ho281 ho285 ho286 (by omega) (by omega) hW296 h) ⟨rfl, rfl, rfl, rfl, rfl, rfl, rfl, trivial⟩
                                  · conv => whnf
                                    refine pw_br h (fun _ h => ?_) (fun _ h => ?_)
                                    · conv => whnf
                                      refine pw_br h (fun _ h => ?_) (fun _ h => ?_)
                                      · conv => whnf
                                        refine pw_st h (fun z299 h => ?_)
                                        conv => whnf
                                        refine pw_st h (fun z300 h => ?_)
                                        conv => whnf
                                        exact np_gl (ih S294 u280 u282 u283 u284 z299 u288 u289 z300 f295 _ _ ho281 ho285 ho286 (by omega) (by omega) hW296 h) ⟨rfl, rfl, rfl, rfl, rfl, rfl, rfl, trivial⟩
                                      · conv => whnf
                                        refine pw_br h (fun _ h => ?_) (fun _ h => ?_)
                                        · conv => whnf
                                          refine pw_st h (fun z301 h => ?_)
                                          conv => whnf
                                          refine pw_st h (fun z302 h => ?_)
                                          conv => whnf
                                          exact np_gl (ih S294 u280 u282 u283 u284 z301 u288 u289 z302 f295 _ _ ho281 ho285 ho286 (by omega) (by omega) hW296 h) ⟨rfl, rfl, rfl, rfl, rfl, rfl, rfl, trivial⟩
                                        · conv => whnf
                                          refine pw_st h (fun z303 h => ?_)
                                          conv => whnf
                                          refine pw_st h (fun z304 h => ?_)
                                          conv => whnf
                                          exact np_gl (ih S294 u280 u282 u283 u284 z303 u288 u289 z304 f295 _ _ ho281 ho285 ho286 (by omega) (by omega) hW296 h) ⟨rfl, rfl, rfl, rfl, rfl, rfl, rfl, trivial⟩
                                    · conv => whnf
                                      refine pw_br h (fun _ h => ?_) (fun _ h => ?_)
                                      · conv => whnf
                                        refine pw_st h (fun z305 h => ?_)
                                        conv => whnf
                                        refine pw_st h (fun z306 h => ?_)
                                        conv => whnf
                                        exact np_gl (ih S294 u280 u282 u283 u284 z305 u288 u289 z306 f295 _ _ ho281 ho285 ho286 (by omega) (by omega) hW296 h) ⟨rfl, rfl, rfl, rfl, rfl, rfl, rfl, trivial⟩
                                      · conv => whnf
                                        refine pw_st h (fun z307 h => ?_)
                                        conv => whnf
                                        refine pw_st h (fun z308 h => ?_)
                                        conv => whnf
                                        exact np_gl (ih S294 u280 u282 u283 u284 z307 u288 u289 z308 f295 _ _ ho281 ho285 ho286 (by omega) (by omega) hW296 h) ⟨rfl, rfl, rfl, rfl, rfl, rfl, rfl, trivial⟩
                            · conv => whnf
                              refine pw_st h (fun z317 h => ?_)
                              conv => whnf
                              refine pw_st h (fun z318 h => ?_)
                              conv => whnf
                              refine pw_st h (fun z319 h => ?_)
                              conv => whnf
                              refine np_gl (L_L_areKeys_235 (dc := N * 76 + dc + 50) (ds := N * 456 + ds + 300) hX hR (fun S333 u320 u322 u323 u324 u327 u328 u329 u330 u331 u332 f334 ce371 sl372 ho321 ho325 ho326 hc373 hs374 hW335 h => ?_) (pw_F 11) S252 u106 u108 u109 u110 u113 z317 u114 u115 u116 u118 z318 z319 f253 _ _ ho107 ho111 ho112 (by rw [pw_F_eq]; omega) (by rw [pw_F_eq]; omega) hW254 h) ⟨rfl, rfl, rfl, rfl, rfl, rfl, rfl, rfl, rfl, rfl, rfl, trivial⟩
                              · refine np_soundW (so_L_areKeys hX hR) [8, 22, 73, 235, 294, 420] 400 288 _ _ _ _ _ ?_
                                conv => whnf
                                refine pw_st h (fun z336 h => ?_)
                                conv => whnf
                                refine pw_st h (fun z337 h => ?_)
                                conv => whnf
                                refine np_gl (L_L_areKeys_294 (dc := N * 76 + dc + 0) (ds := N * 456 + ds + 0) hX hR (fun S352 u338 u340 u341 u342 u345 u346 u347 u348 u349 u350 u351 f353 ce367 sl368 ho339 ho343 ho344 hc369 hs370 hW354 h => ?_) (pw_F 25) S333 u320 u322 u323 u324 u327 u328 u329 u330 u331 u332 z336 z337 f334 _ _ ho321 ho325 ho326 (by rw [pw_F_eq]; omega) (by rw [pw_F_eq]; omega) hW335 h) ⟨rfl, rfl, rfl, rfl, rfl, rfl, rfl, rfl, rfl, rfl, rfl, trivial⟩
                                · refine np_soundW (so_L_areKeys hX hR) [8, 22, 73, 235, 294, 420] 400 366 _ _ _ _ _ ?_
                                  conv => whnf
                                  refine pw_br h (fun _ h => ?_) (fun _ h => ?_)
                                  · conv => whnf
                                    refine pw_st h (fun z355 h => ?_)
                                    conv => whnf
                                    refine pw_st h (fun z356 h => ?_)
                                    conv => whnf
                                    exact np_gl (ih S352 u338 u340 u341 u342 z355 u346 u347 z356 f353 _ _ ho339 ho343 ho344 (by omega) (by omega) hW354 h) ⟨rfl, rfl, rfl, rfl, rfl, rfl, rfl, trivial⟩
                                  · conv => whnf
                                    refine pw_br h (fun _ h => ?_) (fun _ h => ?_)
                                    · conv => whnf
                                      refine pw_br h (fun _ h => ?_) (fun _ h => ?_)
                                      · conv => whnf
                                        refine pw_st h (fun z357 h => ?_)
                                        conv => whnf
                                        refine pw_st h (fun z358 h => ?_)
                                        conv => whnf
                                        exact np_gl (ih S352 u338 u340 u341 u342 z357 u346 u347 z358 f353 _ _ ho339 ho343 ho344 (by omega) (by omega) hW354 h) ⟨rfl, rfl, rfl, rfl, rfl, rfl, rfl, trivial⟩
                                      · conv => whnf
                                        refine pw_br h (fun _ h => ?_) (fun _ h => ?_)
                                        · conv => whnf
                                          refine pw_st h (fun z359 h => ?_)
                                          conv => whnf
                                          refine pw_st h (fun z360 h => ?_)
                                          conv => whnf
                                          exact np_gl (ih S352 u338 u340 u341 u342 z359 u346 u347 z360 f353 _ _ ho339 ho343 ho344 (by omega) (by omega) hW354 h) ⟨rfl, rfl, rfl, rfl, rfl, rfl, rfl, trivial⟩
                                        · conv => whnf
                                          refine pw_st h (fun z361 h => ?_)
                                          conv => whnf
                                          refine pw_st h (fun z362 h => ?_)
                                          conv => whnf
                                          exact np_gl (ih S352 u338 u340 u341 u342 z361 u346 u347 z362 f353 _ _ ho339 ho343 ho344 (by omega) (by omega) hW354 h) ⟨rfl, rfl, rfl, rfl, rfl, rfl, rfl, trivial⟩
                                    · conv => whnf
                                      refine pw_br h (fun _ h => ?_) (fun _ h => ?_)
                                      · conv => whnf
                                        refine pw_st h (fun z363 h => ?_)
                                        conv => whnf
                                        refine pw_st h (fun z364 h => ?_)
                                        conv => whnf
                                        exact np_gl (ih S352 u338 u340 u341 u342 z363 u346 u347 z364 f353 _ _ ho339 ho343 ho344 (by omega) (by omega) hW354 h) ⟨rfl, rfl, rfl, rfl, rfl, rfl, rfl, trivial⟩
                                      · conv => whnf
                                        refine pw_st h (fun z365 h => ?_)
                                        conv => whnf
                                        refine pw_st h (fun z366 h => ?_)
                                        conv => whnf
                                        exact np_gl (ih S352 u338 u340 u341 u342 z365 u346 u347 z366 f353 _ _ ho339 ho343 ho344 (by omega) (by omega) hW354 h) ⟨rfl, rfl, rfl, rfl, rfl, rfl, rfl, trivial⟩
                          · exact (pw_pn h).elim
                      · conv => whnf
                        refine pw_st h (fun z375 h => ?_)
                        conv => whnf
                        refine pw_st h (fun z376 h => ?_)
                        conv => whnf
                        refine pw_st h (fun z377 h => ?_)
                        conv => whnf
                        refine np_gl (L_L_areKeys_235 (dc := N * 76 + dc + 50) (ds := N * 456 + ds + 300) hX hR (fun S391 u378 u380 u381 u382 u385 u386 u387 u388 u389 u390 f392 ce429 sl430 ho379 ho383 ho384 hc431 hs432 hW393 h => ?_) (pw_F 11) S187 u106 u108 u109 u110 u113 z375 u114 u115 u116 u118 z376 z377 f188 _ _ ho107 ho111 ho112 (by rw [pw_F_eq]; omega) (by rw [pw_F_eq]; omega) hW189 h) ⟨rfl, rfl, rfl, rfl, rfl, rfl, rfl, rfl, rfl, rfl, rfl, trivial⟩
                        · refine np_soundW (so_L_areKeys hX hR) [8, 22, 73, 235, 294, 420] 400 288 _ _ _ _ _ ?_
                          conv => whnf
                          refine pw_st h (fun z394 h => ?_)
                          conv => whnf
                          refine pw_st h (fun z395 h => ?_)
                          conv => whnf
                          refine np_gl (L_L_areKeys_294 (dc := N * 76 + dc + 0) (ds := N * 456 + ds + 0) hX hR (fun S410 u396 u398 u399 u400 u403 u404 u405 u406 u407 u408 u409 f411 ce425 sl426 ho397 ho401 ho402 hc427 hs428 hW412 h => ?_) (pw_F 25) S391 u378 u380 u381 u382 u385 u386 u387 u388 u389 u390 z394 z395 f392 _ _ ho379 ho383 ho384 (by rw [pw_F_eq]; omega) (by rw [pw_F_eq]; omega) hW393 h) ⟨rfl, rfl, rfl, rfl, rfl, rfl, rfl, rfl, rfl, rfl, rfl, trivial⟩
                          · refine np_soundW (so_L_areKeys hX hR) [8, 22, 73, 235, 294, 420] 400 366 _ _ _ _ _ ?_
                            conv => whnf
                            refine pw_br h (fun _ h => ?_) (fun _ h => ?_)
                            · conv => whnf
                              refine pw_st h (fun z413 h => ?_)
                              conv => whnf
                              refine pw_st h (fun z414 h => ?_)
                              conv => whnf
                              exact np_gl (ih S410 u396 u398 u399 u400 z413 u404 u405 z414 f411 _ _ ho397 ho401 ho402 (by omega) (by omega) hW412 h) ⟨rfl, rfl, rfl, rfl, rfl, rfl, rfl, trivial⟩
                            · conv => whnf
                              refine pw_br h (fun _ h => ?_) (fun _ h => ?_)
                              · conv => whnf
                                refine pw_br h (fun _ h => ?_) (fun _ h => ?_)
                                · conv => whnf
                                  refine pw_st h (fun z415 h => ?_)
                                  conv => whnf
                                  refine pw_st h (fun z416 h => ?_)
                                  conv => whnf
                                  exact np_gl (ih S410 u396 u398 u399 u400 z415 u404 u405 z416 f411 _ _ ho397 ho401 ho402 (by omega) (by omega) hW412 h) ⟨rfl, rfl, rfl, rfl, rfl, rfl, rfl, trivial⟩
                                · conv => whnf
                                  refine pw_br h (fun _ h => ?_) (fun _ h => ?_)
                                  · conv => whnf
                                    refine pw_st h (fun z417 h => ?_)
                                    conv => whnf
                                    refine pw_st h (fun z418 h => ?_)
                                    conv => whnf
                                    exact np_gl (ih S410 u396 u398 u399 u400 z417 u404 u405 z418 f411 _ _ ho397 ho401 ho402 (by omega) (by omega) hW412 h) ⟨rfl, rfl, rfl, rfl, rfl, rfl, rfl, trivial⟩
                                  · conv => whnf
                                    refine pw_st h (fun z419 h => ?_)
                                    conv => whnf
                                    refine pw_st h (fun z420 h => ?_)
                                    conv => whnf
                                    exact np_gl (ih S410 u396 u398 u399 u400 z419 u404 u405 z420 f411 _ _ ho397 ho401 ho402 (by omega) (by omega) hW412 h) ⟨rfl, rfl, rfl, rfl, rfl, rfl, rfl, trivial⟩
                              · conv => whnf
                                refine pw_br h (fun _ h => ?_) (fun _ h => ?_)
                                · conv => whnf
                                  refine pw_st h (fun z421 h => ?_)
                                  conv => whnf
                                  refine pw_st h (fun z422 h => ?_)
                                  conv => whnf
                                  exact np_gl (ih S410 u396 u398 u399 u400 z421 u404 u405 z422 f411 _ _ ho397 ho401 ho402 (by omega) (by omega) hW412 h) ⟨rfl, rfl, rfl, rfl, rfl, rfl, rfl, trivial⟩
                                · conv => whnf
                                  refine pw_st h (fun z423 h => ?_)
                                  conv => whnf
                                  refine pw_st h (fun z424 h => ?_)
                                  conv => whnf
                                  exact np_gl (ih S410 u396 u398 u399 u400 z423 u404 u405 z424 f411 _ _ ho397 ho401 ho402 (by omega) (by omega) hW412 h) ⟨rfl, rfl, rfl, rfl, rfl, rfl, rfl, trivial⟩
                    · exact (pw_pn h).elim
                  · conv => whnf
                    refine pw_st h (fun z433 h => ?_)
                    conv => whnf
                    refine pw_st h (fun z434 h => ?_)
                    conv => whnf
                    refine pw_st h (fun z435 h => ?_)
                    conv => whnf
                    refine np_gl (L_L_areKeys_235 (dc := N * 76 + dc + 50) (ds := N * 456 + ds + 300) hX hR (fun S449 u436 u438 u439 u440 u443 u444 u445 u446 u447 u448 f450 ce487 sl488 ho437 ho441 ho442 hc489 hs490 hW451 h => ?_) (pw_F 11) S180 u106 u108 u109 u110 u113 z433 u114 u115 u116 u118 z434 z435 f181 _ _ ho107 ho111 ho112 (by rw [pw_F_eq]; omega) (by rw [pw_F_eq]; omega) hW182 h) ⟨rfl, rfl, rfl, rfl, rfl, rfl, rfl, rfl, rfl, rfl, rfl, trivial⟩
                    · refine np_soundW (so_L_areKeys hX hR) [8, 22, 73, 235, 294, 420] 400 288 _ _ _ _ _ ?_
                      conv => whnf
                      refine pw_st h (fun z452 h => ?_)
                      conv => whnf
                      refine pw_st h (fun z453 h => ?_)
                      conv => whnf
                      refine np_gl (L_L_areKeys_294 (dc := N * 76 + dc + 0) (ds := N * 456 + ds + 0) hX hR (fun S468 u454 u456 u457 u458 u461 u462 u463 u464 u465 u466 u467 f469 ce483 sl484 ho455 ho459 ho460 hc485 hs486 hW470 h => ?_) (pw_F 25) S449 u436 u438 u439 u440 u443 u444 u445 u446 u447 u448 z452 z453 f450 _ _ ho437 ho441 ho442 (by rw [pw_F_eq]; omega) (by rw [pw_F_eq]; omega) hW451 h) ⟨rfl, rfl, rfl, rfl, rfl, rfl, rfl, rfl, rfl, rfl, rfl, trivial⟩
                      · refine np_soundW (so_L_areKeys hX hR) [8, 22, 73, 235, 294, 420] 400 366 _ _ _ _ _ ?_
                        conv => whnf
                        refine pw_br h (fun _ h => ?_) (fun _ h => ?_)
                        · conv => whnf
                          refine pw_st h (fun z471 h => ?_)
                          conv => whnf
                          refine pw_st h (fun z472 h => ?_)
                          conv => whnf
                          exact np_gl (ih S468 u454 u456 u457 u458 z471 u462 u463 z472 f469 _ _ ho455 ho459 ho460 (by omega) (by omega) hW470 h) ⟨rfl, rfl, rfl, rfl, rfl, rfl, rfl, trivial⟩
                        · conv => whnf
                          refine pw_br h (fun _ h => ?_) (fun _ h => ?_)
                          · conv => whnf
                            refine pw_br h (fun _ h => ?_) (fun _ h => ?_)
                            · conv => whnf
                              refine pw_st h (fun z473 h => ?_)
                              conv => whnf
                              refine pw_st h (fun z474 h => ?_)
                              conv => whnf
                              exact np_gl (ih S468 u454 u456 u457 u458 z473 u462 u463 z474 f469 _ _ ho455 ho459 ho460 (by omega) (by omega) hW470 h) ⟨rfl, rfl, rfl, rfl, rfl, rfl, rfl, trivial⟩
                            · conv => whnf
                              refine pw_br h (fun _ h => ?_) (fun _ h => ?_)
                              · conv => whnf
                                refine pw_st h (fun z475 h => ?_)
                                conv => whnf
                                refine pw_st h (fun z476 h => ?_)
                                conv => whnf
                                exact np_gl (ih S468 u454 u456 u457 u458 z475 u462 u463 z476 f469 _ _ ho455 ho459 ho460 (by omega) (by omega) hW470 h) ⟨rfl, rfl, rfl, rfl, rfl, rfl, rfl, trivial⟩
                              · conv => whnf
                                refine pw_st h (fun z477 h => ?_)
                                conv => whnf
                                refine pw_st h (fun z478 h => ?_)
                                conv => whnf
                                exact np_gl (ih S468 u454 u456 u457 u458 z477 u462 u463 z478 f469 _ _ ho455 ho459 ho460 (by omega) (by omega) hW470 h) ⟨rfl, rfl, rfl, rfl, rfl, rfl, rfl, trivial⟩
                          · conv => whnf
                            refine pw_br h (fun _ h => ?_) (fun _ h => ?_)
                            · conv => whnf
                              refine pw_st h (fun z479 h => ?_)
                              conv => whnf
                              refine pw_st h (fun z480 h => ?_)
                              conv => whnf
                              exact np_gl (ih S468 u454 u456 u457 u458 z479 u462 u463 z480 f469 _ _ ho455 ho459 ho460 (by omega) (by omega) hW470 h) ⟨rfl, rfl, rfl, rfl, rfl, rfl, rfl, trivial⟩
                            · conv => whnf
                              refine pw_st h (fun z481 h => ?_)
                              conv => whnf
                              refine pw_st h (fun z482 h => ?_)
                              conv => whnf
                              exact np_gl (ih S468 u454 u456 u457 u458 z481 u462 u463 z482 f469 _ _ ho455 ho459 ho460 (by omega) (by omega) hW470 h) ⟨rfl, rfl, rfl, rfl, rfl, rfl, rfl, trivial⟩
                · exact (pw_pn h).elim
          · conv => whnf
            refine pw_st h (fun z495 h => ?_)
            conv => whnf
            refine pw_st h (fun z496 h => ?_)
            conv => whnf
            refine np_gl (L_L_areKeys_73 (dc := N * 76 + dc + 64) (ds := N * 456 + ds + 384) hX hR (fun S510 u497 u499 u500 u501 u504 u505 u506 u507 u508 u509 f511 ce882 sl883 ho498 ho502 ho503 hc884 hs885 hW512 h => ?_) (pw_F 11) S95 v0 v1 va2 vi2 v3 v5 v6 z102 z103 z495 z496 f96 _ _ hv0 ha2 hi2 (by rw [pw_F_eq]; omega) (by rw [pw_F_eq]; omega) hW97 h) ⟨rfl, rfl, rfl, rfl, rfl, rfl, rfl, rfl, rfl, rfl, trivial⟩
            · refine np_soundW (so_L_areKeys hX hR) [8, 22, 73, 235, 294, 420] 400 161 _ _ _ _ _ ?_
              conv => whnf
              refine pw_br h (fun _ h => ?_) (fun _ h => ?_)
              · conv => whnf
                refine pw_st h (fun z513 h => ?_)
                conv => whnf
                refine pw_st h (fun z514 h => ?_)
                conv => whnf
                refine pw_st h (fun z515 h => ?_)
                conv => whnf
                refine np_gl (L_L_areKeys_235 (dc := N * 76 + dc + 50) (ds := N * 456 + ds + 300) hX hR (fun S529 u516 u518 u519 u520 u523 u524 u525 u526 u527 u528 f530 ce567 sl568 ho517 ho521 ho522 hc569 hs570 hW531 h => ?_) (pw_F 11) S510 u497 u499 u500 u501 u504 z513 u505 u506 u507 u509 z514 z515 f511 _ _ ho498 ho502 ho503 (by rw [pw_F_eq]; omega) (by rw [pw_F_eq]; omega) hW512 h) ⟨rfl, rfl, rfl, rfl, rfl, rfl, rfl, rfl, rfl, rfl, rfl, trivial⟩
                · refine np_soundW (so_L_areKeys hX hR) [8, 22, 73, 235, 294, 420] 400 288 _ _ _ _ _ ?_
                  conv => whnf
                  refine pw_st h (fun z532 h => ?_)
                  conv => whnf
                  refine pw_st h (fun z533 h => ?_)
                  conv => whnf
                  refine np_gl (L_L_areKeys_294 (dc := N * 76 + dc + 0) (ds := N * 456 + ds + 0) hX hR (fun S548 u534 u536 u537 u538 u541 u542 u543 u544 u545 u546 u547 f549 ce563 sl564 ho535 ho539 ho540 hc565 hs566 hW550 h => ?_) (pw_F 25) S529 u516 u518 u519 u520 u523 u524 u525 u526 u527 u528 z532 z533 f530 _ _ ho517 ho521 ho522 (by rw [pw_F_eq]; omega) (by rw [pw_F_eq]; omega) hW531 h) ⟨rfl, rfl, rfl, rfl, rfl, rfl, rfl, rfl, rfl, rfl, rfl, trivial⟩
                  · refine np_soundW (so_L_areKeys hX hR) [8, 22, 73, 235, 294, 420] 400 366 _ _ _ _ _ ?_
                    conv => whnf
                    refine pw_br h (fun _ h => ?_) (fun _ h => ?_)
                    · conv => whnf
                      refine pw_st h (fun z551 h => ?_)
                      conv => whnf
                      refine pw_st h (fun z552 h => ?_)
                      conv => whnf
                      exact np_gl (ih S548 u534 u536 u537 u538 z551 u542 u543 z552 f549 _ _ ho535 ho539 ho540 (by omega) (by omega) hW550 h) ⟨rfl, rfl, rfl, rfl, rfl, rfl, rfl, trivial⟩
                    · conv => whnf
                      refine pw_br h (fun _ h => ?_) (fun _ h => ?_)
                      · conv => whnf
                        refine pw_br h (fun _ h => ?_) (fun _ h => ?_)
                        · conv => whnf
                          refine pw_st h (fun z553 h => ?_)
                          conv => whnf
                          refine pw_st h (fun z554 h => ?_)
                          conv => whnf
                          exact np_gl (ih S548 u534 u536 u537 u538 z553 u542 u543 z554 f549 _ _ ho535 ho539 ho540 (by omega) (by omega) hW550 h) ⟨rfl, rfl, rfl, rfl, rfl, rfl, rfl, trivial⟩
                        · conv => whnf
                          refine pw_br h (fun _ h => ?_) (fun _ h => ?_)
                          · conv => whnf
                            refine pw_st h (fun z555 h => ?_)
                            conv => whnf
                            refine pw_st h (fun z556 h => ?_)
                            conv => whnf
                            exact np_gl (ih S548 u534 u536 u537 u538 z555 u542 u543 z556 f549 _ _ ho535 ho539 ho540 (by omega) (by omega) hW550 h) ⟨rfl, rfl, rfl, rfl, rfl, rfl, rfl, trivial⟩
                          · conv => whnf
                            refine pw_st h (fun z557 h => ?_)
                            conv => whnf
                            refine pw_st h (fun z558 h => ?_)
                            conv => whnf
                            exact np_gl (ih S548 u534 u536 u537 u538 z557 u542 u543 z558 f549 _ _ ho535 ho539 ho540 (by omega) (by omega) hW550 h) ⟨rfl, rfl, rfl, rfl, rfl, rfl, rfl, trivial⟩
                      · conv => whnf
                        refine pw_br h (fun _ h => ?_) (fun _ h => ?_)
                        · conv => whnf
                          refine pw_st h (fun z559 h => ?_)
                          conv => whnf
                          refine pw_st h (fun z560 h => ?_)
                          conv => whnf
                          exact np_gl (ih S548 u534 u536 u537 u538 z559 u542 u543 z560 f549 _ _ ho535 ho539 ho540 (by omega) (by omega) hW550 h) ⟨rfl, rfl, rfl, rfl, rfl, rfl, rfl, trivial⟩
                        · conv => whnf
                          refine pw_st h (fun z561 h => ?_)
                          conv => whnf
                          refine pw_st h (fun z562 h => ?_)
                          conv => whnf
                          exact np_gl (ih S548 u534 u536 u537 u538 z561 u542 u543 z562 f549 _ _ ho535 ho539 ho540 (by omega) (by omega) hW550 h) ⟨rfl, rfl, rfl, rfl, rfl, rfl, rfl, trivial⟩
              · conv => whnf
                refine np_rd_i (hW512.g ho498) ?_
                conv => whnf
                refine np_chk_i (pw_and rfl (pw_and rfl (pw_and rfl (pw_and rfl ((pw_and (pw_le (by omega)) (pw_le (by omega)))))))) ?_
                conv => whnf
                refine ⟨q, S510, u497, u505, u499, u507, u508, rfl, ho498, hW512, pw_bd h (fun S571 r574 h f572 hW573 => ?_)⟩
                rcases r574 with r576 | e577
                · replace h := pw_ei h
                  conv => whnf
                  refine pw_br h (fun _ h => ?_) (fun _ h => ?_)
                  · conv => whnf
                    refine np_rd_i (hW573.g ho498) ?_
                    conv => whnf
                    refine np_chk_i (pw_and rfl (pw_and rfl (pw_and rfl (pw_and rfl ((pw_and (pw_le (by omega)) (pw_le (by omega)))))))) ?_
                    conv => whnf
                    refine ⟨q, S571, u497, u505, u499, u507, u508, rfl, ho498, hW573, pw_bd h (fun S578 r581 h f579 hW580 => ?_)⟩
                    rcases r581 with r583 | e584
                    · replace h := pw_ei h
                      conv => whnf
                      refine pw_br h (fun _ h => ?_) (fun _ h => ?_)
                      · conv => whnf
                        refine pw_br h (fun _ h => ?_) (fun _ h => ?_)
                        · conv => whnf
                          refine pw_st h (fun z585 h => ?_)
                          conv => whnf
                          refine pw_st h (fun z586 h => ?_)
                          conv => whnf
                          refine pw_st h (fun z587 h => ?_)
                          conv => whnf
                          refine np_gl (L_L_areKeys_235 (dc := N * 76 + dc + 50) (ds := N * 456 + ds + 300) hX hR (fun S601 u588 u590 u591 u592 u595 u596 u597 u598 u599 u600 f602 ce639 sl640 ho589 ho593 ho594 hc641 hs642 hW603 h => ?_) (pw_F 11) S578 u497 u499 u500 u501 u504 z585 u505 u506 u507 u509 z586 z587 f579 _ _ ho498 ho502 ho503 (by rw [pw_F_eq]; omega) (by rw [pw_F_eq]; omega) hW580 h) ⟨rfl, rfl, rfl, rfl, rfl, rfl, rfl, rfl, rfl, rfl, rfl, trivial⟩
                          · refine np_soundW (so_L_areKeys hX hR) [8, 22, 73, 235, 294, 420] 400 288 _ _ _ _ _ ?_
                            conv => whnf
                            refine pw_st h (fun z604 h => ?_)
                            conv => whnf
                            refine pw_st h (fun z605 h => ?_)
                            conv => whnf
                            refine np_gl (L_L_areKeys_294 (dc := N * 76 + dc + 0) (ds := N * 456 + ds + 0) hX hR (fun S620 u606 u608 u609 u610 u613 u614 u615 u616 u617 u618 u619 f621 ce635 sl636 ho607 ho611 ho612 hc637 hs638 hW622 h => ?_) (pw_F 25) S601 u588 u590 u591 u592 u595 u596 u597 u598 u599 u600 z604 z605 f602 _ _ ho589 ho593 ho594 (by rw [pw_F_eq]; omega) (by rw [pw_F_eq]; omega) hW603 h) ⟨rfl, rfl, rfl, rfl, rfl, rfl, rfl, rfl, rfl, rfl, rfl, trivial⟩
                            · refine np_soundW (so_L_areKeys hX hR) [8, 22, 73, 235, 294, 420] 400 366 _ _ _ _ _ ?_
                              conv => whnf
                              refine pw_br h (fun _ h => ?_) (fun _ h => ?_)
                              · conv => whnf
                                refine pw_st h (fun z623 h => ?_)
                                conv => whnf
                                refine pw_st h (fun z624 h => ?_)
                                conv => whnf
                                exact np_gl (ih S620 u606 u608 u609 u610 z623 u614 u615 z624 f621 _ _ ho607 ho611 ho612 (by omega) (by omega) hW622 h) ⟨rfl, rfl, rfl, rfl, rfl, rfl, rfl, trivial⟩
                              · conv => whnf
                                refine pw_br h (fun _ h => ?_) (fun _ h => ?_)
                                · conv => whnf
                                  refine pw_br h (fun _ h => ?_) (fun _ h => ?_)
                                  · conv => whnf
                                    refine pw_st h (fun z625 h => ?_)
                                    conv => whnf
                                    refine pw_st h (fun z626 h => ?_)
                                    conv => whnf
                                    exact np_gl (ih S620 u606 u608 u609 u610 z625 u614 u615 z626 f621 _ _ ho607 ho611 ho612 (by omega) (by omega) hW622 h) ⟨rfl, rfl, rfl, rfl, rfl, rfl, rfl, trivial⟩
                                  · conv => whnf
                                    refine pw_br h (fun _ h => ?_) (fun _ h => ?_)
                                    · conv => whnf
                                      refine pw_st h (fun z627 h => ?_)
                                      conv => whnf
                                      refine pw_st h (fun z628 h => ?_)
                                      conv => whnf
                                      exact np_gl (ih S620 u606 u608 u609 u610 z627 u614 u615 z628 f621 _ _ ho607 ho611 ho612 (by omega) (by omega) hW622 h) ⟨rfl, rfl, rfl, rfl, rfl, rfl, rfl, trivial⟩
                                    · conv => whnf
                                      refine pw_st h (fun z629 h => ?_)
                                      conv => whnf
                                      refine pw_st h (fun z630 h => ?_)
                                      conv => whnf
                                      exact np_gl (ih S620 u606 u608 u609 u610 z629 u614 u615 z630 f621 _ _ ho607 ho611 ho612 (by omega) (by omega) hW622 h) ⟨rfl, rfl, rfl, rfl, rfl, rfl, rfl, trivial⟩
                                · conv => whnf
                                  refine pw_br h (fun _ h => ?_) (fun _ h => ?_)
                                  · conv => whnf
                                    refine pw_st h (fun z631 h => ?_)
                                    conv => whnf
                                    refine pw_st h (fun z632 h => ?_)
                                    conv => whnf
                                    exact np_gl (ih S620 u606 u608 u609 u610 z631 u614 u615 z632 f621 _ _ ho607 ho611 ho612 (by omega) (by omega) hW622 h) ⟨rfl, rfl, rfl, rfl, rfl, rfl, rfl, trivial⟩
                                  · conv => whnf
                                    refine pw_st h (fun z633 h => ?_)
                                    conv => whnf
                                    refine pw_st h (fun z634 h => ?_)
                                    conv => whnf
                                    exact np_gl (ih S620 u606 u608 u609 u610 z633 u614 u615 z634 f621 _ _ ho607 ho611 ho612 (by omega) (by omega) hW622 h) ⟨rfl, rfl, rfl, rfl, rfl, rfl, rfl, trivial⟩
                        · conv => whnf
                          refine np_rd_i (hW580.g ho498) ?_
                          conv => whnf
                          refine np_chk_i (pw_and rfl (pw_and rfl (pw_and rfl (pw_and rfl ((pw_and (pw_le (by omega)) (pw_le (by omega)))))))) ?_
                          conv => whnf
                          refine ⟨q, S578, u497, u505, u499, u507, (u508 + 1), rfl, ho498, hW580, pw_bd h (fun S643 r646 h f644 hW645 => ?_)⟩
                          rcases r646 with r648 | e649
                          · replace h := pw_ei h
                            conv => whnf
                            refine pw_br h (fun _ h => ?_) (fun _ h => ?_)
                            · conv => whnf
                              refine pw_st h (fun z650 h => ?_)
                              conv => whnf
                              refine pw_st h (fun z651 h => ?_)
                              conv => whnf
                              refine pw_st h (fun z652 h => ?_)
                              conv => whnf
                              refine np_gl (L_L_areKeys_235 (dc := N * 76 + dc + 50) (ds := N * 456 + ds + 300) hX hR (fun S666 u653 u655 u656 u657 u660 u661 u662 u663 u664 u665 f667 ce704 sl705 ho654 ho658 ho659 hc706 hs707 hW668 h => ?_) (pw_F 11) S643 u497 u499 u500 u501 u504 z650 u505 u506 u507 u509 z651 z652 f644 _ _ ho498 ho502 ho503 (by rw [pw_F_eq]; omega) (by rw [pw_F_eq]; omega) hW645 h) ⟨rfl, rfl, rfl, rfl, rfl, rfl, rfl, rfl, rfl, rfl, rfl, trivial⟩
                              · refine np_soundW (so_L_areKeys hX hR) [8, 22, 73, 235, 294, 420] 400 288 _ _ _ _ _ ?_
                                conv => whnf
                                refine pw_st h (fun z669 h => ?_)
                                conv => whnf
                                refine pw_st h (fun z670 h => ?_)
                                conv => whnf
                                refine np_gl (L_L_areKeys_294 (dc := N * 76 + dc + 0) (ds := N * 456 + ds + 0) hX hR (fun S685 u671 u673 u674 u675 u678 u679 u680 u681 u682 u683 u684 f686 ce700 sl701 ho672 ho676 ho677 hc702 hs703 hW687 h => ?_) (pw_F 25) S666 u653 u655 u656 u657 u660 u661 u662 u663 u664 u665 z669 z670 f667 _ _ ho654 ho658 ho659 (by rw [pw_F_eq]; omega) (by rw [pw_F_eq]; omega) hW668 h) ⟨rfl, rfl, rfl, rfl, rfl, rfl, rfl, rfl, rfl, rfl, rfl, trivial⟩
                                · refine np_soundW (so_L_areKeys hX hR) [8, 22, 73, 235, 294, 420] 400 366 _ _ _ _ _ ?_
                                  conv => whnf
                                  refine pw_br h (fun _ h => ?_) (fun _ h => ?_)
                                  · conv => whnf
                                    refine pw_st h (fun z688 h => ?_)
                                    conv => whnf
                                    refine pw_st h (fun z689 h => ?_)
                                    conv => whnf
                                    exact np_gl (ih S685 u671 u673 u674 u675 z688 u679 u680 z689 f686 _ _ ho672 ho676 ho677 (by omega) (by omega) hW687 h) ⟨rfl, rfl, rfl, rfl, rfl, rfl, rfl, trivial⟩
                                  · conv => whnf
                                    refine pw_br h (fun _ h => ?_) (fun _ h => ?_)
                                    · conv => whnf
                                      refine pw_br h (fun _ h => ?_) (fun _ h => ?_)
                                      · conv => whnf
                                        refine pw_st h (fun z690 h => ?_)
                                        conv => whnf
                                        refine pw_st h (fun z691 h => ?_)
                                        conv => whnf
                                        exact np_gl (ih S685 u671 u673 u674 u675 z690 u679 u680 z691 f686 _ _ ho672 ho676 ho677 (by omega) (by omega) hW687 h) ⟨rfl, rfl, rfl, rfl, rfl, rfl, rfl, trivial⟩
                                      · conv => whnf
                                        refine pw_br h (fun _ h => ?_) (fun _ h => ?_)
                                        · conv => whnf
                                          refine pw_st h (fun z692 h => ?_)
                                          conv => whnf
                                          refine pw_st h (fun z693 h => ?_)
                                          conv => whnf
                                          exact np_gl (ih S685 u671 u673 u674 u675 z692 u679 u680 z693 f686 _ _ ho672 ho676 ho677 (by omega) (by omega) hW687 h) ⟨rfl, rfl, rfl, rfl, rfl, rfl, rfl, trivial⟩
                                        · conv => whnf
                                          refine pw_st h (fun z694 h => ?_)
                                          conv => whnf
                                          refine pw_st h (fun z695 h => ?_)
                                          conv => whnf
                                          exact np_gl (ih S685 u671 u673 u674 u675 z694 u679 u680 z695 f686 _ _ ho672 ho676 ho677 (by omega) (by omega) hW687 h) ⟨rfl, rfl, rfl, rfl, rfl, rfl, rfl, trivial⟩
                                    · conv => whnf
                                      refine pw_br h (fun _ h => ?_) (fun _ h => ?_)
                                      · conv => whnf
                                        refine pw_st h (fun z696 h => ?_)
                                        conv => whnf
                                        refine pw_st h (fun z697 h => ?_)
                                        conv => whnf
                                        exact np_gl (ih S685 u671 u673 u674 u675 z696 u679 u680 z697 f686 _ _ ho672 ho676 ho677 (by omega) (by omega) hW687 h) ⟨rfl, rfl, rfl, rfl, rfl, rfl, rfl, trivial⟩
                                      · conv => whnf
                                        refine pw_st h (fun z698 h => ?_)
                                        conv => whnf
                                        refine pw_st h (fun z699 h => ?_)
                                        conv => whnf
                                        exact np_gl (ih S685 u671 u673 u674 u675 z698 u679 u680 z699 f686 _ _ ho672 ho676 ho677 (by omega) (by omega) hW687 h) ⟨rfl, rfl, rfl, rfl, rfl, rfl, rfl, trivial⟩
                            · conv => whnf
                              refine pw_st h (fun z708 h => ?_)
                              conv => whnf
                              refine pw_st h (fun z709 h => ?_)
                              conv => whnf
                              refine pw_st h (fun z710 h => ?_)
                              conv => whnf
                              refine np_gl (L_L_areKeys_235 (dc := N * 76 + dc + 50) (ds := N * 456 + ds + 300) hX hR (fun S724 u711 u713 u714 u715 u718 u719 u720 u721 u722 u723 f725 ce762 sl763 ho712 ho716 ho717 hc764 hs765 hW726 h => ?_) (pw_F 11) S643 u497 u499 u500 u501 u504 z708 u505 u506 u507 u509 z709 z710 f644 _ _ ho498 ho502 ho503 (by rw [pw_F_eq]; omega) (by rw [pw_F_eq]; omega) hW645 h) ⟨rfl, rfl, rfl, rfl, rfl, rfl, rfl, rfl, rfl, rfl, rfl, trivial⟩
                              · refine np_soundW (so_L_areKeys hX hR) [8, 22, 73, 235, 294, 420] 400 288 _ _ _ _ _ ?_
                                conv => whnf
                                refine pw_st h (fun z727 h => ?_)
                                conv => whnf
                                refine pw_st h (fun z728 h => ?_)
                                conv => whnf
                                refine np_gl (L_L_areKeys_294 (dc := N * 76 + dc + 0) (ds := N * 456 + ds + 0) hX hR (fun S743 u729 u731 u732 u733 u736 u737 u738 u739 u740 u741 u742 f744 ce758 sl759 ho730 ho734 ho735 hc760 hs761 hW745 h => ?_) (pw_F 25) S724 u711 u713 u714 u715 u718 u719 u720 u721 u722 u723 z727 z728 f725 _ _ ho712 ho716 ho717 (by rw [pw_F_eq]; omega) (by rw [pw_F_eq]; omega) hW726 h) ⟨rfl, rfl, rfl, rfl, rfl, rfl, rfl, rfl, rfl, rfl, rfl, trivial⟩
                                · refine np_soundW (so_L_areKeys hX hR) [8, 22, 73, 235, 294, 420] 400 366 _ _ _ _ _ ?_
                                  conv => whnf
                                  refine pw_br h (fun _ h => ?_) (fun _ h => ?_)
                                  · conv => whnf
                                    refine pw_st h (fun z746 h => ?_)
                                    conv => whnf
                                    refine pw_st h (fun z747 h => ?_)
                                    conv => whnf
                                    exact np_gl (ih S743 u729 u731 u732 u733 z746 u737 u738 z747 f744 _ _ ho730 ho734 ho735 (by omega) (by omega) hW745 h) ⟨rfl, rfl, rfl, rfl, rfl, rfl, rfl, trivial⟩
                                  · conv => whnf
                                    refine pw_br h (fun _ h => ?_) (fun _ h => ?_)
                                    · conv => whnf
                                      refine pw_br h (fun _ h => ?_) (fun _ h => ?_)
                                      · conv => whnf
                                        refine pw_st h (fun z748 h => ?_)
                                        conv => whnf
                                        refine pw_st h (fun z749 h => ?_)
                                        conv => whnf
                                        exact np_gl (ih S743 u729 u731 u732 u733 z748 u737 u738 z749 f744 _ _ ho730 ho734 ho735 (by omega) (by omega) hW745 h) ⟨rfl, rfl, rfl, rfl, rfl, rfl, rfl, trivial⟩
                                      · conv => whnf
                                        refine pw_br h (fun _ h => ?_) (fun _ h => ?_)
                                        · conv => whnf
                                          refine pw_st h (fun z750 h => ?_)
                                          conv => whnf
                                          refine pw_st h (fun z751 h => ?_)
                                          conv => whnf
                                          exact np_gl (ih S743 u729 u731 u732 u733 z750 u737 u738 z751 f744 _ _ ho730 ho734 ho735 (by omega) (by omega) hW745 h) ⟨rfl, rfl, rfl, rfl, rfl, rfl, rfl, trivial⟩
                                        · conv => whnf
                                          refine pw_st h (fun z752 h => ?_)
                                          conv => whnf
                                          refine pw_st h (fun z753 h => ?_)
                                          conv => whnf
                                          exact np_gl (ih S743 u729 u731 u732 u733 z752 u737 u738 z753 f744 _ _ ho730 ho734 ho735 (by omega) (by omega) hW745 h) ⟨rfl, rfl, rfl, rfl, rfl, rfl, rfl, trivial⟩
                                    · conv => whnf
                                      refine pw_br h (fun _ h => ?_) (fun _ h => ?_)
                                      · conv => whnf
                                        refine pw_st h (fun z754 h => ?_)
                                        conv => whnf
                                        refine pw_st h (fun z755 h => ?_)
                                        conv => whnf
                                        exact np_gl (ih S743 u729 u731 u732 u733 z754 u737 u738 z755 f744 _ _ ho730 ho734 ho735 (by omega) (by omega) hW745 h) ⟨rfl, rfl, rfl, rfl, rfl, rfl, rfl, trivial⟩
                                      · conv => whnf
                                        refine pw_st h (fun z756 h => ?_)
                                        conv => whnf
                                        refine pw_st h (fun z757 h => ?_)
                                        conv => whnf
                                        exact np_gl (ih S743 u729 u731 u732 u733 z756 u737 u738 z757 f744 _ _ ho730 ho734 ho735 (by omega) (by omega) hW745 h) ⟨rfl, rfl, rfl, rfl, rfl, rfl, rfl, trivial⟩
                          · exact (pw_pn h).elim
                      · conv => whnf
                        refine pw_st h (fun z766 h => ?_)
                        conv => whnf
                        refine pw_st h (fun z767 h => ?_)
                        conv => whnf
                        refine pw_st h (fun z768 h => ?_)
                        conv => whnf
                        refine np_gl (L_L_areKeys_235 (dc := N * 76 + dc + 50) (ds := N * 456 + ds + 300) hX hR (fun S782 u769 u771 u772 u773 u776 u777 u778 u779 u780 u781 f783 ce820 sl821 ho770 ho774 ho775 hc822 hs823 hW784 h => ?_) (pw_F 11) S578 u497 u499 u500 u501 u504 z766 u505 u506 u507 u509 z767 z768 f579 _ _ ho498 ho502 ho503 (by rw [pw_F_eq]; omega) (by rw [pw_F_eq]; omega) hW580 h) ⟨rfl, rfl, rfl, rfl, rfl, rfl, rfl, rfl, rfl, rfl, rfl, trivial⟩
                        · refine np_soundW (so_L_areKeys hX hR) [8, 22, 73, 235, 294, 420] 400 288 _ _ _ _ _ ?_
                          conv => whnf
                          refine pw_st h (fun z785 h => ?_)
                          conv => whnf
                          refine pw_st h (fun z786 h => ?_)
                          conv => whnf
                          refine np_gl (L_L_areKeys_294 (dc := N * 76 + dc + 0) (ds := N * 456 + ds + 0) hX hR (fun S801 u787 u789 u790 u791 u794 u795 u796 u797 u798 u799 u800 f802 ce816 sl817 ho788 ho792 ho793 hc818 hs819 hW803 h => ?_) (pw_F 25) S782 u769 u771 u772 u773 u776 u777 u778 u779 u780 u781 z785 z786 f783 _ _ ho770 ho774 ho775 (by rw [pw_F_eq]; omega) (by rw [pw_F_eq]; omega) hW784 h) ⟨rfl, rfl, rfl, rfl, rfl, rfl, rfl, rfl, rfl, rfl, rfl, trivial⟩
                          · refine np_soundW (so_L_areKeys hX hR) [8, 22, 73, 235, 294, 420] 400 366 _ _ _ _ _ ?_
                            conv => whnf
                            refine pw_br h (fun _ h => ?_) (fun _ h => ?_)
                            · conv => whnf
                              refine pw_st h (fun z804 h => ?_)
                              conv => whnf
                              refine pw_st h (fun z805 h => ?_)
                              conv => whnf
                              exact np_gl (ih S801 u787 u789 u790 u791 z804 u795 u796 z805 f802 _ _ ho788 ho792 ho793 (by omega) (by omega) hW803 h) ⟨rfl, rfl, rfl, rfl, rfl, rfl, rfl, trivial⟩
                            · conv => whnf
                              refine pw_br h (fun _ h => ?_) (fun _ h => ?_)
                              · conv => whnf
                                refine pw_br h (fun _ h => ?_) (fun _ h => ?_)
                                · conv => whnf
                                  refine pw_st h (fun z806 h => ?_)
                                  conv => whnf
                                  refine pw_st h (fun z807 h => ?_)
                                  conv => whnf
                                  exact np_gl (ih S801 u787 u789 u790 u791 z806 u795 u796 z807 f802 _ _ ho788 ho792 ho793 (by omega) (by omega) hW803 h) ⟨rfl, rfl, rfl, rfl, rfl, rfl, rfl, trivial⟩
                                · conv => whnf
                                  refine pw_br h (fun _ h => ?_) (fun _ h => ?_)
                                  · conv => whnf
                                    refine pw_st h (fun z808 h => ?_)
                                    conv => whnf
                                    refine pw_st h (fun z809 h => ?_)
                                    conv => whnf
                                    exact np_gl (ih S801 u787 u789 u790 u791 z808 u795 u796 z809 f802 _ _ ho788 ho792 ho793 (by omega) (by omega) hW803 h) ⟨rfl, rfl, rfl, rfl, rfl, rfl, rfl, trivial⟩
                                  · conv => whnf
                                    refine pw_st h (fun z810 h => ?_)
                                    conv => whnf
                                    refine pw_st h (fun z811 h => ?_)
                                    conv => whnf
                                    exact np_gl (ih S801 u787 u789 u790 u791 z810 u795 u796 z811 f802 _ _ ho788 ho792 ho793 (by omega) (by omega) hW803 h) ⟨rfl, rfl, rfl, rfl, rfl, rfl, rfl, trivial⟩
                              · conv => whnf
                                refine pw_br h (fun _ h => ?_) (fun _ h => ?_)
                                · conv => whnf
                                  refine pw_st h (fun z812 h => ?_)
                                  conv => whnf
                                  refine pw_st h (fun z813 h => ?_)
                                  conv => whnf
                                  exact np_gl (ih S801 u787 u789 u790 u791 z812 u795 u796 z813 f802 _ _ ho788 ho792 ho793 (by omega) (by omega) hW803 h) ⟨rfl, rfl, rfl, rfl, rfl, rfl, rfl, trivial⟩
                                · conv => whnf
                                  refine pw_st h (fun z814 h => ?_)
                                  conv => whnf
                                  refine pw_st h (fun z815 h => ?_)
                                  conv => whnf
                                  exact np_gl (ih S801 u787 u789 u790 u791 z814 u795 u796 z815 f802 _ _ ho788 ho792 ho793 (by omega) (by omega) hW803 h) ⟨rfl, rfl, rfl, rfl, rfl, rfl, rfl, trivial⟩
                    · exact (pw_pn h).elim
                  · conv => whnf
                    refine pw_st h (fun z824 h => ?_)
                    conv => whnf
                    refine pw_st h (fun z825 h => ?_)
                    conv => whnf
                    refine pw_st h (fun z826 h => ?_)
                    conv => whnf
                    refine np_gl (L_L_areKeys_235 (dc := N * 76 + dc + 50) (ds := N * 456 + ds + 300) hX hR (fun S840 u827 u829 u830 u831 u834 u835 u836 u837 u838 u839 f841 ce878 sl879 ho828 ho832 ho833 hc880 hs881 hW842 h => ?_) (pw_F 11) S571 u497 u499 u500 u501 u504 z824 u505 u506 u507 u509 z825 z826 f572 _ _ ho498 ho502 ho503 (by rw [pw_F_eq]; omega) (by rw [pw_F_eq]; omega) hW573 h) ⟨rfl, rfl, rfl, rfl, rfl, rfl, rfl, rfl, rfl, rfl, rfl, trivial⟩
                    · refine np_soundW (so_L_areKeys hX hR) [8, 22, 73, 235, 294, 420] 400 288 _ _ _ _ _ ?_
                      conv => whnf
                      refine pw_st h (fun z843 h => ?_)
                      conv => whnf
                      refine pw_st h (fun z844 h => ?_)
                      conv => whnf
                      refine np_gl (L_L_areKeys_294 (dc := N * 76 + dc + 0) (ds := N * 456 + ds + 0) hX hR (fun S859 u845 u847 u848 u849 u852 u853 u854 u855 u856 u857 u858 f860 ce874 sl875 ho846 ho850 ho851 hc876 hs877 hW861 h => ?_) (pw_F 25) S840 u827 u829 u830 u831 u834 u835 u836 u837 u838 u839 z843 z844 f841 _ _ ho828 ho832 ho833 (by rw [pw_F_eq]; omega) (by rw [pw_F_eq]; omega) hW842 h) ⟨rfl, rfl, rfl, rfl, rfl, rfl, rfl, rfl, rfl, rfl, rfl, trivial⟩
                      · refine np_soundW (so_L_areKeys hX hR) [8, 22, 73, 235, 294, 420] 400 366 _ _ _ _ _ ?_
                        conv => whnf
                        refine pw_br h (fun _ h => ?_) (fun _ h => ?_)
                        · conv => whnf
                          refine pw_st h (fun z862 h => ?_)
                          conv => whnf
                          refine pw_st h (fun z863 h => ?_)
                          conv => whnf
                          exact np_gl (ih S859 u845 u847 u848 u849 z862 u853 u854 z863 f860 _ _ ho846 ho850 ho851 (by omega) (by omega) hW861 h) ⟨rfl, rfl, rfl, rfl, rfl, rfl, rfl, trivial⟩
                        · conv => whnf
                          refine pw_br h (fun _ h => ?_) (fun _ h => ?_)
                          · conv => whnf
                            refine pw_br h (fun _ h => ?_) (fun _ h => ?_)
                            · conv => whnf
                              refine pw_st h (fun z864 h => ?_)
                              conv => whnf
                              refine pw_st h (fun z865 h => ?_)
                              conv => whnf
                              exact np_gl (ih S859 u845 u847 u848 u849 z864 u853 u854 z865 f860 _ _ ho846 ho850 ho851 (by omega) (by omega) hW861 h) ⟨rfl, rfl, rfl, rfl, rfl, rfl, rfl, trivial⟩
                            · conv => whnf
                              refine pw_br h (fun _ h => ?_) (fun _ h => ?_)
                              · conv => whnf
                                refine pw_st h (fun z866 h => ?_)
                                conv => whnf
                                refine pw_st h (fun z867 h => ?_)
                                conv => whnf
                                exact np_gl (ih S859 u845 u847 u848 u849 z866 u853 u854 z867 f860 _ _ ho846 ho850 ho851 (by omega) (by omega) hW861 h) ⟨rfl, rfl, rfl, rfl, rfl, rfl, rfl, trivial⟩
                              · conv => whnf
                                refine pw_st h (fun z868 h => ?_)
                                conv => whnf
                                refine pw_st h (fun z869 h => ?_)
                                conv => whnf
                                exact np_gl (ih S859 u845 u847 u848 u849 z868 u853 u854 z869 f860 _ _ ho846 ho850 ho851 (by omega) (by omega) hW861 h) ⟨rfl, rfl, rfl, rfl, rfl, rfl, rfl, trivial⟩
                          · conv => whnf
                            refine pw_br h (fun _ h => ?_) (fun _ h => ?_)
                            · conv => whnf
                              refine pw_st h (fun z870 h => ?_)
                              conv => whnf
                              refine pw_st h (fun z871 h => ?_)
                              conv => whnf
                              exact np_gl (ih S859 u845 u847 u848 u849 z870 u853 u854 z871 f860 _ _ ho846 ho850 ho851 (by omega) (by omega) hW861 h) ⟨rfl, rfl, rfl, rfl, rfl, rfl, rfl, trivial⟩
                            · conv => whnf
                              refine pw_st h (fun z872 h => ?_)
                              conv => whnf
                              refine pw_st h (fun z873 h => ?_)
                              conv => whnf
                              exact np_gl (ih S859 u845 u847 u848 u849 z872 u853 u854 z873 f860 _ _ ho846 ho850 ho851 (by omega) (by omega) hW861 h) ⟨rfl, rfl, rfl, rfl, rfl, rfl, rfl, trivial⟩
                · exact (pw_pn h).elim
        · exact (pw_pn h).elim
noncomputable def m_L_areKeys_8 (k426 : pw_S → Nat → Int32 → Int32 → Int32 → pw_R Int32) : Nat → pw_S → Nat → Int32 → Nat → Nat → Int32 → Int32 → Int32 → pw_R Int32
| 0, _, _, _, _, _, _, _, _ => none
| N + 1, S, v0, v1, va2, vi2, v3, v4, v5 =>
 if 2 ≤ v5 then
 (k426 S v0 v1 v3 v4)
 else
 (if v4 = 0 then
 (k426 S v0 v1 v3 v4)
 else
 (pw_l (0 : Int32) fun z886 =>
 m_L_areKeys_22
 (fun S897 u887 u889 u890 u891 u894 u895 u896 =>
 (pw_l (u896 + 1 : Int32) fun z900 =>
 m_L_areKeys_8 k426 N S897 u887 u889 u890 u891 u894 u895 z900)) (pw_F 11) S v0 v1 va2 vi2 v3 v4 v5 z886))
set_option maxRecDepth 100000 in
set_option maxHeartbeats 8000000 in
theorem L_L_areKeys_8 {X : np_Ctx} (hX : np_ok RL cL_areKeys 13 7 160 2510 15060 .ireturn X) {Q : Option Value → np_W → Prop} {q : Nat} {n dc ds : Nat} (hR : ∀ st w ce sl, np_rt (some .boolean) 2510 15060 Q st w ce sl → X.2.2.1 st w ce sl) {k426 : pw_S → Nat → Int32 → Int32 → Int32 → pw_R Int32} (hk426 : ∀ (S : pw_S) (v0 : Nat) (v1 : Int32) (v3 : Int32) (v4 : Int32) (f : Nat → Option np_E) (ce sl : Nat) (hv0 : pw_ok q 61 v0 = true), ce + dc ≤ 2510 → sl + ds ≤ 15060 → pw_W q (n, f) S → pw_p (k426 S v0 v1 v3 v4) (fun S' r => ∀ f', pw_W q (n, f') S' → Q (some (.int r)) (n, f')) → np_G X 426 [(0, .ref (pw_pl 61 v0)), (1, .int v1), (3, .int v3), (4, .int v4)] [] (n, f) ce sl) : ∀ (N : Nat) (S : pw_S) (v0 : Nat) (v1 : Int32) (va2 : Nat) (vi2 : Nat) (v3 : Int32) (v4 : Int32) (v5 : Int32) (f : Nat → Option np_E) (ce sl : Nat) (hv0 : pw_ok q 61 v0 = true) (ha2 : pw_arr va2 = true) (hi2 : pw_ok q va2 vi2 = true), ce + N * 836 + dc ≤ 2510 → sl + N * 5016 + ds ≤ 15060 → pw_W q (n, f) S → pw_p (m_L_areKeys_8 k426 N S v0 v1 va2 vi2 v3 v4 v5) (fun S' r => ∀ f', pw_W q (n, f') S' → Q (some (.int r)) (n, f')) → np_G X 8 [(0, .ref (pw_pl 61 v0)), (1, .int v1), (2, .ref (pw_pl va2 vi2)), (3, .int v3), (4, .int v4), (5, .int v5)] [] (n, f) ce sl := by
  intro N
  induction N with
  | zero =>
    intro S v0 v1 va2 vi2 v3 v4 v5 f ce sl hv0 ha2 hi2 hc hs hW h
    exact (pw_pn h).elim
  | succ N ih =>
    intro S v0 v1 va2 vi2 v3 v4 v5 f ce sl hv0 ha2 hi2 hc hs hW h
    unfold m_L_areKeys_8 at h
    refine np_soundW (so_L_areKeys hX hR) [8, 22, 73, 235, 294, 426] 400 8 _ _ _ _ _ ?_
    conv => whnf
    refine pw_br h (fun _ h => ?_) (fun _ h => ?_)
    · conv => whnf
      exact np_gl (hk426 S v0 v1 v3 v4 f _ _ hv0 (by omega) (by omega) hW h) ⟨rfl, rfl, rfl, rfl, trivial⟩
    · conv => whnf
      refine pw_br h (fun _ h => ?_) (fun _ h => ?_)
      · conv => whnf
        exact np_gl (hk426 S v0 v1 v3 v4 f _ _ hv0 (by omega) (by omega) hW h) ⟨rfl, rfl, rfl, rfl, trivial⟩
      · conv => whnf
        refine pw_st h (fun z886 h => ?_)
        conv => whnf
        refine np_gl (L_L_areKeys_22 (dc := N * 836 + dc + 0) (ds := N * 5016 + ds + 0) hX hR (fun S897 u887 u889 u890 u891 u894 u895 u896 f898 ce901 sl902 ho888 ho892 ho893 hc903 hs904 hW899 h => ?_) (pw_F 11) S v0 v1 va2 vi2 v3 v4 v5 z886 f _ _ hv0 ha2 hi2 (by rw [pw_F_eq]; omega) (by rw [pw_F_eq]; omega) hW h) ⟨rfl, rfl, rfl, rfl, rfl, rfl, rfl, trivial⟩
        · refine np_soundW (so_L_areKeys hX hR) [8, 22, 73, 235, 294, 426] 400 420 _ _ _ _ _ ?_
          conv => whnf
          refine pw_st h (fun z900 h => ?_)
          conv => whnf
          exact np_gl (ih S897 u887 u889 u890 u891 u894 u895 z900 f898 _ _ ho888 ho892 ho893 (by omega) (by omega) hW899 h) ⟨rfl, rfl, rfl, rfl, rfl, rfl, trivial⟩
noncomputable def m_L_areKeys (S : pw_S) (i0 : Nat) (x1 : Int32) (a2 : Nat) (i2 : Nat) : pw_R Int32 :=
 pw_l (0 : Int32) fun z905 =>
 pw_l (1 : Int32) fun z906 =>
 pw_l (0 : Int32) fun z907 =>
 m_L_areKeys_8
 (fun S913 u908 u910 u911 u912 =>
 (if u912 = 0 then
 (some (S913, 0))
 else
 (pw_b (m_X11_compare S913 u908 u910) fun S916 r919 =>
 pw_e r919 (fun r921 =>
 (if r921 = u911 then
 (pw_b (m_X11_find S916 u908 0 u910 (-1) 0) fun S923 r926 =>
 pw_e r926 (fun r928 =>
 (if r928 = (-1) then
 (some (S923, 1))
 else
 (some (S923, 0)))) (fun _ => none))
 else
 (some (S916, 0)))) (fun _ => none)))) (pw_F 3) S i0 x1 a2 i2 z905 z906 z907
def sp_L_areKeys : np_Sp := fun vs w Q => ∃ (q : Nat) (S : pw_S) (i0 : Nat) (x1 : Int32) (a2 : Nat) (i2 : Nat), vs = [.ref (pw_pl 61 i0), .int x1, .ref (pw_pl a2 i2)] ∧ pw_ok q 61 i0 = true ∧ pw_arr a2 = true ∧ pw_ok q a2 i2 = true ∧ pw_W q w S ∧ pw_p (m_L_areKeys S i0 x1 a2 i2) (fun S' r => ∀ f', pw_W q (w.1, f') S' → Q (some (.int r)) (w.1, f'))
set_option maxRecDepth 100000 in
set_option maxHeartbeats 8000000 in
theorem C_L_areKeys : np_C yL_areKeys cL_areKeys 13 (some .boolean) 7 160 2510 15060 (sp_L_areKeys) := by
  refine np_of (by decide) ?_
  intro X vs w Q hsp hX hmn hRt hlt
  obtain ⟨q, S, i0, x1, a2, i2, rfl, hi0, ha2, hi2, hW, h⟩ := hsp
  obtain ⟨n, f⟩ := w
  unfold m_L_areKeys at h
  have hR : ∀ st w ce sl, np_rt (some .boolean) 2510 15060 Q st w ce sl → X.2.2.1 st w ce sl := fun _ _ _ _ h => by rw [hRt]; exact h
  refine np_soundW (so_L_areKeys hX hR) [8, 22, 73, 235, 294] 400 0 _ _ _ _ _ ?_
  conv => whnf
  refine pw_st h (fun z905 h => ?_)
  conv => whnf
  refine pw_st h (fun z906 h => ?_)
  conv => whnf
  refine pw_st h (fun z907 h => ?_)
  conv => whnf
  refine np_gl (L_L_areKeys_8 (dc := 2) (ds := 12) hX hR (fun S913 u908 u910 u911 u912 f914 ce930 sl931 ho909 hc932 hs933 hW915 h => ?_) (pw_F 3) S i0 x1 a2 i2 z905 z906 z907 f _ _ hi0 ha2 hi2 (by rw [pw_F_eq]; omega) (by rw [pw_F_eq]; omega) hW h) ⟨rfl, rfl, rfl, rfl, rfl, rfl, trivial⟩
  · refine np_soundW (so_L_areKeys hX hR) [8, 22, 73, 235, 294] 400 426 _ _ _ _ _ ?_
    conv => whnf
    refine pw_br h (fun _ h => ?_) (fun _ h => ?_)
    · conv => whnf
      exact ⟨(by omega), (by omega), ⟨_, rfl, by decide⟩, _, fun _ _ h9 => h9, pw_ps h _ hW915⟩
    · conv => whnf
      refine np_rd_i (hW915.g ho909) ?_
      conv => whnf
      refine np_chk_i (pw_and rfl (pw_and rfl (pw_and rfl (pw_and rfl ((pw_and (pw_le (by omega)) (pw_le (by omega)))))))) ?_
      conv => whnf
      refine ⟨q, S913, u908, u910, rfl, ho909, hW915, pw_bd h (fun S916 r919 h f917 hW918 => ?_)⟩
      rcases r919 with r921 | e922
      · replace h := pw_ei h
        conv => whnf
        refine pw_br h (fun _ h => ?_) (fun _ h => ?_)
        · conv => whnf
          refine np_rd_i (hW918.g ho909) ?_
          conv => whnf
          refine np_chk_i (pw_and rfl (pw_and rfl (pw_and rfl (pw_and rfl ((pw_and (pw_le (by omega)) (pw_le (by omega)))))))) ?_
          conv => whnf
          refine ⟨q, S916, u908, 0, u910, (-1), 0, rfl, ho909, hW918, pw_bd h (fun S923 r926 h f924 hW925 => ?_)⟩
          rcases r926 with r928 | e929
          · replace h := pw_ei h
            conv => whnf
            refine pw_br h (fun _ h => ?_) (fun _ h => ?_)
            · conv => whnf
              exact ⟨(by omega), (by omega), ⟨_, rfl, by decide⟩, _, fun _ _ h9 => h9, pw_ps h _ hW925⟩
            · conv => whnf
              exact ⟨(by omega), (by omega), ⟨_, rfl, by decide⟩, _, fun _ _ h9 => h9, pw_ps h _ hW925⟩
          · exact (pw_pn h).elim
        · conv => whnf
          exact ⟨(by omega), (by omega), ⟨_, rfl, by decide⟩, _, fun _ _ h9 => h9, pw_ps h _ hW918⟩
      · exact (pw_pn h).elim
