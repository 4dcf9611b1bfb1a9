theorem dL_areColumns_0 : decode cL_areColumns 0 = .ok (.iconst 1, 1) := by decide +kernel
theorem dL_areColumns_1 : decode cL_areColumns 1 = .ok (.istore_n 3, 1) := by decide +kernel
theorem dL_areColumns_2 : decode cL_areColumns 2 = .ok (.iconst 0, 1) := by decide +kernel
theorem dL_areColumns_3 : decode cL_areColumns 3 = .ok (.istore 4, 2) := by decide +kernel
theorem dL_areColumns_5 : decode cL_areColumns 5 = .ok (.iload 4, 2) := by decide +kernel
theorem dL_areColumns_7 : decode cL_areColumns 7 = .ok (.aload_n 2, 1) := by decide +kernel
theorem dL_areColumns_8 : decode cL_areColumns 8 = .ok (.iconst 1, 1) := by decide +kernel
theorem dL_areColumns_9 : decode cL_areColumns 9 = .ok (.iaload, 1) := by decide +kernel
theorem dL_areColumns_10 : decode cL_areColumns 10 = .ok (.if_icmp .ge 335, 3) := by decide +kernel
theorem dL_areColumns_13 : decode cL_areColumns 13 = .ok (.iload_n 3, 1) := by decide +kernel
theorem dL_areColumns_14 : decode cL_areColumns 14 = .ok (.ifCond .eq 331, 3) := by decide +kernel
theorem dL_areColumns_17 : decode cL_areColumns 17 = .ok (.aload_n 1, 1) := by decide +kernel
theorem dL_areColumns_18 : decode cL_areColumns 18 = .ok (.iload 4, 2) := by decide +kernel
theorem dL_areColumns_20 : decode cL_areColumns 20 = .ok (.iaload, 1) := by decide +kernel
theorem dL_areColumns_21 : decode cL_areColumns 21 = .ok (.iconst 0, 1) := by decide +kernel
theorem dL_areColumns_22 : decode cL_areColumns 22 = .ok (.iconst 1, 1) := by decide +kernel
theorem dL_areColumns_23 : decode cL_areColumns 23 = .ok (.invokestatic 127, 3) := by decide +kernel
theorem dL_areColumns_26 : decode cL_areColumns 26 = .ok (.istore 5, 2) := by decide +kernel
theorem dL_areColumns_28 : decode cL_areColumns 28 = .ok (.aload_n 1, 1) := by decide +kernel
theorem dL_areColumns_29 : decode cL_areColumns 29 = .ok (.iload 4, 2) := by decide +kernel
theorem dL_areColumns_31 : decode cL_areColumns 31 = .ok (.iaload, 1) := by decide +kernel
theorem dL_areColumns_32 : decode cL_areColumns 32 = .ok (.iconst 1, 1) := by decide +kernel
theorem dL_areColumns_33 : decode cL_areColumns 33 = .ok (.iconst 2, 1) := by decide +kernel
theorem dL_areColumns_34 : decode cL_areColumns 34 = .ok (.invokestatic 127, 3) := by decide +kernel
theorem dL_areColumns_37 : decode cL_areColumns 37 = .ok (.istore 6, 2) := by decide +kernel
theorem dL_areColumns_39 : decode cL_areColumns 39 = .ok (.aload_n 1, 1) := by decide +kernel
theorem dL_areColumns_40 : decode cL_areColumns 40 = .ok (.iload 4, 2) := by decide +kernel
theorem dL_areColumns_42 : decode cL_areColumns 42 = .ok (.iaload, 1) := by decide +kernel
theorem dL_areColumns_43 : decode cL_areColumns 43 = .ok (.iconst 3, 1) := by decide +kernel
theorem dL_areColumns_44 : decode cL_areColumns 44 = .ok (.iconst 3, 1) := by decide +kernel
theorem dL_areColumns_45 : decode cL_areColumns 45 = .ok (.invokestatic 127, 3) := by decide +kernel
theorem dL_areColumns_48 : decode cL_areColumns 48 = .ok (.istore 7, 2) := by decide +kernel
theorem dL_areColumns_50 : decode cL_areColumns 50 = .ok (.aload_n 1, 1) := by decide +kernel
theorem dL_areColumns_51 : decode cL_areColumns 51 = .ok (.iload 4, 2) := by decide +kernel
theorem dL_areColumns_53 : decode cL_areColumns 53 = .ok (.iaload, 1) := by decide +kernel
theorem dL_areColumns_54 : decode cL_areColumns 54 = .ok (.bipush 6, 2) := by decide +kernel
theorem dL_areColumns_56 : decode cL_areColumns 56 = .ok (.iconst 3, 1) := by decide +kernel
theorem dL_areColumns_57 : decode cL_areColumns 57 = .ok (.invokestatic 127, 3) := by decide +kernel
theorem dL_areColumns_60 : decode cL_areColumns 60 = .ok (.istore 8, 2) := by decide +kernel
theorem dL_areColumns_62 : decode cL_areColumns 62 = .ok (.iconst 0, 1) := by decide +kernel
theorem dL_areColumns_63 : decode cL_areColumns 63 = .ok (.istore 9, 2) := by decide +kernel
theorem dL_areColumns_65 : decode cL_areColumns 65 = .ok (.iload 9, 2) := by decide +kernel
theorem dL_areColumns_67 : decode cL_areColumns 67 = .ok (.aload_n 2, 1) := by decide +kernel
theorem dL_areColumns_68 : decode cL_areColumns 68 = .ok (.iconst 5, 1) := by decide +kernel
theorem dL_areColumns_69 : decode cL_areColumns 69 = .ok (.bipush 6, 2) := by decide +kernel
theorem dL_areColumns_71 : decode cL_areColumns 71 = .ok (.iload 5, 2) := by decide +kernel
theorem dL_areColumns_73 : decode cL_areColumns 73 = .ok (.imul, 1) := by decide +kernel
theorem dL_areColumns_74 : decode cL_areColumns 74 = .ok (.iadd, 1) := by decide +kernel
theorem dL_areColumns_75 : decode cL_areColumns 75 = .ok (.iaload, 1) := by decide +kernel
theorem dL_areColumns_76 : decode cL_areColumns 76 = .ok (.if_icmp .ge 231, 3) := by decide +kernel
theorem dL_areColumns_79 : decode cL_areColumns 79 = .ok (.iload_n 3, 1) := by decide +kernel
theorem dL_areColumns_80 : decode cL_areColumns 80 = .ok (.ifCond .eq 227, 3) := by decide +kernel
theorem dL_areColumns_83 : decode cL_areColumns 83 = .ok (.ldc 119, 2) := by decide +kernel
theorem dL_areColumns_85 : decode cL_areColumns 85 = .ok (.istore 10, 2) := by decide +kernel
theorem dL_areColumns_87 : decode cL_areColumns 87 = .ok (.aload_n 0, 1) := by decide +kernel
theorem dL_areColumns_88 : decode cL_areColumns 88 = .ok (.iload 5, 2) := by decide +kernel
theorem dL_areColumns_90 : decode cL_areColumns 90 = .ok (.iload 9, 2) := by decide +kernel
theorem dL_areColumns_92 : decode cL_areColumns 92 = .ok (.iload 7, 2) := by decide +kernel
theorem dL_areColumns_94 : decode cL_areColumns 94 = .ok (.invokestatic 130, 3) := by decide +kernel
theorem dL_areColumns_97 : decode cL_areColumns 97 = .ok (.istore 11, 2) := by decide +kernel
theorem dL_areColumns_99 : decode cL_areColumns 99 = .ok (.aload_n 0, 1) := by decide +kernel
theorem dL_areColumns_100 : decode cL_areColumns 100 = .ok (.iload 5, 2) := by decide +kernel
theorem dL_areColumns_102 : decode cL_areColumns 102 = .ok (.iload 9, 2) := by decide +kernel
theorem dL_areColumns_104 : decode cL_areColumns 104 = .ok (.iconst 1, 1) := by decide +kernel
theorem dL_areColumns_105 : decode cL_areColumns 105 = .ok (.isub, 1) := by decide +kernel
theorem dL_areColumns_106 : decode cL_areColumns 106 = .ok (.iload 7, 2) := by decide +kernel
theorem dL_areColumns_108 : decode cL_areColumns 108 = .ok (.invokestatic 130, 3) := by decide +kernel
theorem dL_areColumns_111 : decode cL_areColumns 111 = .ok (.istore 12, 2) := by decide +kernel
theorem dL_areColumns_113 : decode cL_areColumns 113 = .ok (.iload 6, 2) := by decide +kernel
theorem dL_areColumns_115 : decode cL_areColumns 115 = .ok (.ifCond .ne 21, 3) := by decide +kernel
theorem dL_areColumns_118 : decode cL_areColumns 118 = .ok (.aload_n 0, 1) := by decide +kernel
theorem dL_areColumns_119 : decode cL_areColumns 119 = .ok (.iload 5, 2) := by decide +kernel
theorem dL_areColumns_121 : decode cL_areColumns 121 = .ok (.iload 9, 2) := by decide +kernel
theorem dL_areColumns_123 : decode cL_areColumns 123 = .ok (.iload 8, 2) := by decide +kernel
theorem dL_areColumns_125 : decode cL_areColumns 125 = .ok (.isub, 1) := by decide +kernel
theorem dL_areColumns_126 : decode cL_areColumns 126 = .ok (.iload 7, 2) := by decide +kernel
theorem dL_areColumns_128 : decode cL_areColumns 128 = .ok (.invokestatic 130, 3) := by decide +kernel
theorem dL_areColumns_131 : decode cL_areColumns 131 = .ok (.istore 10, 2) := by decide +kernel
theorem dL_areColumns_133 : decode cL_areColumns 133 = .ok (.goto 136, 3) := by decide +kernel
theorem dL_areColumns_136 : decode cL_areColumns 136 = .ok (.iload 6, 2) := by decide +kernel
theorem dL_areColumns_138 : decode cL_areColumns 138 = .ok (.iconst 3, 1) := by decide +kernel
theorem dL_areColumns_139 : decode cL_areColumns 139 = .ok (.if_icmp .ne 32, 3) := by decide +kernel
theorem dL_areColumns_142 : decode cL_areColumns 142 = .ok (.iload 11, 2) := by decide +kernel
theorem dL_areColumns_144 : decode cL_areColumns 144 = .ok (.ldc 119, 2) := by decide +kernel
theorem dL_areColumns_146 : decode cL_areColumns 146 = .ok (.if_icmp .eq 10, 3) := by decide +kernel
theorem dL_areColumns_149 : decode cL_areColumns 149 = .ok (.iload 12, 2) := by decide +kernel
theorem dL_areColumns_151 : decode cL_areColumns 151 = .ok (.ldc 119, 2) := by decide +kernel
theorem dL_areColumns_153 : decode cL_areColumns 153 = .ok (.if_icmp .ne 8, 3) := by decide +kernel
theorem dL_areColumns_156 : decode cL_areColumns 156 = .ok (.ldc 119, 2) := by decide +kernel
theorem dL_areColumns_158 : decode cL_areColumns 158 = .ok (.goto 8, 3) := by decide +kernel
theorem dL_areColumns_161 : decode cL_areColumns 161 = .ok (.iload 11, 2) := by decide +kernel
theorem dL_areColumns_163 : decode cL_areColumns 163 = .ok (.iload 12, 2) := by decide +kernel
theorem dL_areColumns_165 : decode cL_areColumns 165 = .ok (.isub, 1) := by decide +kernel
theorem dL_areColumns_166 : decode cL_areColumns 166 = .ok (.istore 10, 2) := by decide +kernel
theorem dL_areColumns_168 : decode cL_areColumns 168 = .ok (.goto 101, 3) := by decide +kernel
theorem dL_areColumns_171 : decode cL_areColumns 171 = .ok (.iconst 0, 1) := by decide +kernel
theorem dL_areColumns_172 : decode cL_areColumns 172 = .ok (.istore 13, 2) := by decide +kernel
theorem dL_areColumns_174 : decode cL_areColumns 174 = .ok (.iload 13, 2) := by decide +kernel
theorem dL_areColumns_176 : decode cL_areColumns 176 = .ok (.iload 8, 2) := by decide +kernel
theorem dL_areColumns_178 : decode cL_areColumns 178 = .ok (.if_icmp .ge 91, 3) := by decide +kernel
theorem dL_areColumns_181 : decode cL_areColumns 181 = .ok (.iload 9, 2) := by decide +kernel
theorem dL_areColumns_183 : decode cL_areColumns 183 = .ok (.iload 13, 2) := by decide +kernel
theorem dL_areColumns_185 : decode cL_areColumns 185 = .ok (.isub, 1) := by decide +kernel
theorem dL_areColumns_186 : decode cL_areColumns 186 = .ok (.ifCond .ge 8, 3) := by decide +kernel
theorem dL_areColumns_189 : decode cL_areColumns 189 = .ok (.ldc 119, 2) := by decide +kernel
theorem dL_areColumns_191 : decode cL_areColumns 191 = .ok (.goto 16, 3) := by decide +kernel
theorem dL_areColumns_194 : decode cL_areColumns 194 = .ok (.aload_n 0, 1) := by decide +kernel
theorem dL_areColumns_195 : decode cL_areColumns 195 = .ok (.iload 5, 2) := by decide +kernel
theorem dL_areColumns_197 : decode cL_areColumns 197 = .ok (.iload 9, 2) := by decide +kernel
theorem dL_areColumns_199 : decode cL_areColumns 199 = .ok (.iload 13, 2) := by decide +kernel
theorem dL_areColumns_201 : decode cL_areColumns 201 = .ok (.isub, 1) := by decide +kernel
theorem dL_areColumns_202 : decode cL_areColumns 202 = .ok (.iload 7, 2) := by decide +kernel
theorem dL_areColumns_204 : decode cL_areColumns 204 = .ok (.invokestatic 130, 3) := by decide +kernel
theorem dL_areColumns_207 : decode cL_areColumns 207 = .ok (.istore 14, 2) := by decide +kernel
theorem dL_areColumns_209 : decode cL_areColumns 209 = .ok (.iload 14, 2) := by decide +kernel
theorem dL_areColumns_211 : decode cL_areColumns 211 = .ok (.ldc 119, 2) := by decide +kernel
theorem dL_areColumns_213 : decode cL_areColumns 213 = .ok (.if_icmp .ne 8, 3) := by decide +kernel
theorem dL_areColumns_216 : decode cL_areColumns 216 = .ok (.iload 10, 2) := by decide +kernel
theorem dL_areColumns_218 : decode cL_areColumns 218 = .ok (.goto 43, 3) := by decide +kernel
theorem dL_areColumns_221 : decode cL_areColumns 221 = .ok (.iload 10, 2) := by decide +kernel
theorem dL_areColumns_223 : decode cL_areColumns 223 = .ok (.ldc 119, 2) := by decide +kernel
theorem dL_areColumns_225 : decode cL_areColumns 225 = .ok (.if_icmp .ne 8, 3) := by decide +kernel
theorem dL_areColumns_228 : decode cL_areColumns 228 = .ok (.iload 14, 2) := by decide +kernel
theorem dL_areColumns_230 : decode cL_areColumns 230 = .ok (.goto 31, 3) := by decide +kernel
theorem dL_areColumns_233 : decode cL_areColumns 233 = .ok (.iload 6, 2) := by decide +kernel
theorem dL_areColumns_235 : decode cL_areColumns 235 = .ok (.iconst 1, 1) := by decide +kernel
theorem dL_areColumns_236 : decode cL_areColumns 236 = .ok (.if_icmp .ne 11, 3) := by decide +kernel
theorem dL_areColumns_239 : decode cL_areColumns 239 = .ok (.iload 10, 2) := by decide +kernel
theorem dL_areColumns_241 : decode cL_areColumns 241 = .ok (.iload 14, 2) := by decide +kernel
theorem dL_areColumns_243 : decode cL_areColumns 243 = .ok (.iadd, 1) := by decide +kernel
theorem dL_areColumns_244 : decode cL_areColumns 244 = .ok (.goto 17, 3) := by decide +kernel
theorem dL_areColumns_247 : decode cL_areColumns 247 = .ok (.iload 14, 2) := by decide +kernel
theorem dL_areColumns_249 : decode cL_areColumns 249 = .ok (.iload 10, 2) := by decide +kernel
theorem dL_areColumns_251 : decode cL_areColumns 251 = .ok (.if_icmp .le 8, 3) := by decide +kernel
theorem dL_areColumns_254 : decode cL_areColumns 254 = .ok (.iload 14, 2) := by decide +kernel
theorem dL_areColumns_256 : decode cL_areColumns 256 = .ok (.goto 5, 3) := by decide +kernel
theorem dL_areColumns_259 : decode cL_areColumns 259 = .ok (.iload 10, 2) := by decide +kernel
theorem dL_areColumns_261 : decode cL_areColumns 261 = .ok (.istore 10, 2) := by decide +kernel
theorem dL_areColumns_263 : decode cL_areColumns 263 = .ok (.iinc 13 1, 3) := by decide +kernel
theorem dL_areColumns_266 : decode cL_areColumns 266 = .ok (.goto (-92), 3) := by decide +kernel
theorem dL_areColumns_269 : decode cL_areColumns 269 = .ok (.aload_n 0, 1) := by decide +kernel
theorem dL_areColumns_270 : decode cL_areColumns 270 = .ok (.iload 4, 2) := by decide +kernel
theorem dL_areColumns_272 : decode cL_areColumns 272 = .ok (.iload 9, 2) := by decide +kernel
theorem dL_areColumns_274 : decode cL_areColumns 274 = .ok (.invokevirtual 30, 3) := by decide +kernel
theorem dL_areColumns_277 : decode cL_areColumns 277 = .ok (.iload 10, 2) := by decide +kernel
theorem dL_areColumns_279 : decode cL_areColumns 279 = .ok (.if_icmp .ne 20, 3) := by decide +kernel
theorem dL_areColumns_282 : decode cL_areColumns 282 = .ok (.aload_n 0, 1) := by decide +kernel
theorem dL_areColumns_283 : decode cL_areColumns 283 = .ok (.iload 4, 2) := by decide +kernel
theorem dL_areColumns_285 : decode cL_areColumns 285 = .ok (.iload 9, 2) := by decide +kernel
theorem dL_areColumns_287 : decode cL_areColumns 287 = .ok (.invokevirtual 133, 3) := by decide +kernel
theorem dL_areColumns_290 : decode cL_areColumns 290 = .ok (.iload 10, 2) := by decide +kernel
theorem dL_areColumns_292 : decode cL_areColumns 292 = .ok (.if_icmp .ne 7, 3) := by decide +kernel
theorem dL_areColumns_295 : decode cL_areColumns 295 = .ok (.iconst 1, 1) := by decide +kernel
theorem dL_areColumns_296 : decode cL_areColumns 296 = .ok (.goto 4, 3) := by decide +kernel
theorem dL_areColumns_299 : decode cL_areColumns 299 = .ok (.iconst 0, 1) := by decide +kernel
theorem dL_areColumns_300 : decode cL_areColumns 300 = .ok (.istore_n 3, 1) := by decide +kernel
theorem dL_areColumns_301 : decode cL_areColumns 301 = .ok (.iinc 9 1, 3) := by decide +kernel
theorem dL_areColumns_304 : decode cL_areColumns 304 = .ok (.goto (-239), 3) := by decide +kernel
theorem dL_areColumns_307 : decode cL_areColumns 307 = .ok (.iload_n 3, 1) := by decide +kernel
theorem dL_areColumns_308 : decode cL_areColumns 308 = .ok (.ifCond .eq 29, 3) := by decide +kernel
theorem dL_areColumns_311 : decode cL_areColumns 311 = .ok (.aload_n 0, 1) := by decide +kernel
theorem dL_areColumns_312 : decode cL_areColumns 312 = .ok (.iconst 5, 1) := by decide +kernel
theorem dL_areColumns_313 : decode cL_areColumns 313 = .ok (.iload 4, 2) := by decide +kernel
theorem dL_areColumns_315 : decode cL_areColumns 315 = .ok (.aload_n 2, 1) := by decide +kernel
theorem dL_areColumns_316 : decode cL_areColumns 316 = .ok (.iconst 5, 1) := by decide +kernel
theorem dL_areColumns_317 : decode cL_areColumns 317 = .ok (.bipush 6, 2) := by decide +kernel
theorem dL_areColumns_319 : decode cL_areColumns 319 = .ok (.iload 5, 2) := by decide +kernel
theorem dL_areColumns_321 : decode cL_areColumns 321 = .ok (.imul, 1) := by decide +kernel
theorem dL_areColumns_322 : decode cL_areColumns 322 = .ok (.iadd, 1) := by decide +kernel
theorem dL_areColumns_323 : decode cL_areColumns 323 = .ok (.iaload, 1) := by decide +kernel
theorem dL_areColumns_324 : decode cL_areColumns 324 = .ok (.iconst 0, 1) := by decide +kernel
theorem dL_areColumns_325 : decode cL_areColumns 325 = .ok (.invokestatic 52, 3) := by decide +kernel
theorem dL_areColumns_328 : decode cL_areColumns 328 = .ok (.ldc 39, 2) := by decide +kernel
theorem dL_areColumns_330 : decode cL_areColumns 330 = .ok (.if_icmp .ne 7, 3) := by decide +kernel
theorem dL_areColumns_333 : decode cL_areColumns 333 = .ok (.iconst 1, 1) := by decide +kernel
theorem dL_areColumns_334 : decode cL_areColumns 334 = .ok (.goto 4, 3) := by decide +kernel
theorem dL_areColumns_337 : decode cL_areColumns 337 = .ok (.iconst 0, 1) := by decide +kernel
theorem dL_areColumns_338 : decode cL_areColumns 338 = .ok (.istore_n 3, 1) := by decide +kernel
theorem dL_areColumns_339 : decode cL_areColumns 339 = .ok (.iinc 4 1, 3) := by decide +kernel
theorem dL_areColumns_342 : decode cL_areColumns 342 = .ok (.goto (-337), 3) := by decide +kernel
theorem dL_areColumns_345 : decode cL_areColumns 345 = .ok (.iload_n 3, 1) := by decide +kernel
theorem dL_areColumns_346 : decode cL_areColumns 346 = .ok (.ireturn, 1) := by decide +kernel
def is_L_areColumns (Rt : np_Rt) : List (Nat × np_Op) := [(0, np_push 1 (.int 1)), (1, nw_ist 1 3), (2, np_push 1 (.int 0)), (3, nw_ist 2 4), (5, np_ild 2 4), (7, np_ald 1 2), (8, np_push 1 (.int 1)), (9, nw_ialdT .int), (10, nq_ic (fun x y => y ≤ x) 345), (13, np_ild 1 3), (14, nq_if (fun x => x = 0) 345), (17, np_ald 1 1), (18, np_ild 2 4), (20, nw_ialdT .int), (21, np_push 1 (.int 0)), (22, np_push 1 (.int 1)), (23, nq_call 3 sp_L_part 3 0 0 777 4662), (26, nw_ist 2 5), (28, np_ald 1 1), (29, np_ild 2 4), (31, nw_ialdT .int), (32, np_push 1 (.int 1)), (33, np_push 1 (.int 2)), (34, nq_call 3 sp_L_part 3 0 0 777 4662), (37, nw_ist 2 6), (39, np_ald 1 1), (40, np_ild 2 4), (42, nw_ialdT .int), (43, np_push 1 (.int 3)), (44, np_push 1 (.int 3)), (45, nq_call 3 sp_L_part 3 0 0 777 4662), (48, nw_ist 2 7), (50, np_ald 1 1), (51, np_ild 2 4), (53, nw_ialdT .int), (54, np_push 2 (.int 6)), (56, np_push 1 (.int 3)), (57, nq_call 3 sp_L_part 3 0 0 777 4662), (60, nw_ist 2 8), (62, np_push 1 (.int 0)), (63, nw_ist 2 9), (65, np_ild 2 9), (67, np_ald 1 2), (68, np_push 1 (.int 5)), (69, np_push 2 (.int 6)), (71, np_ild 2 5), (73, np_ib (fun x y => x * y)), (74, np_ib (fun x y => x + y)), (75, nw_ialdT .int), (76, nq_ic (fun x y => y ≤ x) 307), (79, np_ild 1 3), (80, nq_if (fun x => x = 0) 307), (83, np_push 2 (.int (-2147483648))), (85, nw_ist 2 10), (87, np_ald 1 0), (88, np_ild 2 5), (90, np_ild 2 9), (92, np_ild 2 7), (94, nq_call 4 sp_L_cell 4 1 6 777 4662), (97, nw_ist 2 11), (99, np_ald 1 0), (100, np_ild 2 5), (102, np_ild 2 9), (104, np_push 1 (.int 1)), (105, np_ib (fun x y => x - y)), (106, np_ild 2 7), (108, nq_call 4 sp_L_cell 4 1 6 777 4662), (111, nw_ist 2 12), (113, np_ild 2 6), (115, nq_ifne 136), (118, np_ald 1 0), (119, np_ild 2 5), (121, np_ild 2 9), (123, np_ild 2 8), (125, np_ib (fun x y => x - y)), (126, np_ild 2 7), (128, nq_call 4 sp_L_cell 4 1 6 777 4662), (131, nw_ist 2 10), (133, np_goto 269), (136, np_ild 2 6), (138, np_push 1 (.int 3)), (139, nq_icne 171), (142, np_ild 2 11), (144, np_push 2 (.int (-2147483648))), (146, nq_ic (fun x y => x = y) 156), (149, np_ild 2 12), (151, np_push 2 (.int (-2147483648))), (153, nq_icne 161), (156, np_push 2 (.int (-2147483648))), (158, np_goto 166), (161, np_ild 2 11), (163, np_ild 2 12), (165, np_ib (fun x y => x - y)), (166, nw_ist 2 10), (168, np_goto 269), (171, np_push 1 (.int 0)), (172, nw_ist 2 13), (174, np_ild 2 13), (176, np_ild 2 8), (178, nq_ic (fun x y => y ≤ x) 269), (181, np_ild 2 9), (183, np_ild 2 13), (185, np_ib (fun x y => x - y)), (186, nq_if (fun x => 0 ≤ x) 194), (189, np_push 2 (.int (-2147483648))), (191, np_goto 207), (194, np_ald 1 0), (195, np_ild 2 5), (197, np_ild 2 9), (199, np_ild 2 13), (201, np_ib (fun x y => x - y)), (202, np_ild 2 7), (204, nq_call 4 sp_L_cell 4 1 6 777 4662), (207, nw_ist 2 14), (209, np_ild 2 14), (211, np_push 2 (.int (-2147483648))), (213, nq_icne 221), (216, np_ild 2 10), (218, np_goto 261), (221, np_ild 2 10), (223, np_push 2 (.int (-2147483648))), (225, nq_icne 233), (228, np_ild 2 14), (230, np_goto 261), (233, np_ild 2 6), (235, np_push 1 (.int 1)), (236, nq_icne 247), (239, np_ild 2 10), (241, np_ild 2 14), (243, np_ib (fun x y => x + y)), (244, np_goto 261), (247, np_ild 2 14), (249, np_ild 2 10), (251, nq_ic (fun x y => x ≤ y) 259), (254, np_ild 2 14), (256, np_goto 261), (259, np_ild 2 10), (261, nw_ist 2 10), (263, nw_iinc 13 1), (266, np_goto 174), (269, np_ald 1 0), (270, np_ild 2 4), (272, np_ild 2 9), (274, nw_callVX 11 3 sp_X11_derived 4 1 6 777 4662 []), (277, np_ild 2 10), (279, nq_icne 299), (282, np_ald 1 0), (283, np_ild 2 4), (285, np_ild 2 9), (287, nw_callVX 11 3 sp_X11_derivedByBatch 4 1 6 777 4662 []), (290, np_ild 2 10), (292, nq_icne 299), (295, np_push 1 (.int 1)), (296, np_goto 300), (299, np_push 1 (.int 0)), (300, nw_ist 1 3), (301, nw_iinc 9 1), (304, np_goto 65), (307, np_ild 1 3), (308, nq_if (fun x => x = 0) 337), (311, np_ald 1 0), (312, np_push 1 (.int 5)), (313, np_ild 2 4), (315, np_ald 1 2), (316, np_push 1 (.int 5)), (317, np_push 2 (.int 6)), (319, np_ild 2 5), (321, np_ib (fun x y => x * y)), (322, np_ib (fun x y => x + y)), (323, nw_ialdT .int), (324, np_push 1 (.int 0)), (325, nq_call 5 sp_L_asks 6 1 6 777 4662), (328, np_push 2 (.int (-70007))), (330, nq_icne 337), (333, np_push 1 (.int 1)), (334, np_goto 338), (337, np_push 1 (.int 0)), (338, nw_ist 1 3), (339, nw_iinc 4 1), (342, np_goto 5), (345, np_ild 1 3), (346, np_ret Rt)]
set_option maxRecDepth 20000 in
theorem so_L_areColumns {X : np_Ctx} {Rt : np_Rt} (hX : np_ok RL cL_areColumns 15 9 250 777 4662 .ireturn X) (hR : ∀ st w ce sl, Rt st w ce sl → X.2.2.1 st w ce sl) : ∀ q ∈ is_L_areColumns Rt, np_S X q.1 q.2 :=
  List.forall_mem_cons.mpr ⟨np_s_iconst hX dL_areColumns_0 (by decide), List.forall_mem_cons.mpr ⟨np_S.mono (op := np_ist 1 3) (np_s_istore_n hX dL_areColumns_1 rfl (by decide)) nw_ist_le, List.forall_mem_cons.mpr ⟨np_s_iconst hX dL_areColumns_2 (by decide), List.forall_mem_cons.mpr ⟨np_S.mono (op := np_ist 2 4) (np_s_istore hX dL_areColumns_3 (by decide)) nw_ist_le, List.forall_mem_cons.mpr ⟨np_s_iload hX dL_areColumns_5, List.forall_mem_cons.mpr ⟨np_s_aload_n hX dL_areColumns_7 rfl, List.forall_mem_cons.mpr ⟨np_s_iconst hX dL_areColumns_8 (by decide), List.forall_mem_cons.mpr ⟨np_S.mono (op := np_ialdT .int) (np_s_iald hX dL_areColumns_9) nw_ialdT_le, List.forall_mem_cons.mpr ⟨np_S.mono (op := np_ic (fun x y => y ≤ x) 345) (np_s_icmp_ge hX dL_areColumns_10 (by decide)) nq_ic_le, List.forall_mem_cons.mpr ⟨np_s_iload_n hX dL_areColumns_13 rfl, List.forall_mem_cons.mpr ⟨np_S.mono (op := np_if (fun x => x = 0) 345) (np_s_if_eq hX dL_areColumns_14 (by decide)) nq_if_le, List.forall_mem_cons.mpr ⟨np_s_aload_n hX dL_areColumns_17 rfl, List.forall_mem_cons.mpr ⟨np_s_iload hX dL_areColumns_18, List.forall_mem_cons.mpr ⟨np_S.mono (op := np_ialdT .int) (np_s_iald hX dL_areColumns_20) nw_ialdT_le, List.forall_mem_cons.mpr ⟨np_s_iconst hX dL_areColumns_21 (by decide), List.forall_mem_cons.mpr ⟨np_s_iconst hX dL_areColumns_22 (by decide), List.forall_mem_cons.mpr ⟨np_S.mono (op := np_call 3 sp_L_part 3 0 0 777 4662) (np_s_callS hX C_L_part dL_areColumns_23 gw1499 gw62 gw1497 gw1498 ⟨by decide, by decide, by decide⟩ (by decide) (by decide)) nq_call_le, List.forall_mem_cons.mpr ⟨np_S.mono (op := np_ist 2 5) (np_s_istore hX dL_areColumns_26 (by decide)) nw_ist_le, List.forall_mem_cons.mpr ⟨np_s_aload_n hX dL_areColumns_28 rfl, List.forall_mem_cons.mpr ⟨np_s_iload hX dL_areColumns_29, List.forall_mem_cons.mpr ⟨np_S.mono (op := np_ialdT .int) (np_s_iald hX dL_areColumns_31) nw_ialdT_le, List.forall_mem_cons.mpr ⟨np_s_iconst hX dL_areColumns_32 (by decide), List.forall_mem_cons.mpr ⟨np_s_iconst hX dL_areColumns_33 (by decide), List.forall_mem_cons.mpr ⟨np_S.mono (op := np_call 3 sp_L_part 3 0 0 777 4662) (np_s_callS hX C_L_part dL_areColumns_34 gw1499 gw62 gw1497 gw1498 ⟨by decide, by decide, by decide⟩ (by decide) (by decide)) nq_call_le, List.forall_mem_cons.mpr ⟨np_S.mono (op := np_ist 2 6) (np_s_istore hX dL_areColumns_37 (by decide)) nw_ist_le, List.forall_mem_cons.mpr ⟨np_s_aload_n hX dL_areColumns_39 rfl, List.forall_mem_cons.mpr ⟨np_s_iload hX dL_areColumns_40, List.forall_mem_cons.mpr ⟨np_S.mono (op := np_ialdT .int) (np_s_iald hX dL_areColumns_42) nw_ialdT_le, List.forall_mem_cons.mpr ⟨np_s_iconst hX dL_areColumns_43 (by decide), List.forall_mem_cons.mpr ⟨np_s_iconst hX dL_areColumns_44 (by decide), List.forall_mem_cons.mpr ⟨np_S.mono (op := np_call 3 sp_L_part 3 0 0 777 4662) (np_s_callS hX C_L_part dL_areColumns_45 gw1499 gw62 gw1497 gw1498 ⟨by decide, by decide, by decide⟩ (by decide) (by decide)) nq_call_le, List.forall_mem_cons.mpr ⟨np_S.mono (op := np_ist 2 7) (np_s_istore hX dL_areColumns_48 (by decide)) nw_ist_le, List.forall_mem_cons.mpr ⟨np_s_aload_n hX dL_areColumns_50 rfl, List.forall_mem_cons.mpr ⟨np_s_iload hX dL_areColumns_51, List.forall_mem_cons.mpr ⟨np_S.mono (op := np_ialdT .int) (np_s_iald hX dL_areColumns_53) nw_ialdT_le, List.forall_mem_cons.mpr ⟨np_s_bipush hX dL_areColumns_54 (by decide), List.forall_mem_cons.mpr ⟨np_s_iconst hX dL_areColumns_56 (by decide), List.forall_mem_cons.mpr ⟨np_S.mono (op := np_call 3 sp_L_part 3 0 0 777 4662) (np_s_callS hX C_L_part dL_areColumns_57 gw1499 gw62 gw1497 gw1498 ⟨by decide, by decide, by decide⟩ (by decide) (by decide)) nq_call_le, List.forall_mem_cons.mpr ⟨np_S.mono (op := np_ist 2 8) (np_s_istore hX dL_areColumns_60 (by decide)) nw_ist_le, List.forall_mem_cons.mpr ⟨np_s_iconst hX dL_areColumns_62 (by decide), List.forall_mem_cons.mpr ⟨np_S.mono (op := np_ist 2 9) (np_s_istore hX dL_areColumns_63 (by decide)) nw_ist_le, List.forall_mem_cons.mpr ⟨np_s_iload hX dL_areColumns_65, List.forall_mem_cons.mpr ⟨np_s_aload_n hX dL_areColumns_67 rfl, List.forall_mem_cons.mpr ⟨np_s_iconst hX dL_areColumns_68 (by decide), List.forall_mem_cons.mpr ⟨np_s_bipush hX dL_areColumns_69 (by decide), List.forall_mem_cons.mpr ⟨np_s_iload hX dL_areColumns_71, List.forall_mem_cons.mpr ⟨np_s_imul hX dL_areColumns_73, List.forall_mem_cons.mpr ⟨np_s_iadd hX dL_areColumns_74, List.forall_mem_cons.mpr ⟨np_S.mono (op := np_ialdT .int) (np_s_iald hX dL_areColumns_75) nw_ialdT_le, List.forall_mem_cons.mpr ⟨np_S.mono (op := np_ic (fun x y => y ≤ x) 307) (np_s_icmp_ge hX dL_areColumns_76 (by decide)) nq_ic_le, List.forall_mem_cons.mpr ⟨np_s_iload_n hX dL_areColumns_79 rfl, List.forall_mem_cons.mpr ⟨np_S.mono (op := np_if (fun x => x = 0) 307) (np_s_if_eq hX dL_areColumns_80 (by decide)) nq_if_le, List.forall_mem_cons.mpr ⟨np_s_ldc hX dL_areColumns_83 gw1266, List.forall_mem_cons.mpr ⟨np_S.mono (op := np_ist 2 10) (np_s_istore hX dL_areColumns_85 (by decide)) nw_ist_le, List.forall_mem_cons.mpr ⟨np_s_aload_n hX dL_areColumns_87 rfl, List.forall_mem_cons.mpr ⟨np_s_iload hX dL_areColumns_88, List.forall_mem_cons.mpr ⟨np_s_iload hX dL_areColumns_90, List.forall_mem_cons.mpr ⟨np_s_iload hX dL_areColumns_92, List.forall_mem_cons.mpr ⟨np_S.mono (op := np_call 4 sp_L_cell 4 1 6 777 4662) (np_s_callS hX C_L_cell dL_areColumns_94 gw1502 gw62 gw1500 gw1501 ⟨by decide, by decide, by decide⟩ (by decide) (by decide)) nq_call_le, List.forall_mem_cons.mpr ⟨np_S.mono (op := np_ist 2 11) (np_s_istore hX dL_areColumns_97 (by decide)) nw_ist_le, List.forall_mem_cons.mpr ⟨np_s_aload_n hX dL_areColumns_99 rfl, List.forall_mem_cons.mpr ⟨np_s_iload hX dL_areColumns_100, List.forall_mem_cons.mpr ⟨np_s_iload hX dL_areColumns_102, List.forall_mem_cons.mpr ⟨np_s_iconst hX dL_areColumns_104 (by decide), List.forall_mem_cons.mpr ⟨np_s_isub hX dL_areColumns_105, List.forall_mem_cons.mpr ⟨np_s_iload hX dL_areColumns_106, List.forall_mem_cons.mpr ⟨np_S.mono (op := np_call 4 sp_L_cell 4 1 6 777 4662) (np_s_callS hX C_L_cell dL_areColumns_108 gw1502 gw62 gw1500 gw1501 ⟨by decide, by decide, by decide⟩ (by decide) (by decide)) nq_call_le, List.forall_mem_cons.mpr ⟨np_S.mono (op := np_ist 2 12) (np_s_istore hX dL_areColumns_111 (by decide)) nw_ist_le, List.forall_mem_cons.mpr ⟨np_s_iload hX dL_areColumns_113, List.forall_mem_cons.mpr ⟨np_S.mono (op := np_ifne 136) (np_s_if_ne hX dL_areColumns_115 (by decide)) nq_ifne_le, List.forall_mem_cons.mpr ⟨np_s_aload_n hX dL_areColumns_118 rfl, List.forall_mem_cons.mpr ⟨np_s_iload hX dL_areColumns_119, List.forall_mem_cons.mpr ⟨np_s_iload hX dL_areColumns_121, List.forall_mem_cons.mpr ⟨np_s_iload hX dL_areColumns_123, List.forall_mem_cons.mpr ⟨np_s_isub hX dL_areColumns_125, List.forall_mem_cons.mpr ⟨np_s_iload hX dL_areColumns_126, List.forall_mem_cons.mpr ⟨np_S.mono (op := np_call 4 sp_L_cell 4 1 6 777 4662) (np_s_callS hX C_L_cell dL_areColumns_128 gw1502 gw62 gw1500 gw1501 ⟨by decide, by decide, by decide⟩ (by decide) (by decide)) nq_call_le, List.forall_mem_cons.mpr ⟨np_S.mono (op := np_ist 2 10) (np_s_istore hX dL_areColumns_131 (by decide)) nw_ist_le, List.forall_mem_cons.mpr ⟨np_s_goto hX dL_areColumns_133 (by decide), List.forall_mem_cons.mpr ⟨np_s_iload hX dL_areColumns_136, List.forall_mem_cons.mpr ⟨np_s_iconst hX dL_areColumns_138 (by decide), List.forall_mem_cons.mpr ⟨np_S.mono (op := np_icne 171) (np_s_icmp_ne hX dL_areColumns_139 (by decide)) nq_icne_le, List.forall_mem_cons.mpr ⟨np_s_iload hX dL_areColumns_142, List.forall_mem_cons.mpr ⟨np_s_ldc hX dL_areColumns_144 gw1266, List.forall_mem_cons.mpr ⟨np_S.mono (op := np_ic (fun x y => x = y) 156) (np_s_icmp_eq hX dL_areColumns_146 (by decide)) nq_ic_le, List.forall_mem_cons.mpr ⟨np_s_iload hX dL_areColumns_149, List.forall_mem_cons.mpr ⟨np_s_ldc hX dL_areColumns_151 gw1266, List.forall_mem_cons.mpr ⟨np_S.mono (op := np_icne 161) (np_s_icmp_ne hX dL_areColumns_153 (by decide)) nq_icne_le, List.forall_mem_cons.mpr ⟨np_s_ldc hX dL_areColumns_156 gw1266, List.forall_mem_cons.mpr ⟨np_s_goto hX dL_areColumns_158 (by decide), List.forall_mem_cons.mpr ⟨np_s_iload hX dL_areColumns_161, List.forall_mem_cons.mpr ⟨np_s_iload hX dL_areColumns_163, List.forall_mem_cons.mpr ⟨np_s_isub hX dL_areColumns_165, List.forall_mem_cons.mpr ⟨np_S.mono (op := np_ist 2 10) (np_s_istore hX dL_areColumns_166 (by decide)) nw_ist_le, List.forall_mem_cons.mpr ⟨np_s_goto hX dL_areColumns_168 (by decide), List.forall_mem_cons.mpr ⟨np_s_iconst hX dL_areColumns_171 (by decide), List.forall_mem_cons.mpr ⟨np_S.mono (op := np_ist 2 13) (np_s_istore hX dL_areColumns_172 (by decide)) nw_ist_le, List.forall_mem_cons.mpr ⟨np_s_iload hX dL_areColumns_174, List.forall_mem_cons.mpr ⟨np_s_iload hX dL_areColumns_176, List.forall_mem_cons.mpr ⟨np_S.mono (op := np_ic (fun x y => y ≤ x) 269) (np_s_icmp_ge hX dL_areColumns_178 (by decide)) nq_ic_le, List.forall_mem_cons.mpr ⟨np_s_iload hX dL_areColumns_181, List.forall_mem_cons.mpr ⟨np_s_iload hX dL_areColumns_183, List.forall_mem_cons.mpr ⟨np_s_isub hX dL_areColumns_185, List.forall_mem_cons.mpr ⟨np_S.mono (op := np_if (fun x => 0 ≤ x) 194) (np_s_if_ge hX dL_areColumns_186 (by decide)) nq_if_le, List.forall_mem_cons.mpr ⟨np_s_ldc hX dL_areColumns_189 gw1266, List.forall_mem_cons.mpr ⟨np_s_goto hX dL_areColumns_191 (by decide), List.forall_mem_cons.mpr ⟨np_s_aload_n hX dL_areColumns_194 rfl, List.forall_mem_cons.mpr ⟨np_s_iload hX dL_areColumns_195, List.forall_mem_cons.mpr ⟨np_s_iload hX dL_areColumns_197, List.forall_mem_cons.mpr ⟨np_s_iload hX dL_areColumns_199, List.forall_mem_cons.mpr ⟨np_s_isub hX dL_areColumns_201, List.forall_mem_cons.mpr ⟨np_s_iload hX dL_areColumns_202, List.forall_mem_cons.mpr ⟨np_S.mono (op := np_call 4 sp_L_cell 4 1 6 777 4662) (np_s_callS hX C_L_cell dL_areColumns_204 gw1502 gw62 gw1500 gw1501 ⟨by decide, by decide, by decide⟩ (by decide) (by decide)) nq_call_le, List.forall_mem_cons.mpr ⟨np_S.mono (op := np_ist 2 14) (np_s_istore hX dL_areColumns_207 (by decide)) nw_ist_le, List.forall_mem_cons.mpr ⟨np_s_iload hX dL_areColumns_209, List.forall_mem_cons.mpr ⟨np_s_ldc hX dL_areColumns_211 gw1266, List.forall_mem_cons.mpr ⟨np_S.mono (op := np_icne 221) (np_s_icmp_ne hX dL_areColumns_213 (by decide)) nq_icne_le, List.forall_mem_cons.mpr ⟨np_s_iload hX dL_areColumns_216, List.forall_mem_cons.mpr ⟨np_s_goto hX dL_areColumns_218 (by decide), List.forall_mem_cons.mpr ⟨np_s_iload hX dL_areColumns_221, List.forall_mem_cons.mpr ⟨np_s_ldc hX dL_areColumns_223 gw1266, List.forall_mem_cons.mpr ⟨np_S.mono (op := np_icne 233) (np_s_icmp_ne hX dL_areColumns_225 (by decide)) nq_icne_le, List.forall_mem_cons.mpr ⟨np_s_iload hX dL_areColumns_228, List.forall_mem_cons.mpr ⟨np_s_goto hX dL_areColumns_230 (by decide), List.forall_mem_cons.mpr ⟨np_s_iload hX dL_areColumns_233, List.forall_mem_cons.mpr ⟨np_s_iconst hX dL_areColumns_235 (by decide), List.forall_mem_cons.mpr ⟨np_S.mono (op := np_icne 247) (np_s_icmp_ne hX dL_areColumns_236 (by decide)) nq_icne_le, List.forall_mem_cons.mpr ⟨np_s_iload hX dL_areColumns_239, List.forall_mem_cons.mpr ⟨np_s_iload hX dL_areColumns_241, List.forall_mem_cons.mpr ⟨np_s_iadd hX dL_areColumns_243, List.forall_mem_cons.mpr ⟨np_s_goto hX dL_areColumns_244 (by decide), List.forall_mem_cons.mpr ⟨np_s_iload hX dL_areColumns_247, List.forall_mem_cons.mpr ⟨np_s_iload hX dL_areColumns_249, List.forall_mem_cons.mpr ⟨np_S.mono (op := np_ic (fun x y => x ≤ y) 259) (np_s_icmp_le hX dL_areColumns_251 (by decide)) nq_ic_le, List.forall_mem_cons.mpr ⟨np_s_iload hX dL_areColumns_254, List.forall_mem_cons.mpr ⟨np_s_goto hX dL_areColumns_256 (by decide), List.forall_mem_cons.mpr ⟨np_s_iload hX dL_areColumns_259, List.forall_mem_cons.mpr ⟨np_S.mono (op := np_ist 2 10) (np_s_istore hX dL_areColumns_261 (by decide)) nw_ist_le, List.forall_mem_cons.mpr ⟨np_S.mono (op := np_iinc 13 1) (np_s_iinc hX dL_areColumns_263 (by decide)) nw_iinc_le, List.forall_mem_cons.mpr ⟨np_s_goto hX dL_areColumns_266 (by decide), List.forall_mem_cons.mpr ⟨np_s_aload_n hX dL_areColumns_269 rfl, List.forall_mem_cons.mpr ⟨np_s_iload hX dL_areColumns_270, List.forall_mem_cons.mpr ⟨np_s_iload hX dL_areColumns_272, List.forall_mem_cons.mpr ⟨np_S.mono (op := np_callVX 11 3 sp_X11_derived 4 1 6 777 4662 []) (np_s_callVX hX C_X11_derived dL_areColumns_274 (q := (RX11, TX11, 14)) rfl rfl gw1149 gw63 gw1146 gw1147 gw1148 ⟨by decide, by decide, by decide⟩ (by decide) (by decide) (fun _ h => nomatch h)) (nw_callVX_le2 (ci := 11) (n := 3) (sp := sp_X11_derived) (maxL := 4) (mc := 1) (ms := 6) (RC := 777) (RS := 4662) (hs := [])), List.forall_mem_cons.mpr ⟨np_s_iload hX dL_areColumns_277, List.forall_mem_cons.mpr ⟨np_S.mono (op := np_icne 299) (np_s_icmp_ne hX dL_areColumns_279 (by decide)) nq_icne_le, List.forall_mem_cons.mpr ⟨np_s_aload_n hX dL_areColumns_282 rfl, List.forall_mem_cons.mpr ⟨np_s_iload hX dL_areColumns_283, List.forall_mem_cons.mpr ⟨np_s_iload hX dL_areColumns_285, List.forall_mem_cons.mpr ⟨np_S.mono (op := np_callVX 11 3 sp_X11_derivedByBatch 4 1 6 777 4662 []) (np_s_callVX hX C_X11_derivedByBatch dL_areColumns_287 (q := (RX11, TX11, 14)) rfl rfl gw1506 gw63 gw1503 gw1504 gw1505 ⟨by decide, by decide, by decide⟩ (by decide) (by decide) (fun _ h => nomatch h)) (nw_callVX_le2 (ci := 11) (n := 3) (sp := sp_X11_derivedByBatch) (maxL := 4) (mc := 1) (ms := 6) (RC := 777) (RS := 4662) (hs := [])), List.forall_mem_cons.mpr ⟨np_s_iload hX dL_areColumns_290, List.forall_mem_cons.mpr ⟨np_S.mono (op := np_icne 299) (np_s_icmp_ne hX dL_areColumns_292 (by decide)) nq_icne_le, List.forall_mem_cons.mpr ⟨np_s_iconst hX dL_areColumns_295 (by decide), List.forall_mem_cons.mpr ⟨np_s_goto hX dL_areColumns_296 (by decide), List.forall_mem_cons.mpr ⟨np_s_iconst hX dL_areColumns_299 (by decide), List.forall_mem_cons.mpr ⟨np_S.mono (op := np_ist 1 3) (np_s_istore_n hX dL_areColumns_300 rfl (by decide)) nw_ist_le, List.forall_mem_cons.mpr ⟨np_S.mono (op := np_iinc 9 1) (np_s_iinc hX dL_areColumns_301 (by decide)) nw_iinc_le, List.forall_mem_cons.mpr ⟨np_s_goto hX dL_areColumns_304 (by decide), List.forall_mem_cons.mpr ⟨np_s_iload_n hX dL_areColumns_307 rfl, List.forall_mem_cons.mpr ⟨np_S.mono (op := np_if (fun x => x = 0) 337) (np_s_if_eq hX dL_areColumns_308 (by decide)) nq_if_le, List.forall_mem_cons.mpr ⟨np_s_aload_n hX dL_areColumns_311 rfl, List.forall_mem_cons.mpr ⟨np_s_iconst hX dL_areColumns_312 (by decide), List.forall_mem_cons.mpr ⟨np_s_iload hX dL_areColumns_313, List.forall_mem_cons.mpr ⟨np_s_aload_n hX dL_areColumns_315 rfl, List.forall_mem_cons.mpr ⟨np_s_iconst hX dL_areColumns_316 (by decide), List.forall_mem_cons.mpr ⟨np_s_bipush hX dL_areColumns_317 (by decide), List.forall_mem_cons.mpr ⟨np_s_iload hX dL_areColumns_319, List.forall_mem_cons.mpr ⟨np_s_imul hX dL_areColumns_321, List.forall_mem_cons.mpr ⟨np_s_iadd hX dL_areColumns_322, List.forall_mem_cons.mpr ⟨np_S.mono (op := np_ialdT .int) (np_s_iald hX dL_areColumns_323) nw_ialdT_le, List.forall_mem_cons.mpr ⟨np_s_iconst hX dL_areColumns_324 (by decide), List.forall_mem_cons.mpr ⟨np_S.mono (op := np_call 5 sp_L_asks 6 1 6 777 4662) (np_s_callSW hX C_L_asks dL_areColumns_325 gw931 gw62 gw929 gw930 ⟨by decide, by decide, by decide⟩ (by decide) (by decide)) nq_call_le, List.forall_mem_cons.mpr ⟨np_s_ldc hX dL_areColumns_328 gw1184, List.forall_mem_cons.mpr ⟨np_S.mono (op := np_icne 337) (np_s_icmp_ne hX dL_areColumns_330 (by decide)) nq_icne_le, List.forall_mem_cons.mpr ⟨np_s_iconst hX dL_areColumns_333 (by decide), List.forall_mem_cons.mpr ⟨np_s_goto hX dL_areColumns_334 (by decide), List.forall_mem_cons.mpr ⟨np_s_iconst hX dL_areColumns_337 (by decide), List.forall_mem_cons.mpr ⟨np_S.mono (op := np_ist 1 3) (np_s_istore_n hX dL_areColumns_338 rfl (by decide)) nw_ist_le, List.forall_mem_cons.mpr ⟨np_S.mono (op := np_iinc 4 1) (np_s_iinc hX dL_areColumns_339 (by decide)) nw_iinc_le, List.forall_mem_cons.mpr ⟨np_s_goto hX dL_areColumns_342 (by decide), List.forall_mem_cons.mpr ⟨np_s_iload_n hX dL_areColumns_345 rfl, List.forall_mem_cons.mpr ⟨np_S.mono (op := np_ret X.2.2.1) (np_s_ret hX dL_areColumns_346) (nq_ret_le hR), fun _ h => nomatch h⟩⟩⟩⟩⟩⟩⟩⟩⟩⟩⟩⟩⟩⟩⟩⟩⟩⟩⟩⟩⟩⟩⟩⟩⟩⟩⟩⟩⟩⟩⟩⟩⟩⟩⟩⟩⟩⟩⟩⟩⟩⟩⟩⟩⟩⟩⟩⟩⟩⟩⟩⟩⟩⟩⟩⟩⟩⟩⟩⟩⟩⟩⟩⟩⟩⟩⟩⟩⟩⟩⟩⟩⟩⟩⟩⟩⟩⟩⟩⟩⟩⟩⟩⟩⟩⟩⟩⟩⟩⟩⟩⟩⟩⟩⟩⟩⟩⟩⟩⟩⟩⟩⟩⟩⟩⟩⟩⟩⟩⟩⟩⟩⟩⟩⟩⟩⟩⟩⟩⟩⟩⟩⟩⟩⟩⟩⟩⟩⟩⟩⟩⟩⟩⟩⟩⟩⟩⟩⟩⟩⟩⟩⟩⟩⟩⟩⟩⟩⟩⟩⟩⟩⟩⟩⟩⟩⟩⟩⟩⟩⟩⟩⟩⟩⟩⟩⟩⟩⟩⟩⟩⟩⟩⟩⟩⟩⟩⟩⟩⟩⟩⟩
noncomputable def m_L_areColumns_j207 (k174 : pw_S → Nat → Nat → Nat → Nat → Nat → Int32 → Int32 → Int32 → Int32 → Int32 → Int32 → Int32 → Int32 → pw_R Int32) (k269 : pw_S → Nat → Nat → Nat → Nat → Nat → Int32 → Int32 → Int32 → Int32 → Int32 → Int32 → Int32 → pw_R Int32) (S : pw_S) (v0 : Nat) (va1 : Nat) (vi1 : Nat) (va2 : Nat) (vi2 : Nat) (v4 : Int32) (v5 : Int32) (v6 : Int32) (v7 : Int32) (v8 : Int32) (v9 : Int32) (v10 : Int32) (v13 : Int32) (s0 : Int32) : pw_R Int32 :=
 pw_l (s0 : Int32) fun z1 =>
 if z1 = (-2147483648) then
 (pw_l (v10 : Int32) fun z2 =>
 pw_l (v13 + 1 : Int32) fun z3 =>
 k174 S v0 va1 vi1 va2 vi2 v4 v5 v6 v7 v8 v9 z2 z3)
 else
 (if v10 = (-2147483648) then
 (pw_l (z1 : Int32) fun z4 =>
 pw_l (v13 + 1 : Int32) fun z5 =>
 k174 S v0 va1 vi1 va2 vi2 v4 v5 v6 v7 v8 v9 z4 z5)
 else
 (if v6 = 1 then
 (pw_l ((v10 + z1) : Int32) fun z6 =>
 pw_l (v13 + 1 : Int32) fun z7 =>
 k174 S v0 va1 vi1 va2 vi2 v4 v5 v6 v7 v8 v9 z6 z7)
 else
 (if z1 ≤ v10 then
 (pw_l (v10 : Int32) fun z8 =>
 pw_l (v13 + 1 : Int32) fun z9 =>
 k174 S v0 va1 vi1 va2 vi2 v4 v5 v6 v7 v8 v9 z8 z9)
 else
 (pw_l (z1 : Int32) fun z10 =>
 pw_l (v13 + 1 : Int32) fun z11 =>
 k174 S v0 va1 vi1 va2 vi2 v4 v5 v6 v7 v8 v9 z10 z11))))
set_option maxRecDepth 100000 in
set_option maxHeartbeats 8000000 in
theorem J_L_areColumns_207 {X : np_Ctx} (hX : np_ok RL cL_areColumns 15 9 250 777 4662 .ireturn X) {Q : Option Value → np_W → Prop} {q : Nat} {n dc ds : Nat} (hR : ∀ st w ce sl, np_rt (some .boolean) 777 4662 Q st w ce sl → X.2.2.1 st w ce sl) {k174 : pw_S → Nat → Nat → Nat → Nat → Nat → Int32 → Int32 → Int32 → Int32 → Int32 → Int32 → Int32 → Int32 → pw_R Int32} {k269 : pw_S → Nat → Nat → Nat → Nat → Nat → Int32 → Int32 → Int32 → Int32 → Int32 → Int32 → Int32 → pw_R Int32} (hk174 : ∀ (S : pw_S) (v0 : Nat) (va1 : Nat) (vi1 : Nat) (va2 : Nat) (vi2 : Nat) (v4 : Int32) (v5 : Int32) (v6 : Int32) (v7 : Int32) (v8 : Int32) (v9 : Int32) (v10 : Int32) (v13 : Int32) (f : Nat → Option np_E) (ce sl : Nat) (hv0 : pw_ok q 61 v0 = true) (ha1 : pw_arr va1 = true) (hi1 : pw_ok q va1 vi1 = true) (ha2 : pw_arr va2 = true) (hi2 : pw_ok q va2 vi2 = true), ce + dc ≤ 777 → sl + ds ≤ 4662 → pw_W q (n, f) S → pw_p (k174 S v0 va1 vi1 va2 vi2 v4 v5 v6 v7 v8 v9 v10 v13) (fun S' r => ∀ f', pw_W q (n, f') S' → Q (some (.int r)) (n, f')) → np_G X 174 [(0, .ref (pw_pl 61 v0)), (1, .ref (pw_pl va1 vi1)), (2, .ref (pw_pl va2 vi2)), (4, .int v4), (5, .int v5), (6, .int v6), (7, .int v7), (8, .int v8), (9, .int v9), (10, .int v10), (13, .int v13)] [] (n, f) ce sl) (hk269 : ∀ (S : pw_S) (v0 : Nat) (va1 : Nat) (vi1 : Nat) (va2 : Nat) (vi2 : Nat) (v4 : Int32) (v5 : Int32) (v6 : Int32) (v7 : Int32) (v8 : Int32) (v9 : Int32) (v10 : Int32) (f : Nat → Option np_E) (ce sl : Nat) (hv0 : pw_ok q 61 v0 = true) (ha1 : pw_arr va1 = true) (hi1 : pw_ok q va1 vi1 = true) (ha2 : pw_arr va2 = true) (hi2 : pw_ok q va2 vi2 = true), ce + dc ≤ 777 → sl + ds ≤ 4662 → pw_W q (n, f) S → pw_p (k269 S v0 va1 vi1 va2 vi2 v4 v5 v6 v7 v8 v9 v10) (fun S' r => ∀ f', pw_W q (n, f') S' → Q (some (.int r)) (n, f')) → np_G X 269 [(0, .ref (pw_pl 61 v0)), (1, .ref (pw_pl va1 vi1)), (2, .ref (pw_pl va2 vi2)), (4, .int v4), (5, .int v5), (6, .int v6), (7, .int v7), (8, .int v8), (9, .int v9), (10, .int v10)] [] (n, f) ce sl) (S : pw_S) (v0 : Nat) (va1 : Nat) (vi1 : Nat) (va2 : Nat) (vi2 : Nat) (v4 : Int32) (v5 : Int32) (v6 : Int32) (v7 : Int32) (v8 : Int32) (v9 : Int32) (v10 : Int32) (v13 : Int32) (s0 : Int32) (f : Nat → Option np_E) (ce sl : Nat) (hv0 : pw_ok q 61 v0 = true) (ha1 : pw_arr va1 = true) (hi1 : pw_ok q va1 vi1 = true) (ha2 : pw_arr va2 = true) (hi2 : pw_ok q va2 vi2 = true) (hc : ce + 0 + dc ≤ 777) (hs : sl + 0 + ds ≤ 4662) (hW : pw_W q (n, f) S) (h : pw_p (m_L_areColumns_j207 k174 k269 S v0 va1 vi1 va2 vi2 v4 v5 v6 v7 v8 v9 v10 v13 s0) (fun S' r => ∀ f', pw_W q (n, f') S' → Q (some (.int r)) (n, f'))) : np_G X 207 [(0, .ref (pw_pl 61 v0)), (1, .ref (pw_pl va1 vi1)), (2, .ref (pw_pl va2 vi2)), (4, .int v4), (5, .int v5), (6, .int v6), (7, .int v7), (8, .int v8), (9, .int v9), (10, .int v10), (13, .int v13)] [.int s0] (n, f) ce sl := by
  unfold m_L_areColumns_j207 at h
  refine np_soundW (so_L_areColumns hX hR) [5, 65, 174, 207, 269, 307] 400 207 _ _ _ _ _ ?_
  conv => whnf
  refine pw_st h (fun z1 h => ?_)
  conv => whnf
  refine pw_br h (fun _ h => ?_) (fun _ h => ?_)
  · conv => whnf
    refine pw_st h (fun z2 h => ?_)
    conv => whnf
    refine pw_st h (fun z3 h => ?_)
    conv => whnf
    exact np_gl (hk174 S v0 va1 vi1 va2 vi2 v4 v5 v6 v7 v8 v9 z2 z3 f _ _ hv0 ha1 hi1 ha2 hi2 (by omega) (by omega) hW h) ⟨rfl, rfl, rfl, rfl, rfl, rfl, rfl, rfl, rfl, rfl, rfl, trivial⟩
  · conv => whnf
    refine pw_br h (fun _ h => ?_) (fun _ h => ?_)
    · conv => whnf
      refine pw_st h (fun z4 h => ?_)
      conv => whnf
      refine pw_st h (fun z5 h => ?_)
      conv => whnf
      exact np_gl (hk174 S v0 va1 vi1 va2 vi2 v4 v5 v6 v7 v8 v9 z4 z5 f _ _ hv0 ha1 hi1 ha2 hi2 (by omega) (by omega) hW h) ⟨rfl, rfl, rfl, rfl, rfl, rfl, rfl, rfl, rfl, rfl, rfl, trivial⟩
    · conv => whnf
      refine pw_br h (fun _ h => ?_) (fun _ h => ?_)
      · conv => whnf
        refine pw_st h (fun z6 h => ?_)
        conv => whnf
        refine pw_st h (fun z7 h => ?_)
        conv => whnf
        exact np_gl (hk174 S v0 va1 vi1 va2 vi2 v4 v5 v6 v7 v8 v9 z6 z7 f _ _ hv0 ha1 hi1 ha2 hi2 (by omega) (by omega) hW h) ⟨rfl, rfl, rfl, rfl, rfl, rfl, rfl, rfl, rfl, rfl, rfl, trivial⟩
      · conv => whnf
        refine pw_br h (fun _ h => ?_) (fun _ h => ?_)
        · conv => whnf
          refine pw_st h (fun z8 h => ?_)
          conv => whnf
          refine pw_st h (fun z9 h => ?_)
          conv => whnf
          exact np_gl (hk174 S v0 va1 vi1 va2 vi2 v4 v5 v6 v7 v8 v9 z8 z9 f _ _ hv0 ha1 hi1 ha2 hi2 (by omega) (by omega) hW h) ⟨rfl, rfl, rfl, rfl, rfl, rfl, rfl, rfl, rfl, rfl, rfl, trivial⟩
        · conv => whnf
          refine pw_st h (fun z10 h => ?_)
          conv => whnf
          refine pw_st h (fun z11 h => ?_)
          conv => whnf
          exact np_gl (hk174 S v0 va1 vi1 va2 vi2 v4 v5 v6 v7 v8 v9 z10 z11 f _ _ hv0 ha1 hi1 ha2 hi2 (by omega) (by omega) hW h) ⟨rfl, rfl, rfl, rfl, rfl, rfl, rfl, rfl, rfl, rfl, rfl, trivial⟩
noncomputable def m_L_areColumns_174 (k269 : pw_S → Nat → Nat → Nat → Nat → Nat → Int32 → Int32 → Int32 → Int32 → Int32 → Int32 → Int32 → pw_R Int32) : Nat → pw_S → Nat → Nat → Nat → Nat → Nat → Int32 → Int32 → Int32 → Int32 → Int32 → Int32 → Int32 → Int32 → pw_R Int32
| 0, _, _, _, _, _, _, _, _, _, _, _, _, _, _ => none
| N + 1, S, v0, va1, vi1, va2, vi2, v4, v5, v6, v7, v8, v9, v10, v13 =>
 if v8 ≤ v13 then
 (k269 S v0 va1 vi1 va2 vi2 v4 v5 v6 v7 v8 v9 v10)
 else
 (if 0 ≤ (v9 - v13) then
 (pw_b (m_L_cell S v0 v5 (v9 - v13) v7) fun S12 r15 =>
 m_L_areColumns_j207 (fun S35 u17 u19 u20 u23 u24 u27 u28 u29 u30 u31 u32 u33 u34 => m_L_areColumns_174 k269 N S35 u17 u19 u20 u23 u24 u27 u28 u29 u30 u31 u32 u33 u34) (fun S59 u42 u44 u45 u48 u49 u52 u53 u54 u55 u56 u57 u58 => k269 S59 u42 u44 u45 u48 u49 u52 u53 u54 u55 u56 u57 u58) S12 v0 va1 vi1 va2 vi2 v4 v5 v6 v7 v8 v9 v10 v13 r15)
 else
 (m_L_areColumns_j207 (fun S84 u66 u68 u69 u72 u73 u76 u77 u78 u79 u80 u81 u82 u83 => m_L_areColumns_174 k269 N S84 u66 u68 u69 u72 u73 u76 u77 u78 u79 u80 u81 u82 u83) (fun S108 u91 u93 u94 u97 u98 u101 u102 u103 u104 u105 u106 u107 => k269 S108 u91 u93 u94 u97 u98 u101 u102 u103 u104 u105 u106 u107) S v0 va1 vi1 va2 vi2 v4 v5 v6 v7 v8 v9 v10 v13 (-2147483648)))
set_option maxRecDepth 100000 in
set_option maxHeartbeats 8000000 in
theorem L_L_areColumns_174 {X : np_Ctx} (hX : np_ok RL cL_areColumns 15 9 250 777 4662 .ireturn X) {Q : Option Value → np_W → Prop} {q : Nat} {n dc ds : Nat} (hR : ∀ st w ce sl, np_rt (some .boolean) 777 4662 Q st w ce sl → X.2.2.1 st w ce sl) {k269 : pw_S → Nat → Nat → Nat → Nat → Nat → Int32 → Int32 → Int32 → Int32 → Int32 → Int32 → Int32 → pw_R Int32} (hk269 : ∀ (S : pw_S) (v0 : Nat) (va1 : Nat) (vi1 : Nat) (va2 : Nat) (vi2 : Nat) (v4 : Int32) (v5 : Int32) (v6 : Int32) (v7 : Int32) (v8 : Int32) (v9 : Int32) (v10 : Int32) (f : Nat → Option np_E) (ce sl : Nat) (hv0 : pw_ok q 61 v0 = true) (ha1 : pw_arr va1 = true) (hi1 : pw_ok q va1 vi1 = true) (ha2 : pw_arr va2 = true) (hi2 : pw_ok q va2 vi2 = true), ce + dc ≤ 777 → sl + ds ≤ 4662 → pw_W q (n, f) S → pw_p (k269 S v0 va1 vi1 va2 vi2 v4 v5 v6 v7 v8 v9 v10) (fun S' r => ∀ f', pw_W q (n, f') S' → Q (some (.int r)) (n, f')) → np_G X 269 [(0, .ref (pw_pl 61 v0)), (1, .ref (pw_pl va1 vi1)), (2, .ref (pw_pl va2 vi2)), (4, .int v4), (5, .int v5), (6, .int v6), (7, .int v7), (8, .int v8), (9, .int v9), (10, .int v10)] [] (n, f) ce sl) : ∀ (N : Nat) (S : pw_S) (v0 : Nat) (va1 : Nat) (vi1 : Nat) (va2 : Nat) (vi2 : Nat) (v4 : Int32) (v5 : Int32) (v6 : Int32) (v7 : Int32) (v8 : Int32) (v9 : Int32) (v10 : Int32) (v13 : Int32) (f : Nat → Option np_E) (ce sl : Nat) (hv0 : pw_ok q 61 v0 = true) (ha1 : pw_arr va1 = true) (hi1 : pw_ok q va1 vi1 = true) (ha2 : pw_arr va2 = true) (hi2 : pw_ok q va2 vi2 = true), ce + N * 1 + dc ≤ 777 → sl + N * 6 + ds ≤ 4662 → pw_W q (n, f) S → pw_p (m_L_areColumns_174 k269 N S v0 va1 vi1 va2 vi2 v4 v5 v6 v7 v8 v9 v10 v13) (fun S' r => ∀ f', pw_W q (n, f') S' → Q (some (.int r)) (n, f')) → np_G X 174 [(0, .ref (pw_pl 61 v0)), (1, .ref (pw_pl va1 vi1)), (2, .ref (pw_pl va2 vi2)), (4, .int v4), (5, .int v5), (6, .int v6), (7, .int v7), (8, .int v8), (9, .int v9), (10, .int v10), (13, .int v13)] [] (n, f) ce sl := by
  intro N
  induction N with
  | zero =>
    intro S v0 va1 vi1 va2 vi2 v4 v5 v6 v7 v8 v9 v10 v13 f ce sl hv0 ha1 hi1 ha2 hi2 hc hs hW h
    exact (pw_pn h).elim
  | succ N ih =>
    intro S v0 va1 vi1 va2 vi2 v4 v5 v6 v7 v8 v9 v10 v13 f ce sl hv0 ha1 hi1 ha2 hi2 hc hs hW h
    unfold m_L_areColumns_174 at h
    refine np_soundW (so_L_areColumns hX hR) [5, 65, 174, 207, 269, 307] 400 174 _ _ _ _ _ ?_
    conv => whnf
    refine pw_br h (fun _ h => ?_) (fun _ h => ?_)
    · conv => whnf
      exact np_gl (hk269 S v0 va1 vi1 va2 vi2 v4 v5 v6 v7 v8 v9 v10 f _ _ hv0 ha1 hi1 ha2 hi2 (by omega) (by omega) hW h) ⟨rfl, rfl, rfl, rfl, rfl, rfl, rfl, rfl, rfl, rfl, trivial⟩
    · conv => whnf
      refine pw_br h (fun _ h => ?_) (fun _ h => ?_)
      · conv => whnf
        refine np_chk_i (pw_and rfl (pw_and rfl (pw_and rfl ((pw_and (pw_le (by omega)) (pw_le (by omega))))))) ?_
        conv => whnf
        refine ⟨q, S, v0, v5, (v9 - v13), v7, rfl, hv0, hW, pw_bd h (fun S12 r15 h f13 hW14 => ?_)⟩
        conv => whnf
        refine np_gl (J_L_areColumns_207 (dc := N * 1 + dc) (ds := N * 6 + ds) hX hR (fun S35 u17 u19 u20 u23 u24 u27 u28 u29 u30 u31 u32 u33 u34 f36 ce38 sl39 ho18 ho21 ho22 ho25 ho26 hc40 hs41 hW37 h => np_gl (ih S35 u17 u19 u20 u23 u24 u27 u28 u29 u30 u31 u32 u33 u34 f36 _ _ ho18 ho21 ho22 ho25 ho26 (by omega) (by omega) hW37 h) ⟨rfl, rfl, rfl, rfl, rfl, rfl, rfl, rfl, rfl, rfl, rfl, trivial⟩) (fun S59 u42 u44 u45 u48 u49 u52 u53 u54 u55 u56 u57 u58 f60 ce62 sl63 ho43 ho46 ho47 ho50 ho51 hc64 hs65 hW61 h => np_gl (hk269 S59 u42 u44 u45 u48 u49 u52 u53 u54 u55 u56 u57 u58 f60 _ _ ho43 ho46 ho47 ho50 ho51 (by omega) (by omega) hW61 h) ⟨rfl, rfl, rfl, rfl, rfl, rfl, rfl, rfl, rfl, rfl, trivial⟩) S12 v0 va1 vi1 va2 vi2 v4 v5 v6 v7 v8 v9 v10 v13 r15 f13 _ _ hv0 ha1 hi1 ha2 hi2 (by omega) (by omega) hW14 h) ?_
        exact ⟨rfl, rfl, rfl, rfl, rfl, rfl, rfl, rfl, rfl, rfl, rfl, trivial⟩
      · conv => whnf
        refine np_gl (J_L_areColumns_207 (dc := N * 1 + dc) (ds := N * 6 + ds) hX hR (fun S84 u66 u68 u69 u72 u73 u76 u77 u78 u79 u80 u81 u82 u83 f85 ce87 sl88 ho67 ho70 ho71 ho74 ho75 hc89 hs90 hW86 h => np_gl (ih S84 u66 u68 u69 u72 u73 u76 u77 u78 u79 u80 u81 u82 u83 f85 _ _ ho67 ho70 ho71 ho74 ho75 (by omega) (by omega) hW86 h) ⟨rfl, rfl, rfl, rfl, rfl, rfl, rfl, rfl, rfl, rfl, rfl, trivial⟩) (fun S108 u91 u93 u94 u97 u98 u101 u102 u103 u104 u105 u106 u107 f109 ce111 sl112 ho92 ho95 ho96 ho99 ho100 hc113 hs114 hW110 h => np_gl (hk269 S108 u91 u93 u94 u97 u98 u101 u102 u103 u104 u105 u106 u107 f109 _ _ ho92 ho95 ho96 ho99 ho100 (by omega) (by omega) hW110 h) ⟨rfl, rfl, rfl, rfl, rfl, rfl, rfl, rfl, rfl, rfl, trivial⟩) S v0 va1 vi1 va2 vi2 v4 v5 v6 v7 v8 v9 v10 v13 (-2147483648) f _ _ hv0 ha1 hi1 ha2 hi2 (by omega) (by omega) hW h) ?_
        exact ⟨rfl, rfl, rfl, rfl, rfl, rfl, rfl, rfl, rfl, rfl, rfl, trivial⟩
noncomputable def m_L_areColumns_j269 (k65 : pw_S → Nat → Nat → Nat → Nat → Nat → Int32 → Int32 → Int32 → Int32 → Int32 → Int32 → Int32 → pw_R Int32) (k307 : pw_S → Nat → Nat → Nat → Nat → Nat → Int32 → Int32 → Int32 → pw_R Int32) (S : pw_S) (v0 : Nat) (va1 : Nat) (vi1 : Nat) (va2 : Nat) (vi2 : Nat) (v4 : Int32) (v5 : Int32) (v6 : Int32) (v7 : Int32) (v8 : Int32) (v9 : Int32) (v10 : Int32) : pw_R Int32 :=
 pw_b (m_X11_derived S v0 v4 v9) fun S115 r118 =>
 pw_e r118 (fun r120 =>
 (if r120 = v10 then
 (pw_b (m_X11_derivedByBatch S115 v0 v4 v9) fun S122 r125 =>
 pw_e r125 (fun r127 =>
 (if r127 = v10 then
 (pw_l (1 : Int32) fun z129 =>
 pw_l (v9 + 1 : Int32) fun z130 =>
 k65 S122 v0 va1 vi1 va2 vi2 z129 v4 v5 v6 v7 v8 z130)
 else
 (pw_l (0 : Int32) fun z131 =>
 pw_l (v9 + 1 : Int32) fun z132 =>
 k65 S122 v0 va1 vi1 va2 vi2 z131 v4 v5 v6 v7 v8 z132))) (fun _ => none))
 else
 (pw_l (0 : Int32) fun z133 =>
 pw_l (v9 + 1 : Int32) fun z134 =>
 k65 S115 v0 va1 vi1 va2 vi2 z133 v4 v5 v6 v7 v8 z134))) (fun _ => none)
set_option maxRecDepth 100000 in
set_option maxHeartbeats 8000000 in
theorem J_L_areColumns_269 {X : np_Ctx} (hX : np_ok RL cL_areColumns 15 9 250 777 4662 .ireturn X) {Q : Option Value → np_W → Prop} {q : Nat} {n dc ds : Nat} (hR : ∀ st w ce sl, np_rt (some .boolean) 777 4662 Q st w ce sl → X.2.2.1 st w ce sl) {k65 : pw_S → Nat → Nat → Nat → Nat → Nat → Int32 → Int32 → Int32 → Int32 → Int32 → Int32 → Int32 → pw_R Int32} {k307 : pw_S → Nat → Nat → Nat → Nat → Nat → Int32 → Int32 → Int32 → pw_R Int32} (hk65 : ∀ (S : pw_S) (v0 : Nat) (va1 : Nat) (vi1 : Nat) (va2 : Nat) (vi2 : Nat) (v3 : Int32) (v4 : Int32) (v5 : Int32) (v6 : Int32) (v7 : Int32) (v8 : Int32) (v9 : Int32) (f : Nat → Option np_E) (ce sl : Nat) (hv0 : pw_ok q 61 v0 = true) (ha1 : pw_arr va1 = true) (hi1 : pw_ok q va1 vi1 = true) (ha2 : pw_arr va2 = true) (hi2 : pw_ok q va2 vi2 = true), ce + dc ≤ 777 → sl + ds ≤ 4662 → pw_W q (n, f) S → pw_p (k65 S v0 va1 vi1 va2 vi2 v3 v4 v5 v6 v7 v8 v9) (fun S' r => ∀ f', pw_W q (n, f') S' → Q (some (.int r)) (n, f')) → np_G X 65 [(0, .ref (pw_pl 61 v0)), (1, .ref (pw_pl va1 vi1)), (2, .ref (pw_pl va2 vi2)), (3, .int v3), (4, .int v4), (5, .int v5), (6, .int v6), (7, .int v7), (8, .int v8), (9, .int v9)] [] (n, f) ce sl) (hk307 : ∀ (S : pw_S) (v0 : Nat) (va1 : Nat) (vi1 : Nat) (va2 : Nat) (vi2 : Nat) (v3 : Int32) (v4 : Int32) (v5 : Int32) (f : Nat → Option np_E) (ce sl : Nat) (hv0 : pw_ok q 61 v0 = true) (ha1 : pw_arr va1 = true) (hi1 : pw_ok q va1 vi1 = true) (ha2 : pw_arr va2 = true) (hi2 : pw_ok q va2 vi2 = true), ce + dc ≤ 777 → sl + ds ≤ 4662 → pw_W q (n, f) S → pw_p (k307 S v0 va1 vi1 va2 vi2 v3 v4 v5) (fun S' r => ∀ f', pw_W q (n, f') S' → Q (some (.int r)) (n, f')) → np_G X 307 [(0, .ref (pw_pl 61 v0)), (1, .ref (pw_pl va1 vi1)), (2, .ref (pw_pl va2 vi2)), (3, .int v3), (4, .int v4), (5, .int v5)] [] (n, f) ce sl) (S : pw_S) (v0 : Nat) (va1 : Nat) (vi1 : Nat) (va2 : Nat) (vi2 : Nat) (v4 : Int32) (v5 : Int32) (v6 : Int32) (v7 : Int32) (v8 : Int32) (v9 : Int32) (v10 : Int32) (f : Nat → Option np_E) (ce sl : Nat) (hv0 : pw_ok q 61 v0 = true) (ha1 : pw_arr va1 = true) (hi1 : pw_ok q va1 vi1 = true) (ha2 : pw_arr va2 = true) (hi2 : pw_ok q va2 vi2 = true) (hc : ce + 2 + dc ≤ 777) (hs : sl + 12 + ds ≤ 4662) (hW : pw_W q (n, f) S) (h : pw_p (m_L_areColumns_j269 k65 k307 S v0 va1 vi1 va2 vi2 v4 v5 v6 v7 v8 v9 v10) (fun S' r => ∀ f', pw_W q (n, f') S' → Q (some (.int r)) (n, f'))) : np_G X 269 [(0, .ref (pw_pl 61 v0)), (1, .ref (pw_pl va1 vi1)), (2, .ref (pw_pl va2 vi2)), (4, .int v4), (5, .int v5), (6, .int v6), (7, .int v7), (8, .int v8), (9, .int v9), (10, .int v10)] [] (n, f) ce sl := by
  unfold m_L_areColumns_j269 at h
  refine np_soundW (so_L_areColumns hX hR) [5, 65, 174, 207, 269, 307] 400 269 _ _ _ _ _ ?_
  conv => whnf
  refine np_rd_i (hW.g hv0) ?_
  conv => whnf
  refine np_chk_i (pw_and rfl (pw_and rfl (pw_and rfl (pw_and rfl ((pw_and (pw_le (by omega)) (pw_le (by omega)))))))) ?_
  conv => whnf
  refine ⟨q, S, v0, v4, v9, rfl, hv0, hW, pw_bd h (fun S115 r118 h f116 hW117 => ?_)⟩
  rcases r118 with r120 | e121
  · replace h := pw_ei h
    conv => whnf
    refine pw_br h (fun _ h => ?_) (fun _ h => ?_)
    · conv => whnf
      refine np_rd_i (hW117.g hv0) ?_
      conv => whnf
      refine np_chk_i (pw_and rfl (pw_and rfl (pw_and rfl (pw_and rfl ((pw_and (pw_le (by omega)) (pw_le (by omega)))))))) ?_
      conv => whnf
      refine ⟨q, S115, v0, v4, v9, rfl, hv0, hW117, pw_bd h (fun S122 r125 h f123 hW124 => ?_)⟩
      rcases r125 with r127 | e128
      · replace h := pw_ei h
        conv => whnf
        refine pw_br h (fun _ h => ?_) (fun _ h => ?_)
        · conv => whnf
          refine pw_st h (fun z129 h => ?_)
          conv => whnf
          refine pw_st h (fun z130 h => ?_)
          conv => whnf
          exact np_gl (hk65 S122 v0 va1 vi1 va2 vi2 z129 v4 v5 v6 v7 v8 z130 f123 _ _ hv0 ha1 hi1 ha2 hi2 (by omega) (by omega) hW124 h) ⟨rfl, rfl, rfl, rfl, rfl, rfl, rfl, rfl, rfl, rfl, trivial⟩
        · conv => whnf
          refine pw_st h (fun z131 h => ?_)
          conv => whnf
          refine pw_st h (fun z132 h => ?_)
          conv => whnf
          exact np_gl (hk65 S122 v0 va1 vi1 va2 vi2 z131 v4 v5 v6 v7 v8 z132 f123 _ _ hv0 ha1 hi1 ha2 hi2 (by omega) (by omega) hW124 h) ⟨rfl, rfl, rfl, rfl, rfl, rfl, rfl, rfl, rfl, rfl, trivial⟩
      · exact (pw_pn h).elim
    · conv => whnf
      refine pw_st h (fun z133 h => ?_)
      conv => whnf
      refine pw_st h (fun z134 h => ?_)
      conv => whnf
      exact np_gl (hk65 S115 v0 va1 vi1 va2 vi2 z133 v4 v5 v6 v7 v8 z134 f116 _ _ hv0 ha1 hi1 ha2 hi2 (by omega) (by omega) hW117 h) ⟨rfl, rfl, rfl, rfl, rfl, rfl, rfl, rfl, rfl, rfl, trivial⟩
  · exact (pw_pn h).elim
noncomputable def m_L_areColumns_65 (k307 : pw_S → Nat → Nat → Nat → Nat → Nat → Int32 → Int32 → Int32 → pw_R Int32) : Nat → pw_S → Nat → Nat → Nat → Nat → Nat → Int32 → Int32 → Int32 → Int32 → Int32 → Int32 → Int32 → pw_R Int32
| 0, _, _, _, _, _, _, _, _, _, _, _, _, _ => none
| N + 1, S, v0, va1, vi1, va2, vi2, v3, v4, v5, v6, v7, v8, v9 =>
 pw_c (np_inb (5 + (6 * v5)) (pw_len va2)) <|
 if (S va2 vi2 ((5 + (6 * v5)) : Int32).toNatClampNeg) ≤ v9 then
 (k307 S v0 va1 vi1 va2 vi2 v3 v4 v5)
 else
 (if v3 = 0 then
 (k307 S v0 va1 vi1 va2 vi2 v3 v4 v5)
 else
 (pw_l ((-2147483648) : Int32) fun z135 =>
 pw_b (m_L_cell S v0 v5 v9 v7) fun S136 r139 =>
 pw_l (r139 : Int32) fun z141 =>
 pw_b (m_L_cell S136 v0 v5 (v9 - 1) v7) fun S142 r145 =>
 pw_l (r145 : Int32) fun z147 =>
 if v6 = 0 then
 (pw_b (m_L_cell S142 v0 v5 (v9 - v8) v7) fun S148 r151 =>
 pw_l (r151 : Int32) fun z153 =>
 m_L_areColumns_j269 (fun S171 u154 u156 u157 u160 u161 u164 u165 u166 u167 u168 u169 u170 => m_L_areColumns_65 k307 N S171 u154 u156 u157 u160 u161 u164 u165 u166 u167 u168 u169 u170) (fun S191 u178 u180 u181 u184 u185 u188 u189 u190 => k307 S191 u178 u180 u181 u184 u185 u188 u189 u190) S148 v0 va1 vi1 va2 vi2 v4 v5 v6 v7 v8 v9 z153)
 else
 (if v6 = 3 then
 (if z141 = (-2147483648) then
 (pw_l ((-2147483648) : Int32) fun z198 =>
 m_L_areColumns_j269 (fun S216 u199 u201 u202 u205 u206 u209 u210 u211 u212 u213 u214 u215 => m_L_areColumns_65 k307 N S216 u199 u201 u202 u205 u206 u209 u210 u211 u212 u213 u214 u215) (fun S236 u223 u225 u226 u229 u230 u233 u234 u235 => k307 S236 u223 u225 u226 u229 u230 u233 u234 u235) S142 v0 va1 vi1 va2 vi2 v4 v5 v6 v7 v8 v9 z198)
 else
 (if z147 = (-2147483648) then
 (pw_l ((-2147483648) : Int32) fun z243 =>
 m_L_areColumns_j269 (fun S261 u244 u246 u247 u250 u251 u254 u255 u256 u257 u258 u259 u260 => m_L_areColumns_65 k307 N S261 u244 u246 u247 u250 u251 u254 u255 u256 u257 u258 u259 u260) (fun S281 u268 u270 u271 u274 u275 u278 u279 u280 => k307 S281 u268 u270 u271 u274 u275 u278 u279 u280) S142 v0 va1 vi1 va2 vi2 v4 v5 v6 v7 v8 v9 z243)
 else
 (pw_l ((z141 - z147) : Int32) fun z288 =>
 m_L_areColumns_j269 (fun S306 u289 u291 u292 u295 u296 u299 u300 u301 u302 u303 u304 u305 => m_L_areColumns_65 k307 N S306 u289 u291 u292 u295 u296 u299 u300 u301 u302 u303 u304 u305) (fun S326 u313 u315 u316 u319 u320 u323 u324 u325 => k307 S326 u313 u315 u316 u319 u320 u323 u324 u325) S142 v0 va1 vi1 va2 vi2 v4 v5 v6 v7 v8 v9 z288)))
 else
 (pw_l (0 : Int32) fun z333 =>
 m_L_areColumns_174
 (fun S351 u334 u336 u337 u340 u341 u344 u345 u346 u347 u348 u349 u350 =>
 (m_L_areColumns_j269 (fun S371 u354 u356 u357 u360 u361 u364 u365 u366 u367 u368 u369 u370 => m_L_areColumns_65 k307 N S371 u354 u356 u357 u360 u361 u364 u365 u366 u367 u368 u369 u370) (fun S391 u378 u380 u381 u384 u385 u388 u389 u390 => k307 S391 u378 u380 u381 u384 u385 u388 u389 u390) S351 u334 u336 u337 u340 u341 u344 u345 u346 u347 u348 u349 u350)) (pw_F 6) S142 v0 va1 vi1 va2 vi2 v4 v5 v6 v7 v8 v9 z135 z333))))
set_option maxRecDepth 100000 in
set_option maxHeartbeats 8000000 in
theorem L_L_areColumns_65 {X : np_Ctx} (hX : np_ok RL cL_areColumns 15 9 250 777 4662 .ireturn X) {Q : Option Value → np_W → Prop} {q : Nat} {n dc ds : Nat} (hR : ∀ st w ce sl, np_rt (some .boolean) 777 4662 Q st w ce sl → X.2.2.1 st w ce sl) {k307 : pw_S → Nat → Nat → Nat → Nat → Nat → Int32 → Int32 → Int32 → pw_R Int32} (hk307 : ∀ (S : pw_S) (v0 : Nat) (va1 : Nat) (vi1 : Nat) (va2 : Nat) (vi2 : Nat) (v3 : Int32) (v4 : Int32) (v5 : Int32) (f : Nat → Option np_E) (ce sl : Nat) (hv0 : pw_ok q 61 v0 = true) (ha1 : pw_arr va1 = true) (hi1 : pw_ok q va1 vi1 = true) (ha2 : pw_arr va2 = true) (hi2 : pw_ok q va2 vi2 = true), ce + dc ≤ 777 → sl + ds ≤ 4662 → pw_W q (n, f) S → pw_p (k307 S v0 va1 vi1 va2 vi2 v3 v4 v5) (fun S' r => ∀ f', pw_W q (n, f') S' → Q (some (.int r)) (n, f')) → np_G X 307 [(0, .ref (pw_pl 61 v0)), (1, .ref (pw_pl va1 vi1)), (2, .ref (pw_pl va2 vi2)), (3, .int v3), (4, .int v4), (5, .int v5)] [] (n, f) ce sl) : ∀ (N : Nat) (S : pw_S) (v0 : Nat) (va1 : Nat) (vi1 : Nat) (va2 : Nat) (vi2 : Nat) (v3 : Int32) (v4 : Int32) (v5 : Int32) (v6 : Int32) (v7 : Int32) (v8 : Int32) (v9 : Int32) (f : Nat → Option np_E) (ce sl : Nat) (hv0 : pw_ok q 61 v0 = true) (ha1 : pw_arr va1 = true) (hi1 : pw_ok q va1 vi1 = true) (ha2 : pw_arr va2 = true) (hi2 : pw_ok q va2 vi2 = true), ce + N * 10 + dc ≤ 777 → sl + N * 60 + ds ≤ 4662 → pw_W q (n, f) S → pw_p (m_L_areColumns_65 k307 N S v0 va1 vi1 va2 vi2 v3 v4 v5 v6 v7 v8 v9) (fun S' r => ∀ f', pw_W q (n, f') S' → Q (some (.int r)) (n, f')) → np_G X 65 [(0, .ref (pw_pl 61 v0)), (1, .ref (pw_pl va1 vi1)), (2, .ref (pw_pl va2 vi2)), (3, .int v3), (4, .int v4), (5, .int v5), (6, .int v6), (7, .int v7), (8, .int v8), (9, .int v9)] [] (n, f) ce sl := by
  intro N
  induction N with
  | zero =>
    intro S v0 va1 vi1 va2 vi2 v3 v4 v5 v6 v7 v8 v9 f ce sl hv0 ha1 hi1 ha2 hi2 hc hs hW h
    exact (pw_pn h).elim
  | succ N ih =>
    intro S v0 va1 vi1 va2 vi2 v3 v4 v5 v6 v7 v8 v9 f ce sl hv0 ha1 hi1 ha2 hi2 hc hs hW h
    unfold m_L_areColumns_65 at h
    refine np_soundW (so_L_areColumns hX hR) [5, 65, 174, 207, 269, 307] 400 65 _ _ _ _ _ ?_
    conv => whnf
    refine np_rd_i (hW.ga ha2 hi2) ?_
    conv => whnf
    refine pw_ck h (fun _ h => ?_)
    conv => whnf
    refine pw_br h (fun _ h => ?_) (fun _ h => ?_)
    · conv => whnf
      exact np_gl (hk307 S v0 va1 vi1 va2 vi2 v3 v4 v5 f _ _ hv0 ha1 hi1 ha2 hi2 (by omega) (by omega) hW h) ⟨rfl, rfl, rfl, rfl, rfl, rfl, trivial⟩
    · conv => whnf
      refine pw_br h (fun _ h => ?_) (fun _ h => ?_)
      · conv => whnf
        exact np_gl (hk307 S v0 va1 vi1 va2 vi2 v3 v4 v5 f _ _ hv0 ha1 hi1 ha2 hi2 (by omega) (by omega) hW h) ⟨rfl, rfl, rfl, rfl, rfl, rfl, trivial⟩
      · conv => whnf
        refine pw_st h (fun z135 h => ?_)
        conv => whnf
        refine np_chk_i (pw_and rfl (pw_and rfl (pw_and rfl ((pw_and (pw_le (by omega)) (pw_le (by omega))))))) ?_
        conv => whnf
        refine ⟨q, S, v0, v5, v9, v7, rfl, hv0, hW, pw_bd h (fun S136 r139 h f137 hW138 => ?_)⟩
        conv => whnf
        refine pw_st h (fun z141 h => ?_)
        conv => whnf
        refine np_chk_i (pw_and rfl (pw_and rfl (pw_and rfl ((pw_and (pw_le (by omega)) (pw_le (by omega))))))) ?_
        conv => whnf
        refine ⟨q, S136, v0, v5, (v9 - 1), v7, rfl, hv0, hW138, pw_bd h (fun S142 r145 h f143 hW144 => ?_)⟩
        conv => whnf
        refine pw_st h (fun z147 h => ?_)
        conv => whnf
        refine pw_br h (fun _ h => ?_) (fun _ h => ?_)
        · conv => whnf
          refine np_chk_i (pw_and rfl (pw_and rfl (pw_and rfl ((pw_and (pw_le (by omega)) (pw_le (by omega))))))) ?_
          conv => whnf
          refine ⟨q, S142, v0, v5, (v9 - v8), v7, rfl, hv0, hW144, pw_bd h (fun S148 r151 h f149 hW150 => ?_)⟩
          conv => whnf
          refine pw_st h (fun z153 h => ?_)
          conv => whnf
          refine np_gl (J_L_areColumns_269 (dc := N * 10 + dc) (ds := N * 60 + ds) hX hR (fun S171 u154 u156 u157 u160 u161 u164 u165 u166 u167 u168 u169 u170 f172 ce174 sl175 ho155 ho158 ho159 ho162 ho163 hc176 hs177 hW173 h => np_gl (ih S171 u154 u156 u157 u160 u161 u164 u165 u166 u167 u168 u169 u170 f172 _ _ ho155 ho158 ho159 ho162 ho163 (by omega) (by omega) hW173 h) ⟨rfl, rfl, rfl, rfl, rfl, rfl, rfl, rfl, rfl, rfl, trivial⟩) (fun S191 u178 u180 u181 u184 u185 u188 u189 u190 f192 ce194 sl195 ho179 ho182 ho183 ho186 ho187 hc196 hs197 hW193 h => np_gl (hk307 S191 u178 u180 u181 u184 u185 u188 u189 u190 f192 _ _ ho179 ho182 ho183 ho186 ho187 (by omega) (by omega) hW193 h) ⟨rfl, rfl, rfl, rfl, rfl, rfl, trivial⟩) S148 v0 va1 vi1 va2 vi2 v4 v5 v6 v7 v8 v9 z153 f149 _ _ hv0 ha1 hi1 ha2 hi2 (by omega) (by omega) hW150 h) ?_
          exact ⟨rfl, rfl, rfl, rfl, rfl, rfl, rfl, rfl, rfl, rfl, trivial⟩
        · conv => whnf
          refine pw_br h (fun _ h => ?_) (fun _ h => ?_)
          · conv => whnf
            refine pw_br h (fun _ h => ?_) (fun _ h => ?_)
            · conv => whnf
              refine pw_st h (fun z198 h => ?_)
              conv => whnf
              refine np_gl (J_L_areColumns_269 (dc := N * 10 + dc) (ds := N * 60 + ds) hX hR (fun S216 u199 u201 u202 u205 u206 u209 u210 u211 u212 u213 u214 u215 f217 ce219 sl220 ho200 ho203 ho204 ho207 ho208 hc221 hs222 hW218 h => np_gl (ih S216 u199 u201 u202 u205 u206 u209 u210 u211 u212 u213 u214 u215 f217 _ _ ho200 ho203 ho204 ho207 ho208 (by omega) (by omega) hW218 h) ⟨rfl, rfl, rfl, rfl, rfl, rfl, rfl, rfl, rfl, rfl, trivial⟩) (fun S236 u223 u225 u226 u229 u230 u233 u234 u235 f237 ce239 sl240 ho224 ho227 ho228 ho231 ho232 hc241 hs242 hW238 h => np_gl (hk307 S236 u223 u225 u226 u229 u230 u233 u234 u235 f237 _ _ ho224 ho227 ho228 ho231 ho232 (by omega) (by omega) hW238 h) ⟨rfl, rfl, rfl, rfl, rfl, rfl, trivial⟩) S142 v0 va1 vi1 va2 vi2 v4 v5 v6 v7 v8 v9 z198 f143 _ _ hv0 ha1 hi1 ha2 hi2 (by omega) (by omega) hW144 h) ?_
              exact ⟨rfl, rfl, rfl, rfl, rfl, rfl, rfl, rfl, rfl, rfl, trivial⟩
            · conv => whnf
              refine pw_br h (fun _ h => ?_) (fun _ h => ?_)
              · conv => whnf
                refine pw_st h (fun z243 h => ?_)
                conv => whnf
                refine np_gl (J_L_areColumns_269 (dc := N * 10 + dc) (ds := N * 60 + ds) hX hR (fun S261 u244 u246 u247 u250 u251 u254 u255 u256 u257 u258 u259 u260 f262 ce264 sl265 ho245 ho248 ho249 ho252 ho253 hc266 hs267 hW263 h => np_gl (ih S261 u244 u246 u247 u250 u251 u254 u255 u256 u257 u258 u259 u260 f262 _ _ ho245 ho248 ho249 ho252 ho253 (by omega) (by omega) hW263 h) ⟨rfl, rfl, rfl, rfl, rfl, rfl, rfl, rfl, rfl, rfl, trivial⟩) (fun S281 u268 u270 u271 u274 u275 u278 u279 u280 f282 ce284 sl285 ho269 ho272 ho273 ho276 ho277 hc286 hs287 hW283 h => np_gl (hk307 S281 u268 u270 u271 u274 u275 u278 u279 u280 f282 _ _ ho269 ho272 ho273 ho276 ho277 (by omega) (by omega) hW283 h) ⟨rfl, rfl, rfl, rfl, rfl, rfl, trivial⟩) S142 v0 va1 vi1 va2 vi2 v4 v5 v6 v7 v8 v9 z243 f143 _ _ hv0 ha1 hi1 ha2 hi2 (by omega) (by omega) hW144 h) ?_
                exact ⟨rfl, rfl, rfl, rfl, rfl, rfl, rfl, rfl, rfl, rfl, trivial⟩
              · conv => whnf
                refine pw_st h (fun z288 h => ?_)
                conv => whnf
                refine np_gl (J_L_areColumns_269 (dc := N * 10 + dc) (ds := N * 60 + ds) hX hR (fun S306 u289 u291 u292 u295 u296 u299 u300 u301 u302 u303 u304 u305 f307 ce309 sl310 ho290 ho293 ho294 ho297 ho298 hc311 hs312 hW308 h => np_gl (ih S306 u289 u291 u292 u295 u296 u299 u300 u301 u302 u303 u304 u305 f307 _ _ ho290 ho293 ho294 ho297 ho298 (by omega) (by omega) hW308 h) ⟨rfl, rfl, rfl, rfl, rfl, rfl, rfl, rfl, rfl, rfl, trivial⟩) (fun S326 u313 u315 u316 u319 u320 u323 u324 u325 f327 ce329 sl330 ho314 ho317 ho318 ho321 ho322 hc331 hs332 hW328 h => np_gl (hk307 S326 u313 u315 u316 u319 u320 u323 u324 u325 f327 _ _ ho314 ho317 ho318 ho321 ho322 (by omega) (by omega) hW328 h) ⟨rfl, rfl, rfl, rfl, rfl, rfl, trivial⟩) S142 v0 va1 vi1 va2 vi2 v4 v5 v6 v7 v8 v9 z288 f143 _ _ hv0 ha1 hi1 ha2 hi2 (by omega) (by omega) hW144 h) ?_
                exact ⟨rfl, rfl, rfl, rfl, rfl, rfl, rfl, rfl, rfl, rfl, trivial⟩
          · conv => whnf
            refine pw_st h (fun z333 h => ?_)
            conv => whnf
            refine np_gl (L_L_areColumns_174 (dc := N * 10 + dc + 2) (ds := N * 60 + ds + 12) hX hR (fun S351 u334 u336 u337 u340 u341 u344 u345 u346 u347 u348 u349 u350 f352 ce398 sl399 ho335 ho338 ho339 ho342 ho343 hc400 hs401 hW353 h => ?_) (pw_F 6) S142 v0 va1 vi1 va2 vi2 v4 v5 v6 v7 v8 v9 z135 z333 f143 _ _ hv0 ha1 hi1 ha2 hi2 (by have e9 := pw_F_eq 6; omega) (by have e9 := pw_F_eq 6; omega) hW144 h) ⟨rfl, rfl, rfl, rfl, rfl, rfl, rfl, rfl, rfl, rfl, rfl, trivial⟩
            · refine np_gl (J_L_areColumns_269 (dc := N * 10 + dc) (ds := N * 60 + ds) hX hR (fun S371 u354 u356 u357 u360 u361 u364 u365 u366 u367 u368 u369 u370 f372 ce374 sl375 ho355 ho358 ho359 ho362 ho363 hc376 hs377 hW373 h => np_gl (ih S371 u354 u356 u357 u360 u361 u364 u365 u366 u367 u368 u369 u370 f372 _ _ ho355 ho358 ho359 ho362 ho363 (by omega) (by omega) hW373 h) ⟨rfl, rfl, rfl, rfl, rfl, rfl, rfl, rfl, rfl, rfl, trivial⟩) (fun S391 u378 u380 u381 u384 u385 u388 u389 u390 f392 ce394 sl395 ho379 ho382 ho383 ho386 ho387 hc396 hs397 hW393 h => np_gl (hk307 S391 u378 u380 u381 u384 u385 u388 u389 u390 f392 _ _ ho379 ho382 ho383 ho386 ho387 (by omega) (by omega) hW393 h) ⟨rfl, rfl, rfl, rfl, rfl, rfl, trivial⟩) S351 u334 u336 u337 u340 u341 u344 u345 u346 u347 u348 u349 u350 f352 _ _ ho335 ho338 ho339 ho342 ho343 (by omega) (by omega) hW353 h) ?_
              exact ⟨rfl, rfl, rfl, rfl, rfl, rfl, rfl, rfl, rfl, rfl, trivial⟩
noncomputable def m_L_areColumns_j307 (k5 : pw_S → Nat → Nat → Nat → Nat → Nat → Int32 → Int32 → pw_R Int32) (S : pw_S) (v0 : Nat) (va1 : Nat) (vi1 : Nat) (va2 : Nat) (vi2 : Nat) (v3 : Int32) (v4 : Int32) (v5 : Int32) : pw_R Int32 :=
 if v3 = 0 then
 (pw_l (0 : Int32) fun z402 =>
 pw_l (v4 + 1 : Int32) fun z403 =>
 k5 S v0 va1 vi1 va2 vi2 z402 z403)
 else
 (pw_c (np_inb (5 + (6 * v5)) (pw_len va2)) <|
 pw_b (m_L_asks S v0 5 v4 (S va2 vi2 ((5 + (6 * v5)) : Int32).toNatClampNeg) 0) fun S404 r407 =>
 if r407 = (-70007) then
 (pw_l (1 : Int32) fun z409 =>
 pw_l (v4 + 1 : Int32) fun z410 =>
 k5 S404 v0 va1 vi1 va2 vi2 z409 z410)
 else
 (pw_l (0 : Int32) fun z411 =>
 pw_l (v4 + 1 : Int32) fun z412 =>
 k5 S404 v0 va1 vi1 va2 vi2 z411 z412))
set_option maxRecDepth 100000 in
set_option maxHeartbeats 8000000 in
theorem J_L_areColumns_307 {X : np_Ctx} (hX : np_ok RL cL_areColumns 15 9 250 777 4662 .ireturn X) {Q : Option Value → np_W → Prop} {q : Nat} {n dc ds : Nat} (hR : ∀ st w ce sl, np_rt (some .boolean) 777 4662 Q st w ce sl → X.2.2.1 st w ce sl) {k5 : pw_S → Nat → Nat → Nat → Nat → Nat → Int32 → Int32 → pw_R Int32} (hk5 : ∀ (S : pw_S) (v0 : Nat) (va1 : Nat) (vi1 : Nat) (va2 : Nat) (vi2 : Nat) (v3 : Int32) (v4 : Int32) (f : Nat → Option np_E) (ce sl : Nat) (hv0 : pw_ok q 61 v0 = true) (ha1 : pw_arr va1 = true) (hi1 : pw_ok q va1 vi1 = true) (ha2 : pw_arr va2 = true) (hi2 : pw_ok q va2 vi2 = true), ce + dc ≤ 777 → sl + ds ≤ 4662 → pw_W q (n, f) S → pw_p (k5 S v0 va1 vi1 va2 vi2 v3 v4) (fun S' r => ∀ f', pw_W q (n, f') S' → Q (some (.int r)) (n, f')) → np_G X 5 [(0, .ref (pw_pl 61 v0)), (1, .ref (pw_pl va1 vi1)), (2, .ref (pw_pl va2 vi2)), (3, .int v3), (4, .int v4)] [] (n, f) ce sl) (S : pw_S) (v0 : Nat) (va1 : Nat) (vi1 : Nat) (va2 : Nat) (vi2 : Nat) (v3 : Int32) (v4 : Int32) (v5 : Int32) (f : Nat → Option np_E) (ce sl : Nat) (hv0 : pw_ok q 61 v0 = true) (ha1 : pw_arr va1 = true) (hi1 : pw_ok q va1 vi1 = true) (ha2 : pw_arr va2 = true) (hi2 : pw_ok q va2 vi2 = true) (hc : ce + 1 + dc ≤ 777) (hs : sl + 6 + ds ≤ 4662) (hW : pw_W q (n, f) S) (h : pw_p (m_L_areColumns_j307 k5 S v0 va1 vi1 va2 vi2 v3 v4 v5) (fun S' r => ∀ f', pw_W q (n, f') S' → Q (some (.int r)) (n, f'))) : np_G X 307 [(0, .ref (pw_pl 61 v0)), (1, .ref (pw_pl va1 vi1)), (2, .ref (pw_pl va2 vi2)), (3, .int v3), (4, .int v4), (5, .int v5)] [] (n, f) ce sl := by
  unfold m_L_areColumns_j307 at h
  refine np_soundW (so_L_areColumns hX hR) [5, 65, 174, 207, 269, 307] 400 307 _ _ _ _ _ ?_
  conv => whnf
  refine pw_br h (fun _ h => ?_) (fun _ h => ?_)
  · conv => whnf
    refine pw_st h (fun z402 h => ?_)
    conv => whnf
    refine pw_st h (fun z403 h => ?_)
    conv => whnf
    exact np_gl (hk5 S v0 va1 vi1 va2 vi2 z402 z403 f _ _ hv0 ha1 hi1 ha2 hi2 (by omega) (by omega) hW h) ⟨rfl, rfl, rfl, rfl, rfl, trivial⟩
  · conv => whnf
    refine np_rd_i (hW.ga ha2 hi2) ?_
    conv => whnf
    refine pw_ck h (fun _ h => ?_)
    conv => whnf
    refine np_chk_i (pw_and rfl (pw_and rfl (pw_and rfl ((pw_and (pw_le (by omega)) (pw_le (by omega))))))) ?_
    conv => whnf
    refine ⟨q, S, v0, 5, v4, (S va2 vi2 ((5 + (6 * v5)) : Int32).toNatClampNeg), 0, rfl, hv0, hW, pw_bd h (fun S404 r407 h f405 hW406 => ?_)⟩
    conv => whnf
    refine pw_br h (fun _ h => ?_) (fun _ h => ?_)
    · conv => whnf
      refine pw_st h (fun z409 h => ?_)
      conv => whnf
      refine pw_st h (fun z410 h => ?_)
      conv => whnf
      exact np_gl (hk5 S404 v0 va1 vi1 va2 vi2 z409 z410 f405 _ _ hv0 ha1 hi1 ha2 hi2 (by omega) (by omega) hW406 h) ⟨rfl, rfl, rfl, rfl, rfl, trivial⟩
    · conv => whnf
      refine pw_st h (fun z411 h => ?_)
      conv => whnf
      refine pw_st h (fun z412 h => ?_)
      conv => whnf
      exact np_gl (hk5 S404 v0 va1 vi1 va2 vi2 z411 z412 f405 _ _ hv0 ha1 hi1 ha2 hi2 (by omega) (by omega) hW406 h) ⟨rfl, rfl, rfl, rfl, rfl, trivial⟩
noncomputable def m_L_areColumns_5  : Nat → pw_S → Nat → Nat → Nat → Nat → Nat → Int32 → Int32 → pw_R Int32
| 0, _, _, _, _, _, _, _, _ => none
| N + 1, S, v0, va1, vi1, va2, vi2, v3, v4 =>
 pw_c (np_inb 1 (pw_len va2)) <|
 if (S va2 vi2 (1 : Int32).toNatClampNeg) ≤ v4 then
 (pw_c (decide (v3 = 0) || decide (v3 = 1)) <|
 some (S, v3))
 else
 (if v3 = 0 then
 (pw_c (decide (v3 = 0) || decide (v3 = 1)) <|
 some (S, v3))
 else
 (pw_c (np_inb v4 (pw_len va1)) <|
 pw_b (m_L_part S (S va1 vi1 (v4 : Int32).toNatClampNeg) 0 1) fun S415 r418 =>
 pw_l (r418 : Int32) fun z420 =>
 pw_c (np_inb v4 (pw_len va1)) <|
 pw_b (m_L_part S415 (S415 va1 vi1 (v4 : Int32).toNatClampNeg) 1 2) fun S421 r424 =>
 pw_l (r424 : Int32) fun z426 =>
 pw_c (np_inb v4 (pw_len va1)) <|
 pw_b (m_L_part S421 (S421 va1 vi1 (v4 : Int32).toNatClampNeg) 3 3) fun S427 r430 =>
 pw_l (r430 : Int32) fun z432 =>
 pw_c (np_inb v4 (pw_len va1)) <|
 pw_b (m_L_part S427 (S427 va1 vi1 (v4 : Int32).toNatClampNeg) 6 3) fun S433 r436 =>
 pw_l (r436 : Int32) fun z438 =>
 pw_l (0 : Int32) fun z439 =>
 m_L_areColumns_65
 (fun S453 u440 u442 u443 u446 u447 u450 u451 u452 =>
 (m_L_areColumns_j307 (fun S468 u456 u458 u459 u462 u463 u466 u467 => m_L_areColumns_5 N S468 u456 u458 u459 u462 u463 u466 u467) S453 u440 u442 u443 u446 u447 u450 u451 u452)) (pw_F 11) S433 v0 va1 vi1 va2 vi2 v3 v4 z420 z426 z432 z438 z439))
set_option maxRecDepth 100000 in
set_option maxHeartbeats 8000000 in
theorem L_L_areColumns_5 {X : np_Ctx} (hX : np_ok RL cL_areColumns 15 9 250 777 4662 .ireturn X) {Q : Option Value → np_W → Prop} {q : Nat} {n dc ds : Nat} (hR : ∀ st w ce sl, np_rt (some .boolean) 777 4662 Q st w ce sl → X.2.2.1 st w ce sl) : ∀ (N : Nat) (S : pw_S) (v0 : Nat) (va1 : Nat) (vi1 : Nat) (va2 : Nat) (vi2 : Nat) (v3 : Int32) (v4 : Int32) (f : Nat → Option np_E) (ce sl : Nat) (hv0 : pw_ok q 61 v0 = true) (ha1 : pw_arr va1 = true) (hi1 : pw_ok q va1 vi1 = true) (ha2 : pw_arr va2 = true) (hi2 : pw_ok q va2 vi2 = true), ce + N * 111 + dc ≤ 777 → sl + N * 666 + ds ≤ 4662 → pw_W q (n, f) S → pw_p (m_L_areColumns_5 N S v0 va1 vi1 va2 vi2 v3 v4) (fun S' r => ∀ f', pw_W q (n, f') S' → Q (some (.int r)) (n, f')) → np_G X 5 [(0, .ref (pw_pl 61 v0)), (1, .ref (pw_pl va1 vi1)), (2, .ref (pw_pl va2 vi2)), (3, .int v3), (4, .int v4)] [] (n, f) ce sl := by
  intro N
  induction N with
  | zero =>
    intro S v0 va1 vi1 va2 vi2 v3 v4 f ce sl hv0 ha1 hi1 ha2 hi2 hc hs hW h
    exact (pw_pn h).elim
  | succ N ih =>
    intro S v0 va1 vi1 va2 vi2 v3 v4 f ce sl hv0 ha1 hi1 ha2 hi2 hc hs hW h
    unfold m_L_areColumns_5 at h
    refine np_soundW (so_L_areColumns hX hR) [5, 65, 174, 207, 269, 307] 400 5 _ _ _ _ _ ?_
    conv => whnf
    refine np_rd_i (hW.ga ha2 hi2) ?_
    conv => whnf
    refine pw_ck h (fun _ h => ?_)
    conv => whnf
    refine pw_br h (fun _ h => ?_) (fun _ h => ?_)
    · conv => whnf
      obtain ⟨hb413, h⟩ := pw_ck1 h
      conv => whnf
      exact ⟨(by omega), (by omega), ⟨_, rfl, pw_nz hb413⟩, _, fun _ _ h9 => h9, pw_ps h _ hW⟩
    · conv => whnf
      refine pw_br h (fun _ h => ?_) (fun _ h => ?_)
      · conv => whnf
        obtain ⟨hb414, h⟩ := pw_ck1 h
        conv => whnf
        exact ⟨(by omega), (by omega), ⟨_, rfl, pw_nz hb414⟩, _, fun _ _ h9 => h9, pw_ps h _ hW⟩
      · conv => whnf
        refine np_rd_i (hW.ga ha1 hi1) ?_
        conv => whnf
        refine pw_ck h (fun _ h => ?_)
        conv => whnf
        refine np_chk_i (pw_and rfl (pw_and rfl (pw_and rfl ((pw_and (pw_le (by omega)) (pw_le (by omega))))))) ?_
        conv => whnf
        refine ⟨q, S, (S va1 vi1 (v4 : Int32).toNatClampNeg), 0, 1, rfl, hW, pw_bd h (fun S415 r418 h f416 hW417 => ?_)⟩
        conv => whnf
        refine pw_st h (fun z420 h => ?_)
        conv => whnf
        refine np_rd_i (hW417.ga ha1 hi1) ?_
        conv => whnf
        refine pw_ck h (fun _ h => ?_)
        conv => whnf
        refine np_chk_i (pw_and rfl (pw_and rfl (pw_and rfl ((pw_and (pw_le (by omega)) (pw_le (by omega))))))) ?_
        conv => whnf
        refine ⟨q, S415, (S415 va1 vi1 (v4 : Int32).toNatClampNeg), 1, 2, rfl, hW417, pw_bd h (fun S421 r424 h f422 hW423 => ?_)⟩
        conv => whnf
        refine pw_st h (fun z426 h => ?_)
        conv => whnf
        refine np_rd_i (hW423.ga ha1 hi1) ?_
        conv => whnf
        refine pw_ck h (fun _ h => ?_)
        conv => whnf
        refine np_chk_i (pw_and rfl (pw_and rfl (pw_and rfl ((pw_and (pw_le (by omega)) (pw_le (by omega))))))) ?_
        conv => whnf
        refine ⟨q, S421, (S421 va1 vi1 (v4 : Int32).toNatClampNeg), 3, 3, rfl, hW423, pw_bd h (fun S427 r430 h f428 hW429 => ?_)⟩
        conv => whnf
        refine pw_st h (fun z432 h => ?_)
        conv => whnf
        refine np_rd_i (hW429.ga ha1 hi1) ?_
        conv => whnf
        refine pw_ck h (fun _ h => ?_)
        conv => whnf
        refine np_chk_i (pw_and rfl (pw_and rfl (pw_and rfl ((pw_and (pw_le (by omega)) (pw_le (by omega))))))) ?_
        conv => whnf
        refine ⟨q, S427, (S427 va1 vi1 (v4 : Int32).toNatClampNeg), 6, 3, rfl, hW429, pw_bd h (fun S433 r436 h f434 hW435 => ?_)⟩
        conv => whnf
        refine pw_st h (fun z438 h => ?_)
        conv => whnf
        refine pw_st h (fun z439 h => ?_)
        conv => whnf
        refine np_gl (L_L_areColumns_65 (dc := N * 111 + dc + 1) (ds := N * 666 + ds + 6) hX hR (fun S453 u440 u442 u443 u446 u447 u450 u451 u452 f454 ce475 sl476 ho441 ho444 ho445 ho448 ho449 hc477 hs478 hW455 h => ?_) (pw_F 11) S433 v0 va1 vi1 va2 vi2 v3 v4 z420 z426 z432 z438 z439 f434 _ _ hv0 ha1 hi1 ha2 hi2 (by have e9 := pw_F_eq 11; omega) (by have e9 := pw_F_eq 11; omega) hW435 h) ⟨rfl, rfl, rfl, rfl, rfl, rfl, rfl, rfl, rfl, rfl, trivial⟩
        · refine np_gl (J_L_areColumns_307 (dc := N * 111 + dc) (ds := N * 666 + ds) hX hR (fun S468 u456 u458 u459 u462 u463 u466 u467 f469 ce471 sl472 ho457 ho460 ho461 ho464 ho465 hc473 hs474 hW470 h => np_gl (ih S468 u456 u458 u459 u462 u463 u466 u467 f469 _ _ ho457 ho460 ho461 ho464 ho465 (by omega) (by omega) hW470 h) ⟨rfl, rfl, rfl, rfl, rfl, trivial⟩) S453 u440 u442 u443 u446 u447 u450 u451 u452 f454 _ _ ho441 ho444 ho445 ho448 ho449 (by omega) (by omega) hW455 h) ?_
          exact ⟨rfl, rfl, rfl, rfl, rfl, rfl, trivial⟩
noncomputable def m_L_areColumns (S : pw_S) (i0 : Nat) (a1 : Nat) (i1 : Nat) (a2 : Nat) (i2 : Nat) : pw_R Int32 :=
 pw_l (1 : Int32) fun z479 =>
 pw_l (0 : Int32) fun z480 =>
 m_L_areColumns_5 (pw_F 7) S i0 a1 i1 a2 i2 z479 z480
def sp_L_areColumns : np_Sp := fun vs w Q => ∃ (q : Nat) (S : pw_S) (i0 : Nat) (a1 : Nat) (i1 : Nat) (a2 : Nat) (i2 : Nat), vs = [.ref (pw_pl 61 i0), .ref (pw_pl a1 i1), .ref (pw_pl a2 i2)] ∧ pw_ok q 61 i0 = true ∧ pw_arr a1 = true ∧ pw_ok q a1 i1 = true ∧ pw_arr a2 = true ∧ pw_ok q a2 i2 = true ∧ pw_W q w S ∧ pw_p (m_L_areColumns S i0 a1 i1 a2 i2) (fun S' r => ∀ f', pw_W q (w.1, f') S' → Q (some (.int r)) (w.1, f'))
set_option maxRecDepth 100000 in
set_option maxHeartbeats 8000000 in
theorem C_L_areColumns : np_C yL_areColumns cL_areColumns 15 (some .boolean) 9 250 777 4662 (sp_L_areColumns) := by
  refine np_of (by decide) ?_
  intro X vs w Q hsp hX hmn hRt hlt
  obtain ⟨q, S, i0, a1, i1, a2, i2, rfl, hi0, ha1, hi1, ha2, hi2, hW, h⟩ := hsp
  obtain ⟨n, f⟩ := w
  unfold m_L_areColumns at h
  have hR : ∀ st w ce sl, np_rt (some .boolean) 777 4662 Q st w ce sl → X.2.2.1 st w ce sl := fun _ _ _ _ h => by rw [hRt]; exact h
  refine np_soundW (so_L_areColumns hX hR) [5, 65, 174, 207, 269, 307] 400 0 _ _ _ _ _ ?_
  conv => whnf
  refine pw_st h (fun z479 h => ?_)
  conv => whnf
  refine pw_st h (fun z480 h => ?_)
  conv => whnf
  refine np_gl (L_L_areColumns_5 (dc := 0) (ds := 0) hX hR (pw_F 7) S i0 a1 i1 a2 i2 z479 z480 f _ _ hi0 ha1 hi1 ha2 hi2 (by have e9 := pw_F_eq 7; omega) (by have e9 := pw_F_eq 7; omega) hW h) ⟨rfl, rfl, rfl, rfl, rfl, trivial⟩
theorem dL_areKeys_0 : decode cL_areKeys 0 = .ok (.iconst 0, 1) := by decide +kernel
theorem dL_areKeys_1 : decode cL_areKeys 1 = .ok (.istore_n 3, 1) := by decide +kernel
theorem dL_areKeys_2 : decode cL_areKeys 2 = .ok (.iconst 1, 1) := by decide +kernel
theorem dL_areKeys_3 : decode cL_areKeys 3 = .ok (.istore 4, 2) := by decide +kernel
theorem dL_areKeys_5 : decode cL_areKeys 5 = .ok (.iconst 0, 1) := by decide +kernel
theorem dL_areKeys_6 : decode cL_areKeys 6 = .ok (.istore 5, 2) := by decide +kernel
theorem dL_areKeys_8 : decode cL_areKeys 8 = .ok (.iload 5, 2) := by decide +kernel
theorem dL_areKeys_10 : decode cL_areKeys 10 = .ok (.iconst 2, 1) := by decide +kernel
theorem dL_areKeys_11 : decode cL_areKeys 11 = .ok (.if_icmp .ge 415, 3) := by decide +kernel
theorem dL_areKeys_14 : decode cL_areKeys 14 = .ok (.iload 4, 2) := by decide +kernel
theorem dL_areKeys_16 : decode cL_areKeys 16 = .ok (.ifCond .eq 410, 3) := by decide +kernel
theorem dL_areKeys_19 : decode cL_areKeys 19 = .ok (.iconst 0, 1) := by decide +kernel
theorem dL_areKeys_20 : decode cL_areKeys 20 = .ok (.istore 6, 2) := by decide +kernel
theorem dL_areKeys_22 : decode cL_areKeys 22 = .ok (.iload 6, 2) := by decide +kernel
theorem dL_areKeys_24 : decode cL_areKeys 24 = .ok (.aload_n 2, 1) := by decide +kernel
theorem dL_areKeys_25 : decode cL_areKeys 25 = .ok (.iconst 5, 1) := by decide +kernel
theorem dL_areKeys_26 : decode cL_areKeys 26 = .ok (.bipush 6, 2) := by decide +kernel
theorem dL_areKeys_28 : decode cL_areKeys 28 = .ok (.iload 5, 2) := by decide +kernel
theorem dL_areKeys_30 : decode cL_areKeys 30 = .ok (.imul, 1) := by decide +kernel
theorem dL_areKeys_31 : decode cL_areKeys 31 = .ok (.iadd, 1) := by decide +kernel
theorem dL_areKeys_32 : decode cL_areKeys 32 = .ok (.iaload, 1) := by decide +kernel
theorem dL_areKeys_33 : decode cL_areKeys 33 = .ok (.if_icmp .ge 387, 3) := by decide +kernel
theorem dL_areKeys_36 : decode cL_areKeys 36 = .ok (.iload 4, 2) := by decide +kernel
theorem dL_areKeys_38 : decode cL_areKeys 38 = .ok (.ifCond .eq 382, 3) := by decide +kernel
theorem dL_areKeys_41 : decode cL_areKeys 41 = .ok (.aload_n 0, 1) := by decide +kernel
theorem dL_areKeys_42 : decode cL_areKeys 42 = .ok (.iload 5, 2) := by decide +kernel
theorem dL_areKeys_44 : decode cL_areKeys 44 = .ok (.iload 6, 2) := by decide +kernel
theorem dL_areKeys_46 : decode cL_areKeys 46 = .ok (.iload_n 1, 1) := by decide +kernel
theorem dL_areKeys_47 : decode cL_areKeys 47 = .ok (.iconst 0, 1) := by decide +kernel
theorem dL_areKeys_48 : decode cL_areKeys 48 = .ok (.invokevirtual 116, 3) := by decide +kernel
theorem dL_areKeys_51 : decode cL_areKeys 51 = .ok (.istore 7, 2) := by decide +kernel
theorem dL_areKeys_53 : decode cL_areKeys 53 = .ok (.iconst 0, 1) := by decide +kernel
theorem dL_areKeys_54 : decode cL_areKeys 54 = .ok (.istore 8, 2) := by decide +kernel
theorem dL_areKeys_56 : decode cL_areKeys 56 = .ok (.iload 7, 2) := by decide +kernel
theorem dL_areKeys_58 : decode cL_areKeys 58 = .ok (.ldc 119, 2) := by decide +kernel
theorem dL_areKeys_60 : decode cL_areKeys 60 = .ok (.if_icmp .eq 7, 3) := by decide +kernel
theorem dL_areKeys_63 : decode cL_areKeys 63 = .ok (.iconst 1, 1) := by decide +kernel
theorem dL_areKeys_64 : decode cL_areKeys 64 = .ok (.goto 4, 3) := by decide +kernel
theorem dL_areKeys_67 : decode cL_areKeys 67 = .ok (.iconst 0, 1) := by decide +kernel
theorem dL_areKeys_68 : decode cL_areKeys 68 = .ok (.istore 9, 2) := by decide +kernel
theorem dL_areKeys_70 : decode cL_areKeys 70 = .ok (.iconst 0, 1) := by decide +kernel
theorem dL_areKeys_71 : decode cL_areKeys 71 = .ok (.istore 10, 2) := by decide +kernel
theorem dL_areKeys_73 : decode cL_areKeys 73 = .ok (.iload 10, 2) := by decide +kernel
theorem dL_areKeys_75 : decode cL_areKeys 75 = .ok (.aload_n 2, 1) := by decide +kernel
theorem dL_areKeys_76 : decode cL_areKeys 76 = .ok (.iconst 5, 1) := by decide +kernel
theorem dL_areKeys_77 : decode cL_areKeys 77 = .ok (.bipush 6, 2) := by decide +kernel
theorem dL_areKeys_79 : decode cL_areKeys 79 = .ok (.iload 5, 2) := by decide +kernel
theorem dL_areKeys_81 : decode cL_areKeys 81 = .ok (.imul, 1) := by decide +kernel
theorem dL_areKeys_82 : decode cL_areKeys 82 = .ok (.iadd, 1) := by decide +kernel
theorem dL_areKeys_83 : decode cL_areKeys 83 = .ok (.iaload, 1) := by decide +kernel
theorem dL_areKeys_84 : decode cL_areKeys 84 = .ok (.if_icmp .ge 77, 3) := by decide +kernel
theorem dL_areKeys_87 : decode cL_areKeys 87 = .ok (.aload_n 0, 1) := by decide +kernel
theorem dL_areKeys_88 : decode cL_areKeys 88 = .ok (.iload 5, 2) := by decide +kernel
theorem dL_areKeys_90 : decode cL_areKeys 90 = .ok (.iload 10, 2) := by decide +kernel
theorem dL_areKeys_92 : decode cL_areKeys 92 = .ok (.iload_n 1, 1) := by decide +kernel
theorem dL_areKeys_93 : decode cL_areKeys 93 = .ok (.iconst 0, 1) := by decide +kernel
theorem dL_areKeys_94 : decode cL_areKeys 94 = .ok (.invokevirtual 116, 3) := by decide +kernel
theorem dL_areKeys_97 : decode cL_areKeys 97 = .ok (.iload 7, 2) := by decide +kernel
theorem dL_areKeys_99 : decode cL_areKeys 99 = .ok (.if_icmp .ne 7, 3) := by decide +kernel
theorem dL_areKeys_102 : decode cL_areKeys 102 = .ok (.iconst 1, 1) := by decide +kernel
theorem dL_areKeys_103 : decode cL_areKeys 103 = .ok (.goto 4, 3) := by decide +kernel
theorem dL_areKeys_106 : decode cL_areKeys 106 = .ok (.iconst 0, 1) := by decide +kernel
theorem dL_areKeys_107 : decode cL_areKeys 107 = .ok (.istore 11, 2) := by decide +kernel
theorem dL_areKeys_109 : decode cL_areKeys 109 = .ok (.iload 8, 2) := by decide +kernel
theorem dL_areKeys_111 : decode cL_areKeys 111 = .ok (.iload 11, 2) := by decide +kernel
theorem dL_areKeys_113 : decode cL_areKeys 113 = .ok (.ifCond .eq 14, 3) := by decide +kernel
theorem dL_areKeys_116 : decode cL_areKeys 116 = .ok (.iload 10, 2) := by decide +kernel
theorem dL_areKeys_118 : decode cL_areKeys 118 = .ok (.iload 6, 2) := by decide +kernel
theorem dL_areKeys_120 : decode cL_areKeys 120 = .ok (.if_icmp .ge 7, 3) := by decide +kernel
theorem dL_areKeys_123 : decode cL_areKeys 123 = .ok (.iconst 1, 1) := by decide +kernel
theorem dL_areKeys_124 : decode cL_areKeys 124 = .ok (.goto 4, 3) := by decide +kernel
theorem dL_areKeys_127 : decode cL_areKeys 127 = .ok (.iconst 0, 1) := by decide +kernel
theorem dL_areKeys_128 : decode cL_areKeys 128 = .ok (.iadd, 1) := by decide +kernel
theorem dL_areKeys_129 : decode cL_areKeys 129 = .ok (.istore 8, 2) := by decide +kernel
theorem dL_areKeys_131 : decode cL_areKeys 131 = .ok (.iload 9, 2) := by decide +kernel
theorem dL_areKeys_133 : decode cL_areKeys 133 = .ok (.ifCond .eq 19, 3) := by decide +kernel
theorem dL_areKeys_136 : decode cL_areKeys 136 = .ok (.iload 11, 2) := by decide +kernel
theorem dL_areKeys_138 : decode cL_areKeys 138 = .ok (.ifCond .eq 10, 3) := by decide +kernel
theorem dL_areKeys_141 : decode cL_areKeys 141 = .ok (.iload 10, 2) := by decide +kernel
theorem dL_areKeys_143 : decode cL_areKeys 143 = .ok (.iload 6, 2) := by decide +kernel
theorem dL_areKeys_145 : decode cL_areKeys 145 = .ok (.if_icmp .gt 7, 3) := by decide +kernel
theorem dL_areKeys_148 : decode cL_areKeys 148 = .ok (.iconst 1, 1) := by decide +kernel
theorem dL_areKeys_149 : decode cL_areKeys 149 = .ok (.goto 4, 3) := by decide +kernel
theorem dL_areKeys_152 : decode cL_areKeys 152 = .ok (.iconst 0, 1) := by decide +kernel
theorem dL_areKeys_153 : decode cL_areKeys 153 = .ok (.istore 9, 2) := by decide +kernel
theorem dL_areKeys_155 : decode cL_areKeys 155 = .ok (.iinc 10 1, 3) := by decide +kernel
theorem dL_areKeys_158 : decode cL_areKeys 158 = .ok (.goto (-85), 3) := by decide +kernel
theorem dL_areKeys_161 : decode cL_areKeys 161 = .ok (.iload 7, 2) := by decide +kernel
theorem dL_areKeys_163 : decode cL_areKeys 163 = .ok (.ldc 119, 2) := by decide +kernel
theorem dL_areKeys_165 : decode cL_areKeys 165 = .ok (.if_icmp .eq 57, 3) := by decide +kernel
theorem dL_areKeys_168 : decode cL_areKeys 168 = .ok (.aload_n 0, 1) := by decide +kernel
theorem dL_areKeys_169 : decode cL_areKeys 169 = .ok (.iload 5, 2) := by decide +kernel
theorem dL_areKeys_171 : decode cL_areKeys 171 = .ok (.iload_n 1, 1) := by decide +kernel
theorem dL_areKeys_172 : decode cL_areKeys 172 = .ok (.iload 7, 2) := by decide +kernel
theorem dL_areKeys_174 : decode cL_areKeys 174 = .ok (.iload 8, 2) := by decide +kernel
theorem dL_areKeys_176 : decode cL_areKeys 176 = .ok (.invokevirtual 136, 3) := by decide +kernel
theorem dL_areKeys_179 : decode cL_areKeys 179 = .ok (.iload 6, 2) := by decide +kernel
theorem dL_areKeys_181 : decode cL_areKeys 181 = .ok (.if_icmp .ne 45, 3) := by decide +kernel
theorem dL_areKeys_184 : decode cL_areKeys 184 = .ok (.aload_n 0, 1) := by decide +kernel
theorem dL_areKeys_185 : decode cL_areKeys 185 = .ok (.iload 5, 2) := by decide +kernel
theorem dL_areKeys_187 : decode cL_areKeys 187 = .ok (.iload_n 1, 1) := by decide +kernel
theorem dL_areKeys_188 : decode cL_areKeys 188 = .ok (.iload 7, 2) := by decide +kernel
theorem dL_areKeys_190 : decode cL_areKeys 190 = .ok (.iload 8, 2) := by decide +kernel
theorem dL_areKeys_192 : decode cL_areKeys 192 = .ok (.invokevirtual 139, 3) := by decide +kernel
theorem dL_areKeys_195 : decode cL_areKeys 195 = .ok (.iload 6, 2) := by decide +kernel
theorem dL_areKeys_197 : decode cL_areKeys 197 = .ok (.if_icmp .ne 29, 3) := by decide +kernel
theorem dL_areKeys_200 : decode cL_areKeys 200 = .ok (.iload 9, 2) := by decide +kernel
theorem dL_areKeys_202 : decode cL_areKeys 202 = .ok (.ifCond .eq 20, 3) := by decide +kernel
theorem dL_areKeys_205 : decode cL_areKeys 205 = .ok (.aload_n 0, 1) := by decide +kernel
theorem dL_areKeys_206 : decode cL_areKeys 206 = .ok (.iload 5, 2) := by decide +kernel
theorem dL_areKeys_208 : decode cL_areKeys 208 = .ok (.iload_n 1, 1) := by decide +kernel
theorem dL_areKeys_209 : decode cL_areKeys 209 = .ok (.iload 7, 2) := by decide +kernel
theorem dL_areKeys_211 : decode cL_areKeys 211 = .ok (.iload 8, 2) := by decide +kernel
theorem dL_areKeys_213 : decode cL_areKeys 213 = .ok (.iconst 1, 1) := by decide +kernel
theorem dL_areKeys_214 : decode cL_areKeys 214 = .ok (.iadd, 1) := by decide +kernel
theorem dL_areKeys_215 : decode cL_areKeys 215 = .ok (.invokevirtual 136, 3) := by decide +kernel
theorem dL_areKeys_218 : decode cL_areKeys 218 = .ok (.iconst (-1), 1) := by decide +kernel
theorem dL_areKeys_219 : decode cL_areKeys 219 = .ok (.if_icmp .ne 7, 3) := by decide +kernel
theorem dL_areKeys_222 : decode cL_areKeys 222 = .ok (.iconst 1, 1) := by decide +kernel
theorem dL_areKeys_223 : decode cL_areKeys 223 = .ok (.goto 4, 3) := by decide +kernel
theorem dL_areKeys_226 : decode cL_areKeys 226 = .ok (.iconst 0, 1) := by decide +kernel
theorem dL_areKeys_227 : decode cL_areKeys 227 = .ok (.istore 4, 2) := by decide +kernel
theorem dL_areKeys_229 : decode cL_areKeys 229 = .ok (.iconst (-1), 1) := by decide +kernel
theorem dL_areKeys_230 : decode cL_areKeys 230 = .ok (.istore 10, 2) := by decide +kernel
theorem dL_areKeys_232 : decode cL_areKeys 232 = .ok (.iconst 0, 1) := by decide +kernel
theorem dL_areKeys_233 : decode cL_areKeys 233 = .ok (.istore 11, 2) := by decide +kernel
theorem dL_areKeys_235 : decode cL_areKeys 235 = .ok (.iload 11, 2) := by decide +kernel
theorem dL_areKeys_237 : decode cL_areKeys 237 = .ok (.aload_n 2, 1) := by decide +kernel
theorem dL_areKeys_238 : decode cL_areKeys 238 = .ok (.iconst 5, 1) := by decide +kernel
theorem dL_areKeys_239 : decode cL_areKeys 239 = .ok (.bipush 6, 2) := by decide +kernel
theorem dL_areKeys_241 : decode cL_areKeys 241 = .ok (.iconst 1, 1) := by decide +kernel
theorem dL_areKeys_242 : decode cL_areKeys 242 = .ok (.iload 5, 2) := by decide +kernel
theorem dL_areKeys_244 : decode cL_areKeys 244 = .ok (.isub, 1) := by decide +kernel
theorem dL_areKeys_245 : decode cL_areKeys 245 = .ok (.imul, 1) := by decide +kernel
theorem dL_areKeys_246 : decode cL_areKeys 246 = .ok (.iadd, 1) := by decide +kernel
theorem dL_areKeys_247 : decode cL_areKeys 247 = .ok (.iaload, 1) := by decide +kernel
theorem dL_areKeys_248 : decode cL_areKeys 248 = .ok (.if_icmp .ge 40, 3) := by decide +kernel
theorem dL_areKeys_251 : decode cL_areKeys 251 = .ok (.iload 9, 2) := by decide +kernel
theorem dL_areKeys_253 : decode cL_areKeys 253 = .ok (.ifCond .eq 35, 3) := by decide +kernel
theorem dL_areKeys_256 : decode cL_areKeys 256 = .ok (.aload_n 0, 1) := by decide +kernel
theorem dL_areKeys_257 : decode cL_areKeys 257 = .ok (.iconst 1, 1) := by decide +kernel
theorem dL_areKeys_258 : decode cL_areKeys 258 = .ok (.iload 5, 2) := by decide +kernel
theorem dL_areKeys_260 : decode cL_areKeys 260 = .ok (.isub, 1) := by decide +kernel
theorem dL_areKeys_261 : decode cL_areKeys 261 = .ok (.iload 11, 2) := by decide +kernel
theorem dL_areKeys_263 : decode cL_areKeys 263 = .ok (.iload_n 1, 1) := by decide +kernel
theorem dL_areKeys_264 : decode cL_areKeys 264 = .ok (.iconst 0, 1) := by decide +kernel
theorem dL_areKeys_265 : decode cL_areKeys 265 = .ok (.invokevirtual 116, 3) := by decide +kernel
theorem dL_areKeys_268 : decode cL_areKeys 268 = .ok (.iload 7, 2) := by decide +kernel
theorem dL_areKeys_270 : decode cL_areKeys 270 = .ok (.if_icmp .ne 8, 3) := by decide +kernel
theorem dL_areKeys_273 : decode cL_areKeys 273 = .ok (.iload 11, 2) := by decide +kernel
theorem dL_areKeys_275 : decode cL_areKeys 275 = .ok (.goto 5, 3) := by decide +kernel
theorem dL_areKeys_278 : decode cL_areKeys 278 = .ok (.iload 10, 2) := by decide +kernel
theorem dL_areKeys_280 : decode cL_areKeys 280 = .ok (.istore 10, 2) := by decide +kernel
theorem dL_areKeys_282 : decode cL_areKeys 282 = .ok (.iinc 11 1, 3) := by decide +kernel
theorem dL_areKeys_285 : decode cL_areKeys 285 = .ok (.goto (-50), 3) := by decide +kernel
theorem dL_areKeys_288 : decode cL_areKeys 288 = .ok (.iconst 0, 1) := by decide +kernel
theorem dL_areKeys_289 : decode cL_areKeys 289 = .ok (.istore 11, 2) := by decide +kernel
theorem dL_areKeys_291 : decode cL_areKeys 291 = .ok (.iconst 0, 1) := by decide +kernel
theorem dL_areKeys_292 : decode cL_areKeys 292 = .ok (.istore 12, 2) := by decide +kernel
theorem dL_areKeys_294 : decode cL_areKeys 294 = .ok (.iload 12, 2) := by decide +kernel
theorem dL_areKeys_296 : decode cL_areKeys 296 = .ok (.bipush 24, 2) := by decide +kernel
theorem dL_areKeys_298 : decode cL_areKeys 298 = .ok (.if_icmp .ge 68, 3) := by decide +kernel
theorem dL_areKeys_301 : decode cL_areKeys 301 = .ok (.iload 10, 2) := by decide +kernel
theorem dL_areKeys_303 : decode cL_areKeys 303 = .ok (.ifCond .lt 63, 3) := by decide +kernel
theorem dL_areKeys_306 : decode cL_areKeys 306 = .ok (.iload 9, 2) := by decide +kernel
theorem dL_areKeys_308 : decode cL_areKeys 308 = .ok (.ifCond .eq 58, 3) := by decide +kernel
theorem dL_areKeys_311 : decode cL_areKeys 311 = .ok (.iload 11, 2) := by decide +kernel
theorem dL_areKeys_313 : decode cL_areKeys 313 = .ok (.ifCond .ne 40, 3) := by decide +kernel
theorem dL_areKeys_316 : decode cL_areKeys 316 = .ok (.aload_n 0, 1) := by decide +kernel
theorem dL_areKeys_317 : decode cL_areKeys 317 = .ok (.iload 5, 2) := by decide +kernel
theorem dL_areKeys_319 : decode cL_areKeys 319 = .ok (.iload 6, 2) := by decide +kernel
theorem dL_areKeys_321 : decode cL_areKeys 321 = .ok (.iload 12, 2) := by decide +kernel
theorem dL_areKeys_323 : decode cL_areKeys 323 = .ok (.iconst 3, 1) := by decide +kernel
theorem dL_areKeys_324 : decode cL_areKeys 324 = .ok (.idiv, 1) := by decide +kernel
theorem dL_areKeys_325 : decode cL_areKeys 325 = .ok (.iload 12, 2) := by decide +kernel
theorem dL_areKeys_327 : decode cL_areKeys 327 = .ok (.iconst 3, 1) := by decide +kernel
theorem dL_areKeys_328 : decode cL_areKeys 328 = .ok (.irem, 1) := by decide +kernel
theorem dL_areKeys_329 : decode cL_areKeys 329 = .ok (.invokevirtual 116, 3) := by decide +kernel
theorem dL_areKeys_332 : decode cL_areKeys 332 = .ok (.aload_n 0, 1) := by decide +kernel
theorem dL_areKeys_333 : decode cL_areKeys 333 = .ok (.iconst 1, 1) := by decide +kernel
theorem dL_areKeys_334 : decode cL_areKeys 334 = .ok (.iload 5, 2) := by decide +kernel
theorem dL_areKeys_336 : decode cL_areKeys 336 = .ok (.isub, 1) := by decide +kernel
theorem dL_areKeys_337 : decode cL_areKeys 337 = .ok (.iload 10, 2) := by decide +kernel
theorem dL_areKeys_339 : decode cL_areKeys 339 = .ok (.iload 12, 2) := by decide +kernel
theorem dL_areKeys_341 : decode cL_areKeys 341 = .ok (.iconst 3, 1) := by decide +kernel
theorem dL_areKeys_342 : decode cL_areKeys 342 = .ok (.idiv, 1) := by decide +kernel
theorem dL_areKeys_343 : decode cL_areKeys 343 = .ok (.iload 12, 2) := by decide +kernel
theorem dL_areKeys_345 : decode cL_areKeys 345 = .ok (.iconst 3, 1) := by decide +kernel
theorem dL_areKeys_346 : decode cL_areKeys 346 = .ok (.irem, 1) := by decide +kernel
theorem dL_areKeys_347 : decode cL_areKeys 347 = .ok (.invokevirtual 116, 3) := by decide +kernel
theorem dL_areKeys_350 : decode cL_areKeys 350 = .ok (.if_icmp .eq 7, 3) := by decide +kernel
theorem dL_areKeys_353 : decode cL_areKeys 353 = .ok (.iconst 1, 1) := by decide +kernel
theorem dL_areKeys_354 : decode cL_areKeys 354 = .ok (.goto 4, 3) := by decide +kernel
theorem dL_areKeys_357 : decode cL_areKeys 357 = .ok (.iconst 0, 1) := by decide +kernel
theorem dL_areKeys_358 : decode cL_areKeys 358 = .ok (.istore 11, 2) := by decide +kernel
theorem dL_areKeys_360 : decode cL_areKeys 360 = .ok (.iinc 12 1, 3) := by decide +kernel
theorem dL_areKeys_363 : decode cL_areKeys 363 = .ok (.goto (-69), 3) := by decide +kernel
theorem dL_areKeys_366 : decode cL_areKeys 366 = .ok (.iload_n 3, 1) := by decide +kernel
theorem dL_areKeys_367 : decode cL_areKeys 367 = .ok (.iload 9, 2) := by decide +kernel
theorem dL_areKeys_369 : decode cL_areKeys 369 = .ok (.ifCond .ne 7, 3) := by decide +kernel
theorem dL_areKeys_372 : decode cL_areKeys 372 = .ok (.iconst 0, 1) := by decide +kernel
theorem dL_areKeys_373 : decode cL_areKeys 373 = .ok (.goto 39, 3) := by decide +kernel
theorem dL_areKeys_376 : decode cL_areKeys 376 = .ok (.iload 10, 2) := by decide +kernel
theorem dL_areKeys_378 : decode cL_areKeys 378 = .ok (.ifCond .ge 19, 3) := by decide +kernel
theorem dL_areKeys_381 : decode cL_areKeys 381 = .ok (.iload 5, 2) := by decide +kernel
theorem dL_areKeys_383 : decode cL_areKeys 383 = .ok (.ifCond .ne 8, 3) := by decide +kernel
theorem dL_areKeys_386 : decode cL_areKeys 386 = .ok (.bipush 100, 2) := by decide +kernel
theorem dL_areKeys_388 : decode cL_areKeys 388 = .ok (.goto 24, 3) := by decide +kernel
theorem dL_areKeys_391 : decode cL_areKeys 391 = .ok (.sipush 10000, 3) := by decide +kernel
theorem dL_areKeys_394 : decode cL_areKeys 394 = .ok (.goto 18, 3) := by decide +kernel
theorem dL_areKeys_397 : decode cL_areKeys 397 = .ok (.iload 11, 2) := by decide +kernel
theorem dL_areKeys_399 : decode cL_areKeys 399 = .ok (.ifCond .eq 12, 3) := by decide +kernel
theorem dL_areKeys_402 : decode cL_areKeys 402 = .ok (.iload 5, 2) := by decide +kernel
theorem dL_areKeys_404 : decode cL_areKeys 404 = .ok (.ifCond .ne 7, 3) := by decide +kernel
theorem dL_areKeys_407 : decode cL_areKeys 407 = .ok (.iconst 1, 1) := by decide +kernel
theorem dL_areKeys_408 : decode cL_areKeys 408 = .ok (.goto 4, 3) := by decide +kernel
theorem dL_areKeys_411 : decode cL_areKeys 411 = .ok (.iconst 0, 1) := by decide +kernel
theorem dL_areKeys_412 : decode cL_areKeys 412 = .ok (.iadd, 1) := by decide +kernel
theorem dL_areKeys_413 : decode cL_areKeys 413 = .ok (.istore_n 3, 1) := by decide +kernel
theorem dL_areKeys_414 : decode cL_areKeys 414 = .ok (.iinc 6 1, 3) := by decide +kernel
theorem dL_areKeys_417 : decode cL_areKeys 417 = .ok (.goto (-395), 3) := by decide +kernel
theorem dL_areKeys_420 : decode cL_areKeys 420 = .ok (.iinc 5 1, 3) := by decide +kernel
theorem dL_areKeys_423 : decode cL_areKeys 423 = .ok (.goto (-415), 3) := by decide +kernel
theorem dL_areKeys_426 : decode cL_areKeys 426 = .ok (.iload 4, 2) := by decide +kernel
theorem dL_areKeys_428 : decode cL_areKeys 428 = .ok (.ifCond .eq 28, 3) := by decide +kernel
theorem dL_areKeys_431 : decode cL_areKeys 431 = .ok (.aload_n 0, 1) := by decide +kernel
theorem dL_areKeys_432 : decode cL_areKeys 432 = .ok (.iload_n 1, 1) := by decide +kernel
theorem dL_areKeys_433 : decode cL_areKeys 433 = .ok (.invokevirtual 142, 3) := by decide +kernel
theorem dL_areKeys_436 : decode cL_areKeys 436 = .ok (.iload_n 3, 1) := by decide +kernel
theorem dL_areKeys_437 : decode cL_areKeys 437 = .ok (.if_icmp .ne 19, 3) := by decide +kernel
theorem dL_areKeys_440 : decode cL_areKeys 440 = .ok (.aload_n 0, 1) := by decide +kernel
theorem dL_areKeys_441 : decode cL_areKeys 441 = .ok (.iconst 0, 1) := by decide +kernel
theorem dL_areKeys_442 : decode cL_areKeys 442 = .ok (.iload_n 1, 1) := by decide +kernel
theorem dL_areKeys_443 : decode cL_areKeys 443 = .ok (.iconst (-1), 1) := by decide +kernel
theorem dL_areKeys_444 : decode cL_areKeys 444 = .ok (.iconst 0, 1) := by decide +kernel
theorem dL_areKeys_445 : decode cL_areKeys 445 = .ok (.invokevirtual 136, 3) := by decide +kernel
theorem dL_areKeys_448 : decode cL_areKeys 448 = .ok (.iconst (-1), 1) := by decide +kernel
theorem dL_areKeys_449 : decode cL_areKeys 449 = .ok (.if_icmp .ne 7, 3) := by decide +kernel
theorem dL_areKeys_452 : decode cL_areKeys 452 = .ok (.iconst 1, 1) := by decide +kernel
theorem dL_areKeys_453 : decode cL_areKeys 453 = .ok (.goto 4, 3) := by decide +kernel
theorem dL_areKeys_456 : decode cL_areKeys 456 = .ok (.iconst 0, 1) := by decide +kernel
theorem dL_areKeys_457 : decode cL_areKeys 457 = .ok (.ireturn, 1) := by decide +kernel
def is_L_areKeys (Rt : np_Rt) : List (Nat × np_Op) := [(0, np_push 1 (.int 0)), (1, nw_ist 1 3), (2, np_push 1 (.int 1)), (3, nw_ist 2 4), (5, np_push 1 (.int 0)), (6, nw_ist 2 5), (8, np_ild 2 5), (10, np_push 1 (.int 2)), (11, nq_ic (fun x y => y ≤ x) 426), (14, np_ild 2 4), (16, nq_if (fun x => x = 0) 426), (19, np_push 1 (.int 0)), (20, nw_ist 2 6), (22, np_ild 2 6), (24, np_ald 1 2), (25, np_push 1 (.int 5)), (26, np_push 2 (.int 6)), (28, np_ild 2 5), (30, np_ib (fun x y => x * y)), (31, np_ib (fun x y => x + y)), (32, nw_ialdT .int), (33, nq_ic (fun x y => y ≤ x) 420), (36, np_ild 2 4), (38, nq_if (fun x => x = 0) 420), (41, np_ald 1 0), (42, np_ild 2 5), (44, np_ild 2 6), (46, np_ild 1 1), (47, np_push 1 (.int 0)), (48, nw_callVX 11 5 sp_X11_cell 6 1 6 2510 15060 []), (51, nw_ist 2 7), (53, np_push 1 (.int 0)), (54, nw_ist 2 8), (56, np_ild 2 7), (58, np_push 2 (.int (-2147483648))), (60, nq_ic (fun x y => x = y) 67), (63, np_push 1 (.int 1)), (64, np_goto 68), (67, np_push 1 (.int 0)), (68, nw_ist 2 9), (70, np_push 1 (.int 0)), (71, nw_ist 2 10), (73, np_ild 2 10), (75, np_ald 1 2), (76, np_push 1 (.int 5)), (77, np_push 2 (.int 6)), (79, np_ild 2 5), (81, np_ib (fun x y => x * y)), (82, np_ib (fun x y => x + y)), (83, nw_ialdT .int), (84, nq_ic (fun x y => y ≤ x) 161), (87, np_ald 1 0), (88, np_ild 2 5), (90, np_ild 2 10), (92, np_ild 1 1), (93, np_push 1 (.int 0)), (94, nw_callVX 11 5 sp_X11_cell 6 1 6 2510 15060 []), (97, np_ild 2 7), (99, nq_icne 106), (102, np_push 1 (.int 1)), (103, np_goto 107), (106, np_push 1 (.int 0)), (107, nw_ist 2 11), (109, np_ild 2 8), (111, np_ild 2 11), (113, nq_if (fun x => x = 0) 127), (116, np_ild 2 10), (118, np_ild 2 6), (120, nq_ic (fun x y => y ≤ x) 127), (123, np_push 1 (.int 1)), (124, np_goto 128), (127, np_push 1 (.int 0)), (128, np_ib (fun x y => x + y)), (129, nw_ist 2 8), (131, np_ild 2 9), (133, nq_if (fun x => x = 0) 152), (136, np_ild 2 11), (138, nq_if (fun x => x = 0) 148), (141, np_ild 2 10), (143, np_ild 2 6), (145, nq_ic (fun x y => y < x) 152), (148, np_push 1 (.int 1)), (149, np_goto 153), (152, np_push 1 (.int 0)), (153, nw_ist 2 9), (155, nw_iinc 10 1), (158, np_goto 73), (161, np_ild 2 7), (163, np_push 2 (.int (-2147483648))), (165, nq_ic (fun x y => x = y) 222), (168, np_ald 1 0), (169, np_ild 2 5), (171, np_ild 1 1), (172, np_ild 2 7), (174, np_ild 2 8), (176, nw_callVX 11 5 sp_X11_find 6 1 6 2510 15060 []), (179, np_ild 2 6), (181, nq_icne 226), (184, np_ald 1 0), (185, np_ild 2 5), (187, np_ild 1 1), (188, np_ild 2 7), (190, np_ild 2 8), (192, nw_callVX 11 5 sp_X11_findAnew 6 1 6 2510 15060 []), (195, np_ild 2 6), (197, nq_icne 226), (200, np_ild 2 9), (202, nq_if (fun x => x = 0) 222), (205, np_ald 1 0), (206, np_ild 2 5), (208, np_ild 1 1), (209, np_ild 2 7), (211, np_ild 2 8), (213, np_push 1 (.int 1)), (214, np_ib (fun x y => x + y)), (215, nw_callVX 11 5 sp_X11_find 6 1 6 2510 15060 []), (218, np_push 1 (.int (-1))), (219, nq_icne 226), (222, np_push 1 (.int 1)), (223, np_goto 227), (226, np_push 1 (.int 0)), (227, nw_ist 2 4), (229, np_push 1 (.int (-1))), (230, nw_ist 2 10), (232, np_push 1 (.int 0)), (233, nw_ist 2 11), (235, np_ild 2 11), (237, np_ald 1 2), (238, np_push 1 (.int 5)), (239, np_push 2 (.int 6)), (241, np_push 1 (.int 1)), (242, np_ild 2 5), (244, np_ib (fun x y => x - y)), (245, np_ib (fun x y => x * y)), (246, np_ib (fun x y => x + y)), (247, nw_ialdT .int), (248, nq_ic (fun x y => y ≤ x) 288), (251, np_ild 2 9), (253, nq_if (fun x => x = 0) 288), (256, np_ald 1 0), (257, np_push 1 (.int 1)), (258, np_ild 2 5), (260, np_ib (fun x y => x - y)), (261, np_ild 2 11), (263, np_ild 1 1), (264, np_push 1 (.int 0)), (265, nw_callVX 11 5 sp_X11_cell 6 1 6 2510 15060 []), (268, np_ild 2 7), (270, nq_icne 278), (273, np_ild 2 11), (275, np_goto 280), (278, np_ild 2 10), (280, nw_ist 2 10), (282, nw_iinc 11 1), (285, np_goto 235), (288, np_push 1 (.int 0)), (289, nw_ist 2 11), (291, np_push 1 (.int 0)), (292, nw_ist 2 12), (294, np_ild 2 12), (296, np_push 2 (.int 24)), (298, nq_ic (fun x y => y ≤ x) 366), (301, np_ild 2 10), (303, nq_if (fun x => x < 0) 366), (306, np_ild 2 9), (308, nq_if (fun x => x = 0) 366), (311, np_ild 2 11), (313, nq_ifne 353), (316, np_ald 1 0), (317, np_ild 2 5), (319, np_ild 2 6), (321, np_ild 2 12), (323, np_push 1 (.int 3)), (324, nq_ibn (fun x y => x / y)), (325, np_ild 2 12), (327, np_push 1 (.int 3)), (328, nq_ibn (fun x y => x - x / y * y)), (329, nw_callVX 11 5 sp_X11_cell 6 1 6 2510 15060 []), (332, np_ald 1 0), (333, np_push 1 (.int 1)), (334, np_ild 2 5), (336, np_ib (fun x y => x - y)), (337, np_ild 2 10), (339, np_ild 2 12), (341, np_push 1 (.int 3)), (342, nq_ibn (fun x y => x / y)), (343, np_ild 2 12), (345, np_push 1 (.int 3)), (346, nq_ibn (fun x y => x - x / y * y)), (347, nw_callVX 11 5 sp_X11_cell 6 1 6 2510 15060 []), (350, nq_ic (fun x y => x = y) 357), (353, np_push 1 (.int 1)), (354, np_goto 358), (357, np_push 1 (.int 0)), (358, nw_ist 2 11), (360, nw_iinc 12 1), (363, np_goto 294), (366, np_ild 1 3), (367, np_ild 2 9), (369, nq_ifne 376), (372, np_push 1 (.int 0)), (373, np_goto 412), (376, np_ild 2 10), (378, nq_if (fun x => 0 ≤ x) 397), (381, np_ild 2 5), (383, nq_ifne 391), (386, np_push 2 (.int 100)), (388, np_goto 412), (391, np_push 3 (.int 10000)), (394, np_goto 412), (397, np_ild 2 11), (399, nq_if (fun x => x = 0) 411), (402, np_ild 2 5), (404, nq_ifne 411), (407, np_push 1 (.int 1)), (408, np_goto 412), (411, np_push 1 (.int 0)), (412, np_ib (fun x y => x + y)), (413, nw_ist 1 3), (414, nw_iinc 6 1), (417, np_goto 22), (420, nw_iinc 5 1), (423, np_goto 8), (426, np_ild 2 4), (428, nq_if (fun x => x = 0) 456), (431, np_ald 1 0), (432, np_ild 1 1), (433, nw_callVX 11 2 sp_X11_compare 4 1 6 2510 15060 []), (436, np_ild 1 3), (437, nq_icne 456), (440, np_ald 1 0), (441, np_push 1 (.int 0)), (442, np_ild 1 1), (443, np_push 1 (.int (-1))), (444, np_push 1 (.int 0)), (445, nw_callVX 11 5 sp_X11_find 6 1 6 2510 15060 []), (448, np_push 1 (.int (-1))), (449, nq_icne 456), (452, np_push 1 (.int 1)), (453, np_goto 457), (456, np_push 1 (.int 0)), (457, np_ret Rt)]
set_option maxRecDepth 20000 in
theorem so_L_areKeys {X : np_Ctx} {Rt : np_Rt} (hX : np_ok RL cL_areKeys 13 7 160 2510 15060 .ireturn X) (hR : ∀ st w ce sl, Rt st w ce sl → X.2.2.1 st w ce sl) : ∀ q ∈ is_L_areKeys Rt, np_S X q.1 q.2 :=
  List.forall_mem_cons.mpr ⟨np_s_iconst hX dL_areKeys_0 (by decide), List.forall_mem_cons.mpr ⟨np_S.mono (op := np_ist 1 3) (np_s_istore_n hX dL_areKeys_1 rfl (by decide)) nw_ist_le, List.forall_mem_cons.mpr ⟨np_s_iconst hX dL_areKeys_2 (by decide), List.forall_mem_cons.mpr ⟨np_S.mono (op := np_ist 2 4) (np_s_istore hX dL_areKeys_3 (by decide)) nw_ist_le, List.forall_mem_cons.mpr ⟨np_s_iconst hX dL_areKeys_5 (by decide), List.forall_mem_cons.mpr ⟨np_S.mono (op := np_ist 2 5) (np_s_istore hX dL_areKeys_6 (by decide)) nw_ist_le, List.forall_mem_cons.mpr ⟨np_s_iload hX dL_areKeys_8, List.forall_mem_cons.mpr ⟨np_s_iconst hX dL_areKeys_10 (by decide), List.forall_mem_cons.mpr ⟨np_S.mono (op := np_ic (fun x y => y ≤ x) 426) (np_s_icmp_ge hX dL_areKeys_11 (by decide)) nq_ic_le, List.forall_mem_cons.mpr ⟨np_s_iload hX dL_areKeys_14, List.forall_mem_cons.mpr ⟨np_S.mono (op := np_if (fun x => x = 0) 426) (np_s_if_eq hX dL_areKeys_16 (by decide)) nq_if_le, List.forall_mem_cons.mpr ⟨np_s_iconst hX dL_areKeys_19 (by decide), List.forall_mem_cons.mpr ⟨np_S.mono (op := np_ist 2 6) (np_s_istore hX dL_areKeys_20 (by decide)) nw_ist_le, List.forall_mem_cons.mpr ⟨np_s_iload hX dL_areKeys_22, List.forall_mem_cons.mpr ⟨np_s_aload_n hX dL_areKeys_24 rfl, List.forall_mem_cons.mpr ⟨np_s_iconst hX dL_areKeys_25 (by decide), List.forall_mem_cons.mpr ⟨np_s_bipush hX dL_areKeys_26 (by decide), List.forall_mem_cons.mpr ⟨np_s_iload hX dL_areKeys_28, List.forall_mem_cons.mpr ⟨np_s_imul hX dL_areKeys_30, List.forall_mem_cons.mpr ⟨np_s_iadd hX dL_areKeys_31, List.forall_mem_cons.mpr ⟨np_S.mono (op := np_ialdT .int) (np_s_iald hX dL_areKeys_32) nw_ialdT_le, List.forall_mem_cons.mpr ⟨np_S.mono (op := np_ic (fun x y => y ≤ x) 420) (np_s_icmp_ge hX dL_areKeys_33 (by decide)) nq_ic_le, List.forall_mem_cons.mpr ⟨np_s_iload hX dL_areKeys_36, List.forall_mem_cons.mpr ⟨np_S.mono (op := np_if (fun x => x = 0) 420) (np_s_if_eq hX dL_areKeys_38 (by decide)) nq_if_le, List.forall_mem_cons.mpr ⟨np_s_aload_n hX dL_areKeys_41 rfl, List.forall_mem_cons.mpr ⟨np_s_iload hX dL_areKeys_42, List.forall_mem_cons.mpr ⟨np_s_iload hX dL_areKeys_44, List.forall_mem_cons.mpr ⟨np_s_iload_n hX dL_areKeys_46 rfl, List.forall_mem_cons.mpr ⟨np_s_iconst hX dL_areKeys_47 (by decide), List.forall_mem_cons.mpr ⟨np_S.mono (op := np_callVX 11 5 sp_X11_cell 6 1 6 2510 15060 []) (np_s_callVX hX C_X11_cell dL_areKeys_48 (q := (RX11, TX11, 14)) rfl rfl gw1264 gw63 gw1261 gw1262 gw1263 ⟨by decide, by decide, by decide⟩ (by decide) (by decide) (fun _ h => nomatch h)) (nw_callVX_le2 (ci := 11) (n := 5) (sp := sp_X11_cell) (maxL := 6) (mc := 1) (ms := 6) (RC := 2510) (RS := 15060) (hs := [])), List.forall_mem_cons.mpr ⟨np_S.mono (op := np_ist 2 7) (np_s_istore hX dL_areKeys_51 (by decide)) nw_ist_le, List.forall_mem_cons.mpr ⟨np_s_iconst hX dL_areKeys_53 (by decide), List.forall_mem_cons.mpr ⟨np_S.mono (op := np_ist 2 8) (np_s_istore hX dL_areKeys_54 (by decide)) nw_ist_le, List.forall_mem_cons.mpr ⟨np_s_iload hX dL_areKeys_56, List.forall_mem_cons.mpr ⟨np_s_ldc hX dL_areKeys_58 gw1266, List.forall_mem_cons.mpr ⟨np_S.mono (op := np_ic (fun x y => x = y) 67) (np_s_icmp_eq hX dL_areKeys_60 (by decide)) nq_ic_le, List.forall_mem_cons.mpr ⟨np_s_iconst hX dL_areKeys_63 (by decide), List.forall_mem_cons.mpr ⟨np_s_goto hX dL_areKeys_64 (by decide), List.forall_mem_cons.mpr ⟨np_s_iconst hX dL_areKeys_67 (by decide), List.forall_mem_cons.mpr ⟨np_S.mono (op := np_ist 2 9) (np_s_istore hX dL_areKeys_68 (by decide)) nw_ist_le, List.forall_mem_cons.mpr ⟨np_s_iconst hX dL_areKeys_70 (by decide), List.forall_mem_cons.mpr ⟨np_S.mono (op := np_ist 2 10) (np_s_istore hX dL_areKeys_71 (by decide)) nw_ist_le, List.forall_mem_cons.mpr ⟨np_s_iload hX dL_areKeys_73, List.forall_mem_cons.mpr ⟨np_s_aload_n hX dL_areKeys_75 rfl, List.forall_mem_cons.mpr ⟨np_s_iconst hX dL_areKeys_76 (by decide), List.forall_mem_cons.mpr ⟨np_s_bipush hX dL_areKeys_77 (by decide), List.forall_mem_cons.mpr ⟨np_s_iload hX dL_areKeys_79, List.forall_mem_cons.mpr ⟨np_s_imul hX dL_areKeys_81, List.forall_mem_cons.mpr ⟨np_s_iadd hX dL_areKeys_82, List.forall_mem_cons.mpr ⟨np_S.mono (op := np_ialdT .int) (np_s_iald hX dL_areKeys_83) nw_ialdT_le, List.forall_mem_cons.mpr ⟨np_S.mono (op := np_ic (fun x y => y ≤ x) 161) (np_s_icmp_ge hX dL_areKeys_84 (by decide)) nq_ic_le, List.forall_mem_cons.mpr ⟨np_s_aload_n hX dL_areKeys_87 rfl, List.forall_mem_cons.mpr ⟨np_s_iload hX dL_areKeys_88, List.forall_mem_cons.mpr ⟨np_s_iload hX dL_areKeys_90, List.forall_mem_cons.mpr ⟨np_s_iload_n hX dL_areKeys_92 rfl, List.forall_mem_cons.mpr ⟨np_s_iconst hX dL_areKeys_93 (by decide), List.forall_mem_cons.mpr ⟨np_S.mono (op := np_callVX 11 5 sp_X11_cell 6 1 6 2510 15060 []) (np_s_callVX hX C_X11_cell dL_areKeys_94 (q := (RX11, TX11, 14)) rfl rfl gw1264 gw63 gw1261 gw1262 gw1263 ⟨by decide, by decide, by decide⟩ (by decide) (by decide) (fun _ h => nomatch h)) (nw_callVX_le2 (ci := 11) (n := 5) (sp := sp_X11_cell) (maxL := 6) (mc := 1) (ms := 6) (RC := 2510) (RS := 15060) (hs := [])), List.forall_mem_cons.mpr ⟨np_s_iload hX dL_areKeys_97, List.forall_mem_cons.mpr ⟨np_S.mono (op := np_icne 106) (np_s_icmp_ne hX dL_areKeys_99 (by decide)) nq_icne_le, List.forall_mem_cons.mpr ⟨np_s_iconst hX dL_areKeys_102 (by decide), List.forall_mem_cons.mpr ⟨np_s_goto hX dL_areKeys_103 (by decide), List.forall_mem_cons.mpr ⟨np_s_iconst hX dL_areKeys_106 (by decide), List.forall_mem_cons.mpr ⟨np_S.mono (op := np_ist 2 11) (np_s_istore hX dL_areKeys_107 (by decide)) nw_ist_le, List.forall_mem_cons.mpr ⟨np_s_iload hX dL_areKeys_109, List.forall_mem_cons.mpr ⟨np_s_iload hX dL_areKeys_111, List.forall_mem_cons.mpr ⟨np_S.mono (op := np_if (fun x => x = 0) 127) (np_s_if_eq hX dL_areKeys_113 (by decide)) nq_if_le, List.forall_mem_cons.mpr ⟨np_s_iload hX dL_areKeys_116, List.forall_mem_cons.mpr ⟨np_s_iload hX dL_areKeys_118, List.forall_mem_cons.mpr ⟨np_S.mono (op := np_ic (fun x y => y ≤ x) 127) (np_s_icmp_ge hX dL_areKeys_120 (by decide)) nq_ic_le, List.forall_mem_cons.mpr ⟨np_s_iconst hX dL_areKeys_123 (by decide), List.forall_mem_cons.mpr ⟨np_s_goto hX dL_areKeys_124 (by decide), List.forall_mem_cons.mpr ⟨np_s_iconst hX dL_areKeys_127 (by decide), List.forall_mem_cons.mpr ⟨np_s_iadd hX dL_areKeys_128, List.forall_mem_cons.mpr ⟨np_S.mono (op := np_ist 2 8) (np_s_istore hX dL_areKeys_129 (by decide)) nw_ist_le, List.forall_mem_cons.mpr ⟨np_s_iload hX dL_areKeys_131, List.forall_mem_cons.mpr ⟨np_S.mono (op := np_if (fun x => x = 0) 152) (np_s_if_eq hX dL_areKeys_133 (by decide)) nq_if_le, List.forall_mem_cons.mpr ⟨np_s_iload hX dL_areKeys_136, List.forall_mem_cons.mpr ⟨np_S.mono (op := np_if (fun x => x = 0) 148) (np_s_if_eq hX dL_areKeys_138 (by decide)) nq_if_le, List.forall_mem_cons.mpr ⟨np_s_iload hX dL_areKeys_141, List.forall_mem_cons.mpr ⟨np_s_iload hX dL_areKeys_143, List.forall_mem_cons.mpr ⟨np_S.mono (op := np_ic (fun x y => y < x) 152) (np_s_icmp_gt hX dL_areKeys_145 (by decide)) nq_ic_le, List.forall_mem_cons.mpr ⟨np_s_iconst hX dL_areKeys_148 (by decide), List.forall_mem_cons.mpr ⟨np_s_goto hX dL_areKeys_149 (by decide), List.forall_mem_cons.mpr ⟨np_s_iconst hX dL_areKeys_152 (by decide), List.forall_mem_cons.mpr ⟨np_S.mono (op := np_ist 2 9) (np_s_istore hX dL_areKeys_153 (by decide)) nw_ist_le, List.forall_mem_cons.mpr ⟨np_S.mono (op := np_iinc 10 1) (np_s_iinc hX dL_areKeys_155 (by decide)) nw_iinc_le, List.forall_mem_cons.mpr ⟨np_s_goto hX dL_areKeys_158 (by decide), List.forall_mem_cons.mpr ⟨np_s_iload hX dL_areKeys_161, List.forall_mem_cons.mpr ⟨np_s_ldc hX dL_areKeys_163 gw1266, List.forall_mem_cons.mpr ⟨np_S.mono (op := np_ic (fun x y => x = y) 222) (np_s_icmp_eq hX dL_areKeys_165 (by decide)) nq_ic_le, List.forall_mem_cons.mpr ⟨np_s_aload_n hX dL_areKeys_168 rfl, List.forall_mem_cons.mpr ⟨np_s_iload hX dL_areKeys_169, List.forall_mem_cons.mpr ⟨np_s_iload_n hX dL_areKeys_171 rfl, List.forall_mem_cons.mpr ⟨np_s_iload hX dL_areKeys_172, List.forall_mem_cons.mpr ⟨np_s_iload hX dL_areKeys_174, List.forall_mem_cons.mpr ⟨np_S.mono (op := np_callVX 11 5 sp_X11_find 6 1 6 2510 15060 []) (np_s_callVX hX C_X11_find dL_areKeys_176 (q := (RX11, TX11, 14)) rfl rfl gw1456 gw63 gw1453 gw1454 gw1455 ⟨by decide, by decide, by decide⟩ (by decide) (by decide) (fun _ h => nomatch h)) (nw_callVX_le2 (ci := 11) (n := 5) (sp := sp_X11_find) (maxL := 6) (mc := 1) (ms := 6) (RC := 2510) (RS := 15060) (hs := [])), List.forall_mem_cons.mpr ⟨np_s_iload hX dL_areKeys_179, List.forall_mem_cons.mpr ⟨np_S.mono (op := np_icne 226) (np_s_icmp_ne hX dL_areKeys_181 (by decide)) nq_icne_le, List.forall_mem_cons.mpr ⟨np_s_aload_n hX dL_areKeys_184 rfl, List.forall_mem_cons.mpr ⟨np_s_iload hX dL_areKeys_185, List.forall_mem_cons.mpr ⟨np_s_iload_n hX dL_areKeys_187 rfl, List.forall_mem_cons.mpr ⟨np_s_iload hX dL_areKeys_188, List.forall_mem_cons.mpr ⟨np_s_iload hX dL_areKeys_190, List.forall_mem_cons.mpr ⟨np_S.mono (op := np_callVX 11 5 sp_X11_findAnew 6 1 6 2510 15060 []) (np_s_callVX hX C_X11_findAnew dL_areKeys_192 (q := (RX11, TX11, 14)) rfl rfl gw1465 gw63 gw1462 gw1463 gw1464 ⟨by decide, by decide, by decide⟩ (by decide) (by decide) (fun _ h => nomatch h)) (nw_callVX_le2 (ci := 11) (n := 5) (sp := sp_X11_findAnew) (maxL := 6) (mc := 1) (ms := 6) (RC := 2510) (RS := 15060) (hs := [])), List.forall_mem_cons.mpr ⟨np_s_iload hX dL_areKeys_195, List.forall_mem_cons.mpr ⟨np_S.mono (op := np_icne 226) (np_s_icmp_ne hX dL_areKeys_197 (by decide)) nq_icne_le, List.forall_mem_cons.mpr ⟨np_s_iload hX dL_areKeys_200, List.forall_mem_cons.mpr ⟨np_S.mono (op := np_if (fun x => x = 0) 222) (np_s_if_eq hX dL_areKeys_202 (by decide)) nq_if_le, List.forall_mem_cons.mpr ⟨np_s_aload_n hX dL_areKeys_205 rfl, List.forall_mem_cons.mpr ⟨np_s_iload hX dL_areKeys_206, List.forall_mem_cons.mpr ⟨np_s_iload_n hX dL_areKeys_208 rfl, List.forall_mem_cons.mpr ⟨np_s_iload hX dL_areKeys_209, List.forall_mem_cons.mpr ⟨np_s_iload hX dL_areKeys_211, List.forall_mem_cons.mpr ⟨np_s_iconst hX dL_areKeys_213 (by decide), List.forall_mem_cons.mpr ⟨np_s_iadd hX dL_areKeys_214, List.forall_mem_cons.mpr ⟨np_S.mono (op := np_callVX 11 5 sp_X11_find 6 1 6 2510 15060 []) (np_s_callVX hX C_X11_find dL_areKeys_215 (q := (RX11, TX11, 14)) rfl rfl gw1456 gw63 gw1453 gw1454 gw1455 ⟨by decide, by decide, by decide⟩ (by decide) (by decide) (fun _ h => nomatch h)) (nw_callVX_le2 (ci := 11) (n := 5) (sp := sp_X11_find) (maxL := 6) (mc := 1) (ms := 6) (RC := 2510) (RS := 15060) (hs := [])), List.forall_mem_cons.mpr ⟨np_s_iconst hX dL_areKeys_218 (by decide), List.forall_mem_cons.mpr ⟨np_S.mono (op := np_icne 226) (np_s_icmp_ne hX dL_areKeys_219 (by decide)) nq_icne_le, List.forall_mem_cons.mpr ⟨np_s_iconst hX dL_areKeys_222 (by decide), List.forall_mem_cons.mpr ⟨np_s_goto hX dL_areKeys_223 (by decide), List.forall_mem_cons.mpr ⟨np_s_iconst hX dL_areKeys_226 (by decide), List.forall_mem_cons.mpr ⟨np_S.mono (op := np_ist 2 4) (np_s_istore hX dL_areKeys_227 (by decide)) nw_ist_le, List.forall_mem_cons.mpr ⟨np_s_iconst hX dL_areKeys_229 (by decide), List.forall_mem_cons.mpr ⟨np_S.mono (op := np_ist 2 10) (np_s_istore hX dL_areKeys_230 (by decide)) nw_ist_le, List.forall_mem_cons.mpr ⟨np_s_iconst hX dL_areKeys_232 (by decide), List.forall_mem_cons.mpr ⟨np_S.mono (op := np_ist 2 11) (np_s_istore hX dL_areKeys_233 (by decide)) nw_ist_le, List.forall_mem_cons.mpr ⟨np_s_iload hX dL_areKeys_235, List.forall_mem_cons.mpr ⟨np_s_aload_n hX dL_areKeys_237 rfl, List.forall_mem_cons.mpr ⟨np_s_iconst hX dL_areKeys_238 (by decide), List.forall_mem_cons.mpr ⟨np_s_bipush hX dL_areKeys_239 (by decide), List.forall_mem_cons.mpr ⟨np_s_iconst hX dL_areKeys_241 (by decide), List.forall_mem_cons.mpr ⟨np_s_iload hX dL_areKeys_242, List.forall_mem_cons.mpr ⟨np_s_isub hX dL_areKeys_244, List.forall_mem_cons.mpr ⟨np_s_imul hX dL_areKeys_245, List.forall_mem_cons.mpr ⟨np_s_iadd hX dL_areKeys_246, List.forall_mem_cons.mpr ⟨np_S.mono (op := np_ialdT .int) (np_s_iald hX dL_areKeys_247) nw_ialdT_le, List.forall_mem_cons.mpr ⟨np_S.mono (op := np_ic (fun x y => y ≤ x) 288) (np_s_icmp_ge hX dL_areKeys_248 (by decide)) nq_ic_le, List.forall_mem_cons.mpr ⟨np_s_iload hX dL_areKeys_251, List.forall_mem_cons.mpr ⟨np_S.mono (op := np_if (fun x => x = 0) 288) (np_s_if_eq hX dL_areKeys_253 (by decide)) nq_if_le, List.forall_mem_cons.mpr ⟨np_s_aload_n hX dL_areKeys_256 rfl, List.forall_mem_cons.mpr ⟨np_s_iconst hX dL_areKeys_257 (by decide), List.forall_mem_cons.mpr ⟨np_s_iload hX dL_areKeys_258, List.forall_mem_cons.mpr ⟨np_s_isub hX dL_areKeys_260, List.forall_mem_cons.mpr ⟨np_s_iload hX dL_areKeys_261, List.forall_mem_cons.mpr ⟨np_s_iload_n hX dL_areKeys_263 rfl, List.forall_mem_cons.mpr ⟨np_s_iconst hX dL_areKeys_264 (by decide), List.forall_mem_cons.mpr ⟨np_S.mono (op := np_callVX 11 5 sp_X11_cell 6 1 6 2510 15060 []) (np_s_callVX hX C_X11_cell dL_areKeys_265 (q := (RX11, TX11, 14)) rfl rfl gw1264 gw63 gw1261 gw1262 gw1263 ⟨by decide, by decide, by decide⟩ (by decide) (by decide) (fun _ h => nomatch h)) (nw_callVX_le2 (ci := 11) (n := 5) (sp := sp_X11_cell) (maxL := 6) (mc := 1) (ms := 6) (RC := 2510) (RS := 15060) (hs := [])), List.forall_mem_cons.mpr ⟨np_s_iload hX dL_areKeys_268, List.forall_mem_cons.mpr ⟨np_S.mono (op := np_icne 278) (np_s_icmp_ne hX dL_areKeys_270 (by decide)) nq_icne_le, List.forall_mem_cons.mpr ⟨np_s_iload hX dL_areKeys_273, List.forall_mem_cons.mpr ⟨np_s_goto hX dL_areKeys_275 (by decide), List.forall_mem_cons.mpr ⟨np_s_iload hX dL_areKeys_278, List.forall_mem_cons.mpr ⟨np_S.mono (op := np_ist 2 10) (np_s_istore hX dL_areKeys_280 (by decide)) nw_ist_le, List.forall_mem_cons.mpr ⟨np_S.mono (op := np_iinc 11 1) (np_s_iinc hX dL_areKeys_282 (by decide)) nw_iinc_le, List.forall_mem_cons.mpr ⟨np_s_goto hX dL_areKeys_285 (by decide), List.forall_mem_cons.mpr ⟨np_s_iconst hX dL_areKeys_288 (by decide), List.forall_mem_cons.mpr ⟨np_S.mono (op := np_ist 2 11) (np_s_istore hX dL_areKeys_289 (by decide)) nw_ist_le, List.forall_mem_cons.mpr ⟨np_s_iconst hX dL_areKeys_291 (by decide), List.forall_mem_cons.mpr ⟨np_S.mono (op := np_ist 2 12) (np_s_istore hX dL_areKeys_292 (by decide)) nw_ist_le, List.forall_mem_cons.mpr ⟨np_s_iload hX dL_areKeys_294, List.forall_mem_cons.mpr ⟨np_s_bipush hX dL_areKeys_296 (by decide), List.forall_mem_cons.mpr ⟨np_S.mono (op := np_ic (fun x y => y ≤ x) 366) (np_s_icmp_ge hX dL_areKeys_298 (by decide)) nq_ic_le, List.forall_mem_cons.mpr ⟨np_s_iload hX dL_areKeys_301, List.forall_mem_cons.mpr ⟨np_S.mono (op := np_if (fun x => x < 0) 366) (np_s_if_lt hX dL_areKeys_303 (by decide)) nq_if_le, List.forall_mem_cons.mpr ⟨np_s_iload hX dL_areKeys_306, List.forall_mem_cons.mpr ⟨np_S.mono (op := np_if (fun x => x = 0) 366) (np_s_if_eq hX dL_areKeys_308 (by decide)) nq_if_le, List.forall_mem_cons.mpr ⟨np_s_iload hX dL_areKeys_311, List.forall_mem_cons.mpr ⟨np_S.mono (op := np_ifne 353) (np_s_if_ne hX dL_areKeys_313 (by decide)) nq_ifne_le, List.forall_mem_cons.mpr ⟨np_s_aload_n hX dL_areKeys_316 rfl, List.forall_mem_cons.mpr ⟨np_s_iload hX dL_areKeys_317, List.forall_mem_cons.mpr ⟨np_s_iload hX dL_areKeys_319, List.forall_mem_cons.mpr ⟨np_s_iload hX dL_areKeys_321, List.forall_mem_cons.mpr ⟨np_s_iconst hX dL_areKeys_323 (by decide), List.forall_mem_cons.mpr ⟨np_S.mono (op := np_ibn (fun x y => x / y)) (np_s_idiv hX dL_areKeys_324) nq_ibn_le, List.forall_mem_cons.mpr ⟨np_s_iload hX dL_areKeys_325, List.forall_mem_cons.mpr ⟨np_s_iconst hX dL_areKeys_327 (by decide), List.forall_mem_cons.mpr ⟨np_S.mono (op := np_ibn (fun x y => x - x / y * y)) (np_s_irem hX dL_areKeys_328) nq_ibn_le, List.forall_mem_cons.mpr ⟨np_S.mono (op := np_callVX 11 5 sp_X11_cell 6 1 6 2510 15060 []) (np_s_callVX hX C_X11_cell dL_areKeys_329 (q := (RX11, TX11, 14)) rfl rfl gw1264 gw63 gw1261 gw1262 gw1263 ⟨by decide, by decide, by decide⟩ (by decide) (by decide) (fun _ h => nomatch h)) (nw_callVX_le2 (ci := 11) (n := 5) (sp := sp_X11_cell) (maxL := 6) (mc := 1) (ms := 6) (RC := 2510) (RS := 15060) (hs := [])), List.forall_mem_cons.mpr ⟨np_s_aload_n hX dL_areKeys_332 rfl, List.forall_mem_cons.mpr ⟨np_s_iconst hX dL_areKeys_333 (by decide), List.forall_mem_cons.mpr ⟨np_s_iload hX dL_areKeys_334, List.forall_mem_cons.mpr ⟨np_s_isub hX dL_areKeys_336, List.forall_mem_cons.mpr ⟨np_s_iload hX dL_areKeys_337, List.forall_mem_cons.mpr ⟨np_s_iload hX dL_areKeys_339, List.forall_mem_cons.mpr ⟨np_s_iconst hX dL_areKeys_341 (by decide), List.forall_mem_cons.mpr ⟨np_S.mono (op := np_ibn (fun x y => x / y)) (np_s_idiv hX dL_areKeys_342) nq_ibn_le, List.forall_mem_cons.mpr ⟨np_s_iload hX dL_areKeys_343, List.forall_mem_cons.mpr ⟨np_s_iconst hX dL_areKeys_345 (by decide), List.forall_mem_cons.mpr ⟨np_S.mono (op := np_ibn (fun x y => x - x / y * y)) (np_s_irem hX dL_areKeys_346) nq_ibn_le, List.forall_mem_cons.mpr ⟨np_S.mono (op := np_callVX 11 5 sp_X11_cell 6 1 6 2510 15060 []) (np_s_callVX hX C_X11_cell dL_areKeys_347 (q := (RX11, TX11, 14)) rfl rfl gw1264 gw63 gw1261 gw1262 gw1263 ⟨by decide, by decide, by decide⟩ (by decide) (by decide) (fun _ h => nomatch h)) (nw_callVX_le2 (ci := 11) (n := 5) (sp := sp_X11_cell) (maxL := 6) (mc := 1) (ms := 6) (RC := 2510) (RS := 15060) (hs := [])), List.forall_mem_cons.mpr ⟨np_S.mono (op := np_ic (fun x y => x = y) 357) (np_s_icmp_eq hX dL_areKeys_350 (by decide)) nq_ic_le, List.forall_mem_cons.mpr ⟨np_s_iconst hX dL_areKeys_353 (by decide), List.forall_mem_cons.mpr ⟨np_s_goto hX dL_areKeys_354 (by decide), List.forall_mem_cons.mpr ⟨np_s_iconst hX dL_areKeys_357 (by decide), List.forall_mem_cons.mpr ⟨np_S.mono (op := np_ist 2 11) (np_s_istore hX dL_areKeys_358 (by decide)) nw_ist_le, List.forall_mem_cons.mpr ⟨np_S.mono (op := np_iinc 12 1) (np_s_iinc hX dL_areKeys_360 (by decide)) nw_iinc_le, List.forall_mem_cons.mpr ⟨np_s_goto hX dL_areKeys_363 (by decide), List.forall_mem_cons.mpr ⟨np_s_iload_n hX dL_areKeys_366 rfl, List.forall_mem_cons.mpr ⟨np_s_iload hX dL_areKeys_367, List.forall_mem_cons.mpr ⟨np_S.mono (op := np_ifne 376) (np_s_if_ne hX dL_areKeys_369 (by decide)) nq_ifne_le, List.forall_mem_cons.mpr ⟨np_s_iconst hX dL_areKeys_372 (by decide), List.forall_mem_cons.mpr ⟨np_s_goto hX dL_areKeys_373 (by decide), List.forall_mem_cons.mpr ⟨np_s_iload hX dL_areKeys_376, List.forall_mem_cons.mpr ⟨np_S.mono (op := np_if (fun x => 0 ≤ x) 397) (np_s_if_ge hX dL_areKeys_378 (by decide)) nq_if_le, List.forall_mem_cons.mpr ⟨np_s_iload hX dL_areKeys_381, List.forall_mem_cons.mpr ⟨np_S.mono (op := np_ifne 391) (np_s_if_ne hX dL_areKeys_383 (by decide)) nq_ifne_le, List.forall_mem_cons.mpr ⟨np_s_bipush hX dL_areKeys_386 (by decide), List.forall_mem_cons.mpr ⟨np_s_goto hX dL_areKeys_388 (by decide), List.forall_mem_cons.mpr ⟨np_s_sipush hX dL_areKeys_391 (by decide), List.forall_mem_cons.mpr ⟨np_s_goto hX dL_areKeys_394 (by decide), List.forall_mem_cons.mpr ⟨np_s_iload hX dL_areKeys_397, List.forall_mem_cons.mpr ⟨np_S.mono (op := np_if (fun x => x = 0) 411) (np_s_if_eq hX dL_areKeys_399 (by decide)) nq_if_le, List.forall_mem_cons.mpr ⟨np_s_iload hX dL_areKeys_402, List.forall_mem_cons.mpr ⟨np_S.mono (op := np_ifne 411) (np_s_if_ne hX dL_areKeys_404 (by decide)) nq_ifne_le, List.forall_mem_cons.mpr ⟨np_s_iconst hX dL_areKeys_407 (by decide), List.forall_mem_cons.mpr ⟨np_s_goto hX dL_areKeys_408 (by decide), List.forall_mem_cons.mpr ⟨np_s_iconst hX dL_areKeys_411 (by decide), List.forall_mem_cons.mpr ⟨np_s_iadd hX dL_areKeys_412, List.forall_mem_cons.mpr ⟨np_S.mono (op := np_ist 1 3) (np_s_istore_n hX dL_areKeys_413 rfl (by decide)) nw_ist_le, List.forall_mem_cons.mpr ⟨np_S.mono (op := np_iinc 6 1) (np_s_iinc hX dL_areKeys_414 (by decide)) nw_iinc_le, List.forall_mem_cons.mpr ⟨np_s_goto hX dL_areKeys_417 (by decide), List.forall_mem_cons.mpr ⟨np_S.mono (op := np_iinc 5 1) (np_s_iinc hX dL_areKeys_420 (by decide)) nw_iinc_le, List.forall_mem_cons.mpr ⟨np_s_goto hX dL_areKeys_423 (by decide), List.forall_mem_cons.mpr ⟨np_s_iload hX dL_areKeys_426, List.forall_mem_cons.mpr ⟨np_S.mono (op := np_if (fun x => x = 0) 456) (np_s_if_eq hX dL_areKeys_428 (by decide)) nq_if_le, List.forall_mem_cons.mpr ⟨np_s_aload_n hX dL_areKeys_431 rfl, List.forall_mem_cons.mpr ⟨np_s_iload_n hX dL_areKeys_432 rfl, List.forall_mem_cons.mpr ⟨np_S.mono (op := np_callVX 11 2 sp_X11_compare 4 1 6 2510 15060 []) (np_s_callVX hX C_X11_compare dL_areKeys_433 (q := (RX11, TX11, 14)) rfl rfl gw1473 gw63 gw1470 gw1471 gw1472 ⟨by decide, by decide, by decide⟩ (by decide) (by decide) (fun _ h => nomatch h)) (nw_callVX_le2 (ci := 11) (n := 2) (sp := sp_X11_compare) (maxL := 4) (mc := 1) (ms := 6) (RC := 2510) (RS := 15060) (hs := [])), List.forall_mem_cons.mpr ⟨np_s_iload_n hX dL_areKeys_436 rfl, List.forall_mem_cons.mpr ⟨np_S.mono (op := np_icne 456) (np_s_icmp_ne hX dL_areKeys_437 (by decide)) nq_icne_le, List.forall_mem_cons.mpr ⟨np_s_aload_n hX dL_areKeys_440 rfl, List.forall_mem_cons.mpr ⟨np_s_iconst hX dL_areKeys_441 (by decide), List.forall_mem_cons.mpr ⟨np_s_iload_n hX dL_areKeys_442 rfl, List.forall_mem_cons.mpr ⟨np_s_iconst hX dL_areKeys_443 (by decide), List.forall_mem_cons.mpr ⟨np_s_iconst hX dL_areKeys_444 (by decide), List.forall_mem_cons.mpr ⟨np_S.mono (op := np_callVX 11 5 sp_X11_find 6 1 6 2510 15060 []) (np_s_callVX hX C_X11_find dL_areKeys_445 (q := (RX11, TX11, 14)) rfl rfl gw1456 gw63 gw1453 gw1454 gw1455 ⟨by decide, by decide, by decide⟩ (by decide) (by decide) (fun _ h => nomatch h)) (nw_callVX_le2 (ci := 11) (n := 5) (sp := sp_X11_find) (maxL := 6) (mc := 1) (ms := 6) (RC := 2510) (RS := 15060) (hs := [])), List.forall_mem_cons.mpr ⟨np_s_iconst hX dL_areKeys_448 (by decide), List.forall_mem_cons.mpr ⟨np_S.mono (op := np_icne 456) (np_s_icmp_ne hX dL_areKeys_449 (by decide)) nq_icne_le, List.forall_mem_cons.mpr ⟨np_s_iconst hX dL_areKeys_452 (by decide), List.forall_mem_cons.mpr ⟨np_s_goto hX dL_areKeys_453 (by decide), List.forall_mem_cons.mpr ⟨np_s_iconst hX dL_areKeys_456 (by decide), List.forall_mem_cons.mpr ⟨np_S.mono (op := np_ret X.2.2.1) (np_s_ret hX dL_areKeys_457) (nq_ret_le hR), fun _ h => nomatch h⟩⟩⟩⟩⟩⟩⟩⟩⟩⟩⟩⟩⟩⟩⟩⟩⟩⟩⟩⟩⟩⟩⟩⟩⟩⟩⟩⟩⟩⟩⟩⟩⟩⟩⟩⟩⟩⟩⟩⟩⟩⟩⟩⟩⟩⟩⟩⟩⟩⟩⟩⟩⟩⟩⟩⟩⟩⟩⟩⟩⟩⟩⟩⟩⟩⟩⟩⟩⟩⟩⟩⟩⟩⟩⟩⟩⟩⟩⟩⟩⟩⟩⟩⟩⟩⟩⟩⟩⟩⟩⟩⟩⟩⟩⟩⟩⟩⟩⟩⟩⟩⟩⟩⟩⟩⟩⟩⟩⟩⟩⟩⟩⟩⟩⟩⟩⟩⟩⟩⟩⟩⟩⟩⟩⟩⟩⟩⟩⟩⟩⟩⟩⟩⟩⟩⟩⟩⟩⟩⟩⟩⟩⟩⟩⟩⟩⟩⟩⟩⟩⟩⟩⟩⟩⟩⟩⟩⟩⟩⟩⟩⟩⟩⟩⟩⟩⟩⟩⟩⟩⟩⟩⟩⟩⟩⟩⟩⟩⟩⟩⟩⟩⟩⟩⟩⟩⟩⟩⟩⟩⟩⟩⟩⟩⟩⟩⟩⟩⟩⟩⟩⟩⟩⟩⟩⟩⟩⟩⟩⟩⟩⟩⟩⟩⟩⟩⟩⟩⟩⟩⟩⟩⟩⟩⟩⟩⟩⟩⟩⟩⟩⟩⟩⟩⟩⟩⟩⟩⟩⟩⟩⟩
noncomputable def m_L_areKeys_235 (k288 : pw_S → Nat → Int32 → Nat → Nat → Int32 → Int32 → Int32 → Int32 → Int32 → Int32 → pw_R Int32) : Nat → pw_S → Nat → Int32 → Nat → Nat → Int32 → Int32 → Int32 → Int32 → Int32 → Int32 → Int32 → Int32 → pw_R Int32
| 0, _, _, _, _, _, _, _, _, _, _, _, _, _ => none
| N + 1, S, v0, v1, va2, vi2, v3, v4, v5, v6, v7, v9, v10, v11 =>
 pw_c (np_inb (5 + (6 * (1 - v5))) (pw_len va2)) <|
 if (S va2 vi2 ((5 + (6 * (1 - v5))) : Int32).toNatClampNeg) ≤ v11 then
 (k288 S v0 v1 va2 vi2 v3 v4 v5 v6 v9 v10)
 else
 (if v9 = 0 then
 (k288 S v0 v1 va2 vi2 v3 v4 v5 v6 v9 v10)
 else
 (pw_b (m_X11_cell S v0 (1 - v5) v11 v1 0) fun S1 r4 =>
 pw_e r4 (fun r6 =>
 (if r6 = v7 then
 (pw_l (v11 : Int32) fun z8 =>
 pw_l (v11 + 1 : Int32) fun z9 =>
 m_L_areKeys_235 k288 N S1 v0 v1 va2 vi2 v3 v4 v5 v6 v7 v9 z8 z9)
 else
 (pw_l (v10 : Int32) fun z10 =>
 pw_l (v11 + 1 : Int32) fun z11 =>
 m_L_areKeys_235 k288 N S1 v0 v1 va2 vi2 v3 v4 v5 v6 v7 v9 z10 z11))) (fun _ => none)))
set_option maxRecDepth 100000 in
set_option maxHeartbeats 8000000 in
theorem L_L_areKeys_235 {X : np_Ctx} (hX : np_ok RL cL_areKeys 13 7 160 2510 15060 .ireturn X) {Q : Option Value → np_W → Prop} {q : Nat} {n dc ds : Nat} (hR : ∀ st w ce sl, np_rt (some .boolean) 2510 15060 Q st w ce sl → X.2.2.1 st w ce sl) {k288 : pw_S → Nat → Int32 → Nat → Nat → Int32 → Int32 → Int32 → Int32 → Int32 → Int32 → pw_R Int32} (hk288 : ∀ (S : pw_S) (v0 : Nat) (v1 : Int32) (va2 : Nat) (vi2 : Nat) (v3 : Int32) (v4 : Int32) (v5 : Int32) (v6 : Int32) (v9 : Int32) (v10 : Int32) (f : Nat → Option np_E) (ce sl : Nat) (hv0 : pw_ok q 61 v0 = true) (ha2 : pw_arr va2 = true) (hi2 : pw_ok q va2 vi2 = true), ce + dc ≤ 2510 → sl + ds ≤ 15060 → pw_W q (n, f) S → pw_p (k288 S v0 v1 va2 vi2 v3 v4 v5 v6 v9 v10) (fun S' r => ∀ f', pw_W q (n, f') S' → Q (some (.int r)) (n, f')) → np_G X 288 [(0, .ref (pw_pl 61 v0)), (1, .int v1), (2, .ref (pw_pl va2 vi2)), (3, .int v3), (4, .int v4), (5, .int v5), (6, .int v6), (9, .int v9), (10, .int v10)] [] (n, f) ce sl) : ∀ (N : Nat) (S : pw_S) (v0 : Nat) (v1 : Int32) (va2 : Nat) (vi2 : Nat) (v3 : Int32) (v4 : Int32) (v5 : Int32) (v6 : Int32) (v7 : Int32) (v9 : Int32) (v10 : Int32) (v11 : Int32) (f : Nat → Option np_E) (ce sl : Nat) (hv0 : pw_ok q 61 v0 = true) (ha2 : pw_arr va2 = true) (hi2 : pw_ok q va2 vi2 = true), ce + N * 1 + dc ≤ 2510 → sl + N * 6 + ds ≤ 15060 → pw_W q (n, f) S → pw_p (m_L_areKeys_235 k288 N S v0 v1 va2 vi2 v3 v4 v5 v6 v7 v9 v10 v11) (fun S' r => ∀ f', pw_W q (n, f') S' → Q (some (.int r)) (n, f')) → np_G X 235 [(0, .ref (pw_pl 61 v0)), (1, .int v1), (2, .ref (pw_pl va2 vi2)), (3, .int v3), (4, .int v4), (5, .int v5), (6, .int v6), (7, .int v7), (9, .int v9), (10, .int v10), (11, .int v11)] [] (n, f) ce sl := by
  intro N
  induction N with
  | zero =>
    intro S v0 v1 va2 vi2 v3 v4 v5 v6 v7 v9 v10 v11 f ce sl hv0 ha2 hi2 hc hs hW h
    exact (pw_pn h).elim
  | succ N ih =>
    intro S v0 v1 va2 vi2 v3 v4 v5 v6 v7 v9 v10 v11 f ce sl hv0 ha2 hi2 hc hs hW h
    unfold m_L_areKeys_235 at h
    refine np_soundW (so_L_areKeys hX hR) [8, 22, 73, 107, 128, 161, 235, 288, 294, 366, 426] 400 235 _ _ _ _ _ ?_
    conv => whnf
    refine np_rd_i (hW.ga ha2 hi2) ?_
    conv => whnf
    refine pw_ck h (fun _ h => ?_)
    conv => whnf
    refine pw_br h (fun _ h => ?_) (fun _ h => ?_)
    · conv => whnf
      exact np_gl (hk288 S v0 v1 va2 vi2 v3 v4 v5 v6 v9 v10 f _ _ hv0 ha2 hi2 (by omega) (by omega) hW h) ⟨rfl, rfl, rfl, rfl, rfl, rfl, rfl, rfl, rfl, trivial⟩
    · conv => whnf
      refine pw_br h (fun _ h => ?_) (fun _ h => ?_)
      · conv => whnf
        exact np_gl (hk288 S v0 v1 va2 vi2 v3 v4 v5 v6 v9 v10 f _ _ hv0 ha2 hi2 (by omega) (by omega) hW h) ⟨rfl, rfl, rfl, rfl, rfl, rfl, rfl, rfl, rfl, trivial⟩
      · conv => whnf
        refine np_rd_i (hW.g hv0) ?_
        conv => whnf
        refine np_chk_i (pw_and rfl (pw_and rfl (pw_and rfl (pw_and rfl ((pw_and (pw_le (by omega)) (pw_le (by omega)))))))) ?_
        conv => whnf
        refine ⟨q, S, v0, (1 - v5), v11, v1, 0, rfl, hv0, hW, pw_bd h (fun S1 r4 h f2 hW3 => ?_)⟩
        rcases r4 with r6 | e7
        · replace h := pw_ei h
          conv => whnf
          refine pw_br h (fun _ h => ?_) (fun _ h => ?_)
          · conv => whnf
            refine pw_st h (fun z8 h => ?_)
            conv => whnf
            refine pw_st h (fun z9 h => ?_)
            conv => whnf
            exact np_gl (ih S1 v0 v1 va2 vi2 v3 v4 v5 v6 v7 v9 z8 z9 f2 _ _ hv0 ha2 hi2 (by omega) (by omega) hW3 h) ⟨rfl, rfl, rfl, rfl, rfl, rfl, rfl, rfl, rfl, rfl, rfl, trivial⟩
          · conv => whnf
            refine pw_st h (fun z10 h => ?_)
            conv => whnf
            refine pw_st h (fun z11 h => ?_)
            conv => whnf
            exact np_gl (ih S1 v0 v1 va2 vi2 v3 v4 v5 v6 v7 v9 z10 z11 f2 _ _ hv0 ha2 hi2 (by omega) (by omega) hW3 h) ⟨rfl, rfl, rfl, rfl, rfl, rfl, rfl, rfl, rfl, rfl, rfl, trivial⟩
        · exact (pw_pn h).elim
noncomputable def m_L_areKeys_294 (k366 : pw_S → Nat → Int32 → Nat → Nat → Int32 → Int32 → Int32 → Int32 → Int32 → Int32 → Int32 → pw_R Int32) : Nat → pw_S → Nat → Int32 → Nat → Nat → Int32 → Int32 → Int32 → Int32 → Int32 → Int32 → Int32 → Int32 → pw_R Int32
| 0, _, _, _, _, _, _, _, _, _, _, _, _, _ => none
| N + 1, S, v0, v1, va2, vi2, v3, v4, v5, v6, v9, v10, v11, v12 =>
 if 24 ≤ v12 then
 (k366 S v0 v1 va2 vi2 v3 v4 v5 v6 v9 v10 v11)
 else
 (if v10 < 0 then
 (k366 S v0 v1 va2 vi2 v3 v4 v5 v6 v9 v10 v11)
 else
 (if v9 = 0 then
 (k366 S v0 v1 va2 vi2 v3 v4 v5 v6 v9 v10 v11)
 else
 (if v11 = 0 then
 (pw_b (m_X11_cell S v0 v5 v6 (v12 / 3) (v12 - v12 / 3 * 3)) fun S12 r15 =>
 pw_e r15 (fun r17 =>
 (pw_b (m_X11_cell S12 v0 (1 - v5) v10 (v12 / 3) (v12 - v12 / 3 * 3)) fun S19 r22 =>
 pw_e r22 (fun r24 =>
 (if r17 = r24 then
 (pw_l (0 : Int32) fun z26 =>
 pw_l (v12 + 1 : Int32) fun z27 =>
 m_L_areKeys_294 k366 N S19 v0 v1 va2 vi2 v3 v4 v5 v6 v9 v10 z26 z27)
 else
 (pw_l (1 : Int32) fun z28 =>
 pw_l (v12 + 1 : Int32) fun z29 =>
 m_L_areKeys_294 k366 N S19 v0 v1 va2 vi2 v3 v4 v5 v6 v9 v10 z28 z29))) (fun _ => none))) (fun _ => none))
 else
 (pw_l (1 : Int32) fun z30 =>
 pw_l (v12 + 1 : Int32) fun z31 =>
 m_L_areKeys_294 k366 N S v0 v1 va2 vi2 v3 v4 v5 v6 v9 v10 z30 z31))))
set_option maxRecDepth 100000 in
set_option maxHeartbeats 8000000 in
theorem L_L_areKeys_294 {X : np_Ctx} (hX : np_ok RL cL_areKeys 13 7 160 2510 15060 .ireturn X) {Q : Option Value → np_W → Prop} {q : Nat} {n dc ds : Nat} (hR : ∀ st w ce sl, np_rt (some .boolean) 2510 15060 Q st w ce sl → X.2.2.1 st w ce sl) {k366 : pw_S → Nat → Int32 → Nat → Nat → Int32 → Int32 → Int32 → Int32 → Int32 → Int32 → Int32 → pw_R Int32} (hk366 : ∀ (S : pw_S) (v0 : Nat) (v1 : Int32) (va2 : Nat) (vi2 : Nat) (v3 : Int32) (v4 : Int32) (v5 : Int32) (v6 : Int32) (v9 : Int32) (v10 : Int32) (v11 : Int32) (f : Nat → Option np_E) (ce sl : Nat) (hv0 : pw_ok q 61 v0 = true) (ha2 : pw_arr va2 = true) (hi2 : pw_ok q va2 vi2 = true), ce + dc ≤ 2510 → sl + ds ≤ 15060 → pw_W q (n, f) S → pw_p (k366 S v0 v1 va2 vi2 v3 v4 v5 v6 v9 v10 v11) (fun S' r => ∀ f', pw_W q (n, f') S' → Q (some (.int r)) (n, f')) → np_G X 366 [(0, .ref (pw_pl 61 v0)), (1, .int v1), (2, .ref (pw_pl va2 vi2)), (3, .int v3), (4, .int v4), (5, .int v5), (6, .int v6), (9, .int v9), (10, .int v10), (11, .int v11)] [] (n, f) ce sl) : ∀ (N : Nat) (S : pw_S) (v0 : Nat) (v1 : Int32) (va2 : Nat) (vi2 : Nat) (v3 : Int32) (v4 : Int32) (v5 : Int32) (v6 : Int32) (v9 : Int32) (v10 : Int32) (v11 : Int32) (v12 : Int32) (f : Nat → Option np_E) (ce sl : Nat) (hv0 : pw_ok q 61 v0 = true) (ha2 : pw_arr va2 = true) (hi2 : pw_ok q va2 vi2 = true), ce + N * 2 + dc ≤ 2510 → sl + N * 12 + ds ≤ 15060 → pw_W q (n, f) S → pw_p (m_L_areKeys_294 k366 N S v0 v1 va2 vi2 v3 v4 v5 v6 v9 v10 v11 v12) (fun S' r => ∀ f', pw_W q (n, f') S' → Q (some (.int r)) (n, f')) → np_G X 294 [(0, .ref (pw_pl 61 v0)), (1, .int v1), (2, .ref (pw_pl va2 vi2)), (3, .int v3), (4, .int v4), (5, .int v5), (6, .int v6), (9, .int v9), (10, .int v10), (11, .int v11), (12, .int v12)] [] (n, f) ce sl := by
  intro N
  induction N with
  | zero =>
    intro S v0 v1 va2 vi2 v3 v4 v5 v6 v9 v10 v11 v12 f ce sl hv0 ha2 hi2 hc hs hW h
    exact (pw_pn h).elim
  | succ N ih =>
    intro S v0 v1 va2 vi2 v3 v4 v5 v6 v9 v10 v11 v12 f ce sl hv0 ha2 hi2 hc hs hW h
    unfold m_L_areKeys_294 at h
    refine np_soundW (so_L_areKeys hX hR) [8, 22, 73, 107, 128, 161, 235, 294, 366, 426] 400 294 _ _ _ _ _ ?_
    conv => whnf
    refine pw_br h (fun _ h => ?_) (fun _ h => ?_)
    · conv => whnf
      exact np_gl (hk366 S v0 v1 va2 vi2 v3 v4 v5 v6 v9 v10 v11 f _ _ hv0 ha2 hi2 (by omega) (by omega) hW h) ⟨rfl, rfl, rfl, rfl, rfl, rfl, rfl, rfl, rfl, rfl, trivial⟩
    · conv => whnf
      refine pw_br h (fun _ h => ?_) (fun _ h => ?_)
      · conv => whnf
        exact np_gl (hk366 S v0 v1 va2 vi2 v3 v4 v5 v6 v9 v10 v11 f _ _ hv0 ha2 hi2 (by omega) (by omega) hW h) ⟨rfl, rfl, rfl, rfl, rfl, rfl, rfl, rfl, rfl, rfl, trivial⟩
      · conv => whnf
        refine pw_br h (fun _ h => ?_) (fun _ h => ?_)
        · conv => whnf
          exact np_gl (hk366 S v0 v1 va2 vi2 v3 v4 v5 v6 v9 v10 v11 f _ _ hv0 ha2 hi2 (by omega) (by omega) hW h) ⟨rfl, rfl, rfl, rfl, rfl, rfl, rfl, rfl, rfl, rfl, trivial⟩
        · conv => whnf
          refine pw_br h (fun _ h => ?_) (fun _ h => ?_)
          · conv => whnf
            refine np_rd_i (hW.g hv0) ?_
            conv => whnf
            refine np_chk_i (pw_and rfl (pw_and rfl (pw_and rfl (pw_and rfl ((pw_and (pw_le (by omega)) (pw_le (by omega)))))))) ?_
            conv => whnf
            refine ⟨q, S, v0, v5, v6, (v12 / 3), (v12 - v12 / 3 * 3), rfl, hv0, hW, pw_bd h (fun S12 r15 h f13 hW14 => ?_)⟩
            rcases r15 with r17 | e18
            · replace h := pw_ei h
              conv => whnf
              refine np_rd_i (hW14.g hv0) ?_
              conv => whnf
              refine np_chk_i (pw_and rfl (pw_and rfl (pw_and rfl (pw_and rfl ((pw_and (pw_le (by omega)) (pw_le (by omega)))))))) ?_
              conv => whnf
              refine ⟨q, S12, v0, (1 - v5), v10, (v12 / 3), (v12 - v12 / 3 * 3), rfl, hv0, hW14, pw_bd h (fun S19 r22 h f20 hW21 => ?_)⟩
              rcases r22 with r24 | e25
              · replace h := pw_ei h
                conv => whnf
                refine pw_br h (fun _ h => ?_) (fun _ h => ?_)
                · conv => whnf
                  refine pw_st h (fun z26 h => ?_)
                  conv => whnf
                  refine pw_st h (fun z27 h => ?_)
                  conv => whnf
                  exact np_gl (ih S19 v0 v1 va2 vi2 v3 v4 v5 v6 v9 v10 z26 z27 f20 _ _ hv0 ha2 hi2 (by omega) (by omega) hW21 h) ⟨rfl, rfl, rfl, rfl, rfl, rfl, rfl, rfl, rfl, rfl, rfl, trivial⟩
                · conv => whnf
                  refine pw_st h (fun z28 h => ?_)
                  conv => whnf
                  refine pw_st h (fun z29 h => ?_)
                  conv => whnf
                  exact np_gl (ih S19 v0 v1 va2 vi2 v3 v4 v5 v6 v9 v10 z28 z29 f20 _ _ hv0 ha2 hi2 (by omega) (by omega) hW21 h) ⟨rfl, rfl, rfl, rfl, rfl, rfl, rfl, rfl, rfl, rfl, rfl, trivial⟩
              · exact (pw_pn h).elim
            · exact (pw_pn h).elim
          · conv => whnf
            refine pw_st h (fun z30 h => ?_)
            conv => whnf
            refine pw_st h (fun z31 h => ?_)
            conv => whnf
            exact np_gl (ih S v0 v1 va2 vi2 v3 v4 v5 v6 v9 v10 z30 z31 f _ _ hv0 ha2 hi2 (by omega) (by omega) hW h) ⟨rfl, rfl, rfl, rfl, rfl, rfl, rfl, rfl, rfl, rfl, rfl, trivial⟩
noncomputable def m_L_areKeys_j128 (k73 : pw_S → Nat → Int32 → Nat → Nat → Int32 → Int32 → Int32 → Int32 → Int32 → Int32 → Int32 → pw_R Int32) (k161 : pw_S → Nat → Int32 → Nat → Nat → Int32 → Int32 → Int32 → Int32 → Int32 → Int32 → pw_R Int32) (S : pw_S) (v0 : Nat) (v1 : Int32) (va2 : Nat) (vi2 : Nat) (v3 : Int32) (v5 : Int32) (v6 : Int32) (v7 : Int32) (v9 : Int32) (v10 : Int32) (v11 : Int32) (s0 : Int32) (s1 : Int32) : pw_R Int32 :=
 pw_l ((s0 + s1) : Int32) fun z32 =>
 if v9 = 0 then
 (pw_l (0 : Int32) fun z33 =>
 pw_l (v10 + 1 : Int32) fun z34 =>
 k73 S v0 v1 va2 vi2 v3 v5 v6 v7 z32 z33 z34)
 else
 (if v11 = 0 then
 (pw_l (1 : Int32) fun z35 =>
 pw_l (v10 + 1 : Int32) fun z36 =>
 k73 S v0 v1 va2 vi2 v3 v5 v6 v7 z32 z35 z36)
 else
 (if v6 < v10 then
 (pw_l (0 : Int32) fun z37 =>
 pw_l (v10 + 1 : Int32) fun z38 =>
 k73 S v0 v1 va2 vi2 v3 v5 v6 v7 z32 z37 z38)
 else
 (pw_l (1 : Int32) fun z39 =>
 pw_l (v10 + 1 : Int32) fun z40 =>
 k73 S v0 v1 va2 vi2 v3 v5 v6 v7 z32 z39 z40)))
set_option maxRecDepth 100000 in
set_option maxHeartbeats 8000000 in
theorem J_L_areKeys_128 {X : np_Ctx} (hX : np_ok RL cL_areKeys 13 7 160 2510 15060 .ireturn X) {Q : Option Value → np_W → Prop} {q : Nat} {n dc ds : Nat} (hR : ∀ st w ce sl, np_rt (some .boolean) 2510 15060 Q st w ce sl → X.2.2.1 st w ce sl) {k73 : pw_S → Nat → Int32 → Nat → Nat → Int32 → Int32 → Int32 → Int32 → Int32 → Int32 → Int32 → pw_R Int32} {k161 : pw_S → Nat → Int32 → Nat → Nat → Int32 → Int32 → Int32 → Int32 → Int32 → Int32 → pw_R Int32} (hk73 : ∀ (S : pw_S) (v0 : Nat) (v1 : Int32) (va2 : Nat) (vi2 : Nat) (v3 : Int32) (v5 : Int32) (v6 : Int32) (v7 : Int32) (v8 : Int32) (v9 : Int32) (v10 : Int32) (f : Nat → Option np_E) (ce sl : Nat) (hv0 : pw_ok q 61 v0 = true) (ha2 : pw_arr va2 = true) (hi2 : pw_ok q va2 vi2 = true), ce + dc ≤ 2510 → sl + ds ≤ 15060 → pw_W q (n, f) S → pw_p (k73 S v0 v1 va2 vi2 v3 v5 v6 v7 v8 v9 v10) (fun S' r => ∀ f', pw_W q (n, f') S' → Q (some (.int r)) (n, f')) → np_G X 73 [(0, .ref (pw_pl 61 v0)), (1, .int v1), (2, .ref (pw_pl va2 vi2)), (3, .int v3), (5, .int v5), (6, .int v6), (7, .int v7), (8, .int v8), (9, .int v9), (10, .int v10)] [] (n, f) ce sl) (hk161 : ∀ (S : pw_S) (v0 : Nat) (v1 : Int32) (va2 : Nat) (vi2 : Nat) (v3 : Int32) (v5 : Int32) (v6 : Int32) (v7 : Int32) (v8 : Int32) (v9 : Int32) (f : Nat → Option np_E) (ce sl : Nat) (hv0 : pw_ok q 61 v0 = true) (ha2 : pw_arr va2 = true) (hi2 : pw_ok q va2 vi2 = true), ce + dc ≤ 2510 → sl + ds ≤ 15060 → pw_W q (n, f) S → pw_p (k161 S v0 v1 va2 vi2 v3 v5 v6 v7 v8 v9) (fun S' r => ∀ f', pw_W q (n, f') S' → Q (some (.int r)) (n, f')) → np_G X 161 [(0, .ref (pw_pl 61 v0)), (1, .int v1), (2, .ref (pw_pl va2 vi2)), (3, .int v3), (5, .int v5), (6, .int v6), (7, .int v7), (8, .int v8), (9, .int v9)] [] (n, f) ce sl) (S : pw_S) (v0 : Nat) (v1 : Int32) (va2 : Nat) (vi2 : Nat) (v3 : Int32) (v5 : Int32) (v6 : Int32) (v7 : Int32) (v9 : Int32) (v10 : Int32) (v11 : Int32) (s0 : Int32) (s1 : Int32) (f : Nat → Option np_E) (ce sl : Nat) (hv0 : pw_ok q 61 v0 = true) (ha2 : pw_arr va2 = true) (hi2 : pw_ok q va2 vi2 = true) (hc : ce + 0 + dc ≤ 2510) (hs : sl + 0 + ds ≤ 15060) (hW : pw_W q (n, f) S) (h : pw_p (m_L_areKeys_j128 k73 k161 S v0 v1 va2 vi2 v3 v5 v6 v7 v9 v10 v11 s0 s1) (fun S' r => ∀ f', pw_W q (n, f') S' → Q (some (.int r)) (n, f'))) : np_G X 128 [(0, .ref (pw_pl 61 v0)), (1, .int v1), (2, .ref (pw_pl va2 vi2)), (3, .int v3), (5, .int v5), (6, .int v6), (7, .int v7), (9, .int v9), (10, .int v10), (11, .int v11)] [.int s1, .int s0] (n, f) ce sl := by
  unfold m_L_areKeys_j128 at h
  refine np_soundW (so_L_areKeys hX hR) [8, 22, 73, 107, 128, 161, 235, 294, 366, 426] 400 128 _ _ _ _ _ ?_
  conv => whnf
  refine pw_st h (fun z32 h => ?_)
  conv => whnf
  refine pw_br h (fun _ h => ?_) (fun _ h => ?_)
  · conv => whnf
    refine pw_st h (fun z33 h => ?_)
    conv => whnf
    refine pw_st h (fun z34 h => ?_)
    conv => whnf
    exact np_gl (hk73 S v0 v1 va2 vi2 v3 v5 v6 v7 z32 z33 z34 f _ _ hv0 ha2 hi2 (by omega) (by omega) hW h) ⟨rfl, rfl, rfl, rfl, rfl, rfl, rfl, rfl, rfl, rfl, trivial⟩
  · conv => whnf
    refine pw_br h (fun _ h => ?_) (fun _ h => ?_)
    · conv => whnf
      refine pw_st h (fun z35 h => ?_)
      conv => whnf
      refine pw_st h (fun z36 h => ?_)
      conv => whnf
      exact np_gl (hk73 S v0 v1 va2 vi2 v3 v5 v6 v7 z32 z35 z36 f _ _ hv0 ha2 hi2 (by omega) (by omega) hW h) ⟨rfl, rfl, rfl, rfl, rfl, rfl, rfl, rfl, rfl, rfl, trivial⟩
    · conv => whnf
      refine pw_br h (fun _ h => ?_) (fun _ h => ?_)
      · conv => whnf
        refine pw_st h (fun z37 h => ?_)
        conv => whnf
        refine pw_st h (fun z38 h => ?_)
        conv => whnf
        exact np_gl (hk73 S v0 v1 va2 vi2 v3 v5 v6 v7 z32 z37 z38 f _ _ hv0 ha2 hi2 (by omega) (by omega) hW h) ⟨rfl, rfl, rfl, rfl, rfl, rfl, rfl, rfl, rfl, rfl, trivial⟩
      · conv => whnf
        refine pw_st h (fun z39 h => ?_)
        conv => whnf
        refine pw_st h (fun z40 h => ?_)
        conv => whnf
        exact np_gl (hk73 S v0 v1 va2 vi2 v3 v5 v6 v7 z32 z39 z40 f _ _ hv0 ha2 hi2 (by omega) (by omega) hW h) ⟨rfl, rfl, rfl, rfl, rfl, rfl, rfl, rfl, rfl, rfl, trivial⟩
noncomputable def m_L_areKeys_j107 (k73 : pw_S → Nat → Int32 → Nat → Nat → Int32 → Int32 → Int32 → Int32 → Int32 → Int32 → Int32 → pw_R Int32) (k161 : pw_S → Nat → Int32 → Nat → Nat → Int32 → Int32 → Int32 → Int32 → Int32 → Int32 → pw_R Int32) (S : pw_S) (v0 : Nat) (v1 : Int32) (va2 : Nat) (vi2 : Nat) (v3 : Int32) (v5 : Int32) (v6 : Int32) (v7 : Int32) (v8 : Int32) (v9 : Int32) (v10 : Int32) (s0 : Int32) : pw_R Int32 :=
 pw_l (s0 : Int32) fun z41 =>
 if z41 = 0 then
 (m_L_areKeys_j128 (fun S56 u42 u44 u45 u46 u49 u50 u51 u52 u53 u54 u55 => k73 S56 u42 u44 u45 u46 u49 u50 u51 u52 u53 u54 u55) (fun S76 u63 u65 u66 u67 u70 u71 u72 u73 u74 u75 => k161 S76 u63 u65 u66 u67 u70 u71 u72 u73 u74 u75) S v0 v1 va2 vi2 v3 v5 v6 v7 v9 v10 z41 v8 0)
 else
 (if v6 ≤ v10 then
 (m_L_areKeys_j128 (fun S97 u83 u85 u86 u87 u90 u91 u92 u93 u94 u95 u96 => k73 S97 u83 u85 u86 u87 u90 u91 u92 u93 u94 u95 u96) (fun S117 u104 u106 u107 u108 u111 u112 u113 u114 u115 u116 => k161 S117 u104 u106 u107 u108 u111 u112 u113 u114 u115 u116) S v0 v1 va2 vi2 v3 v5 v6 v7 v9 v10 z41 v8 0)
 else
 (m_L_areKeys_j128 (fun S138 u124 u126 u127 u128 u131 u132 u133 u134 u135 u136 u137 => k73 S138 u124 u126 u127 u128 u131 u132 u133 u134 u135 u136 u137) (fun S158 u145 u147 u148 u149 u152 u153 u154 u155 u156 u157 => k161 S158 u145 u147 u148 u149 u152 u153 u154 u155 u156 u157) S v0 v1 va2 vi2 v3 v5 v6 v7 v9 v10 z41 v8 1))
set_option maxRecDepth 100000 in
set_option maxHeartbeats 8000000 in
theorem J_L_areKeys_107 {X : np_Ctx} (hX : np_ok RL cL_areKeys 13 7 160 2510 15060 .ireturn X) {Q : Option Value → np_W → Prop} {q : Nat} {n dc ds : Nat} (hR : ∀ st w ce sl, np_rt (some .boolean) 2510 15060 Q st w ce sl → X.2.2.1 st w ce sl) {k73 : pw_S → Nat → Int32 → Nat → Nat → Int32 → Int32 → Int32 → Int32 → Int32 → Int32 → Int32 → pw_R Int32} {k161 : pw_S → Nat → Int32 → Nat → Nat → Int32 → Int32 → Int32 → Int32 → Int32 → Int32 → pw_R Int32} (hk73 : ∀ (S : pw_S) (v0 : Nat) (v1 : Int32) (va2 : Nat) (vi2 : Nat) (v3 : Int32) (v5 : Int32) (v6 : Int32) (v7 : Int32) (v8 : Int32) (v9 : Int32) (v10 : Int32) (f : Nat → Option np_E) (ce sl : Nat) (hv0 : pw_ok q 61 v0 = true) (ha2 : pw_arr va2 = true) (hi2 : pw_ok q va2 vi2 = true), ce + dc ≤ 2510 → sl + ds ≤ 15060 → pw_W q (n, f) S → pw_p (k73 S v0 v1 va2 vi2 v3 v5 v6 v7 v8 v9 v10) (fun S' r => ∀ f', pw_W q (n, f') S' → Q (some (.int r)) (n, f')) → np_G X 73 [(0, .ref (pw_pl 61 v0)), (1, .int v1), (2, .ref (pw_pl va2 vi2)), (3, .int v3), (5, .int v5), (6, .int v6), (7, .int v7), (8, .int v8), (9, .int v9), (10, .int v10)] [] (n, f) ce sl) (hk161 : ∀ (S : pw_S) (v0 : Nat) (v1 : Int32) (va2 : Nat) (vi2 : Nat) (v3 : Int32) (v5 : Int32) (v6 : Int32) (v7 : Int32) (v8 : Int32) (v9 : Int32) (f : Nat → Option np_E) (ce sl : Nat) (hv0 : pw_ok q 61 v0 = true) (ha2 : pw_arr va2 = true) (hi2 : pw_ok q va2 vi2 = true), ce + dc ≤ 2510 → sl + ds ≤ 15060 → pw_W q (n, f) S → pw_p (k161 S v0 v1 va2 vi2 v3 v5 v6 v7 v8 v9) (fun S' r => ∀ f', pw_W q (n, f') S' → Q (some (.int r)) (n, f')) → np_G X 161 [(0, .ref (pw_pl 61 v0)), (1, .int v1), (2, .ref (pw_pl va2 vi2)), (3, .int v3), (5, .int v5), (6, .int v6), (7, .int v7), (8, .int v8), (9, .int v9)] [] (n, f) ce sl) (S : pw_S) (v0 : Nat) (v1 : Int32) (va2 : Nat) (vi2 : Nat) (v3 : Int32) (v5 : Int32) (v6 : Int32) (v7 : Int32) (v8 : Int32) (v9 : Int32) (v10 : Int32) (s0 : Int32) (f : Nat → Option np_E) (ce sl : Nat) (hv0 : pw_ok q 61 v0 = true) (ha2 : pw_arr va2 = true) (hi2 : pw_ok q va2 vi2 = true) (hc : ce + 0 + dc ≤ 2510) (hs : sl + 0 + ds ≤ 15060) (hW : pw_W q (n, f) S) (h : pw_p (m_L_areKeys_j107 k73 k161 S v0 v1 va2 vi2 v3 v5 v6 v7 v8 v9 v10 s0) (fun S' r => ∀ f', pw_W q (n, f') S' → Q (some (.int r)) (n, f'))) : np_G X 107 [(0, .ref (pw_pl 61 v0)), (1, .int v1), (2, .ref (pw_pl va2 vi2)), (3, .int v3), (5, .int v5), (6, .int v6), (7, .int v7), (8, .int v8), (9, .int v9), (10, .int v10)] [.int s0] (n, f) ce sl := by
  unfold m_L_areKeys_j107 at h
  refine np_soundW (so_L_areKeys hX hR) [8, 22, 73, 107, 128, 161, 235, 294, 366, 426] 400 107 _ _ _ _ _ ?_
  conv => whnf
  refine pw_st h (fun z41 h => ?_)
  conv => whnf
  refine pw_br h (fun _ h => ?_) (fun _ h => ?_)
  · conv => whnf
    refine np_gl (J_L_areKeys_128 (dc := dc) (ds := ds) hX hR (fun S56 u42 u44 u45 u46 u49 u50 u51 u52 u53 u54 u55 f57 ce59 sl60 ho43 ho47 ho48 hc61 hs62 hW58 h => np_gl (hk73 S56 u42 u44 u45 u46 u49 u50 u51 u52 u53 u54 u55 f57 _ _ ho43 ho47 ho48 (by omega) (by omega) hW58 h) ⟨rfl, rfl, rfl, rfl, rfl, rfl, rfl, rfl, rfl, rfl, trivial⟩) (fun S76 u63 u65 u66 u67 u70 u71 u72 u73 u74 u75 f77 ce79 sl80 ho64 ho68 ho69 hc81 hs82 hW78 h => np_gl (hk161 S76 u63 u65 u66 u67 u70 u71 u72 u73 u74 u75 f77 _ _ ho64 ho68 ho69 (by omega) (by omega) hW78 h) ⟨rfl, rfl, rfl, rfl, rfl, rfl, rfl, rfl, rfl, trivial⟩) S v0 v1 va2 vi2 v3 v5 v6 v7 v9 v10 z41 v8 0 f _ _ hv0 ha2 hi2 (by omega) (by omega) hW h) ?_
    exact ⟨rfl, rfl, rfl, rfl, rfl, rfl, rfl, rfl, rfl, rfl, trivial⟩
  · conv => whnf
    refine pw_br h (fun _ h => ?_) (fun _ h => ?_)
    · conv => whnf
      refine np_gl (J_L_areKeys_128 (dc := dc) (ds := ds) hX hR (fun S97 u83 u85 u86 u87 u90 u91 u92 u93 u94 u95 u96 f98 ce100 sl101 ho84 ho88 ho89 hc102 hs103 hW99 h => np_gl (hk73 S97 u83 u85 u86 u87 u90 u91 u92 u93 u94 u95 u96 f98 _ _ ho84 ho88 ho89 (by omega) (by omega) hW99 h) ⟨rfl, rfl, rfl, rfl, rfl, rfl, rfl, rfl, rfl, rfl, trivial⟩) (fun S117 u104 u106 u107 u108 u111 u112 u113 u114 u115 u116 f118 ce120 sl121 ho105 ho109 ho110 hc122 hs123 hW119 h => np_gl (hk161 S117 u104 u106 u107 u108 u111 u112 u113 u114 u115 u116 f118 _ _ ho105 ho109 ho110 (by omega) (by omega) hW119 h) ⟨rfl, rfl, rfl, rfl, rfl, rfl, rfl, rfl, rfl, trivial⟩) S v0 v1 va2 vi2 v3 v5 v6 v7 v9 v10 z41 v8 0 f _ _ hv0 ha2 hi2 (by omega) (by omega) hW h) ?_
      exact ⟨rfl, rfl, rfl, rfl, rfl, rfl, rfl, rfl, rfl, rfl, trivial⟩
    · conv => whnf
      refine np_gl (J_L_areKeys_128 (dc := dc) (ds := ds) hX hR (fun S138 u124 u126 u127 u128 u131 u132 u133 u134 u135 u136 u137 f139 ce141 sl142 ho125 ho129 ho130 hc143 hs144 hW140 h => np_gl (hk73 S138 u124 u126 u127 u128 u131 u132 u133 u134 u135 u136 u137 f139 _ _ ho125 ho129 ho130 (by omega) (by omega) hW140 h) ⟨rfl, rfl, rfl, rfl, rfl, rfl, rfl, rfl, rfl, rfl, trivial⟩) (fun S158 u145 u147 u148 u149 u152 u153 u154 u155 u156 u157 f159 ce161 sl162 ho146 ho150 ho151 hc163 hs164 hW160 h => np_gl (hk161 S158 u145 u147 u148 u149 u152 u153 u154 u155 u156 u157 f159 _ _ ho146 ho150 ho151 (by omega) (by omega) hW160 h) ⟨rfl, rfl, rfl, rfl, rfl, rfl, rfl, rfl, rfl, trivial⟩) S v0 v1 va2 vi2 v3 v5 v6 v7 v9 v10 z41 v8 1 f _ _ hv0 ha2 hi2 (by omega) (by omega) hW h) ?_
      exact ⟨rfl, rfl, rfl, rfl, rfl, rfl, rfl, rfl, rfl, rfl, trivial⟩
noncomputable def m_L_areKeys_73 (k161 : pw_S → Nat → Int32 → Nat → Nat → Int32 → Int32 → Int32 → Int32 → Int32 → Int32 → pw_R Int32) : Nat → pw_S → Nat → Int32 → Nat → Nat → Int32 → Int32 → Int32 → Int32 → Int32 → Int32 → Int32 → pw_R Int32
| 0, _, _, _, _, _, _, _, _, _, _, _, _ => none
| N + 1, S, v0, v1, va2, vi2, v3, v5, v6, v7, v8, v9, v10 =>
 pw_c (np_inb (5 + (6 * v5)) (pw_len va2)) <|
 if (S va2 vi2 ((5 + (6 * v5)) : Int32).toNatClampNeg) ≤ v10 then
 (k161 S v0 v1 va2 vi2 v3 v5 v6 v7 v8 v9)
 else
 (pw_b (m_X11_cell S v0 v5 v10 v1 0) fun S165 r168 =>
 pw_e r168 (fun r170 =>
 (if r170 = v7 then
 (m_L_areKeys_j107 (fun S186 u172 u174 u175 u176 u179 u180 u181 u182 u183 u184 u185 => m_L_areKeys_73 k161 N S186 u172 u174 u175 u176 u179 u180 u181 u182 u183 u184 u185) (fun S206 u193 u195 u196 u197 u200 u201 u202 u203 u204 u205 => k161 S206 u193 u195 u196 u197 u200 u201 u202 u203 u204 u205) S165 v0 v1 va2 vi2 v3 v5 v6 v7 v8 v9 v10 1)
 else
 (m_L_areKeys_j107 (fun S227 u213 u215 u216 u217 u220 u221 u222 u223 u224 u225 u226 => m_L_areKeys_73 k161 N S227 u213 u215 u216 u217 u220 u221 u222 u223 u224 u225 u226) (fun S247 u234 u236 u237 u238 u241 u242 u243 u244 u245 u246 => k161 S247 u234 u236 u237 u238 u241 u242 u243 u244 u245 u246) S165 v0 v1 va2 vi2 v3 v5 v6 v7 v8 v9 v10 0))) (fun _ => none))
set_option maxRecDepth 100000 in
set_option maxHeartbeats 8000000 in
theorem L_L_areKeys_73 {X : np_Ctx} (hX : np_ok RL cL_areKeys 13 7 160 2510 15060 .ireturn X) {Q : Option Value → np_W → Prop} {q : Nat} {n dc ds : Nat} (hR : ∀ st w ce sl, np_rt (some .boolean) 2510 15060 Q st w ce sl → X.2.2.1 st w ce sl) {k161 : pw_S → Nat → Int32 → Nat → Nat → Int32 → Int32 → Int32 → Int32 → Int32 → Int32 → pw_R Int32} (hk161 : ∀ (S : pw_S) (v0 : Nat) (v1 : Int32) (va2 : Nat) (vi2 : Nat) (v3 : Int32) (v5 : Int32) (v6 : Int32) (v7 : Int32) (v8 : Int32) (v9 : Int32) (f : Nat → Option np_E) (ce sl : Nat) (hv0 : pw_ok q 61 v0 = true) (ha2 : pw_arr va2 = true) (hi2 : pw_ok q va2 vi2 = true), ce + dc ≤ 2510 → sl + ds ≤ 15060 → pw_W q (n, f) S → pw_p (k161 S v0 v1 va2 vi2 v3 v5 v6 v7 v8 v9) (fun S' r => ∀ f', pw_W q (n, f') S' → Q (some (.int r)) (n, f')) → np_G X 161 [(0, .ref (pw_pl 61 v0)), (1, .int v1), (2, .ref (pw_pl va2 vi2)), (3, .int v3), (5, .int v5), (6, .int v6), (7, .int v7), (8, .int v8), (9, .int v9)] [] (n, f) ce sl) : ∀ (N : Nat) (S : pw_S) (v0 : Nat) (v1 : Int32) (va2 : Nat) (vi2 : Nat) (v3 : Int32) (v5 : Int32) (v6 : Int32) (v7 : Int32) (v8 : Int32) (v9 : Int32) (v10 : Int32) (f : Nat → Option np_E) (ce sl : Nat) (hv0 : pw_ok q 61 v0 = true) (ha2 : pw_arr va2 = true) (hi2 : pw_ok q va2 vi2 = true), ce + N * 1 + dc ≤ 2510 → sl + N * 6 + ds ≤ 15060 → pw_W q (n, f) S → pw_p (m_L_areKeys_73 k161 N S v0 v1 va2 vi2 v3 v5 v6 v7 v8 v9 v10) (fun S' r => ∀ f', pw_W q (n, f') S' → Q (some (.int r)) (n, f')) → np_G X 73 [(0, .ref (pw_pl 61 v0)), (1, .int v1), (2, .ref (pw_pl va2 vi2)), (3, .int v3), (5, .int v5), (6, .int v6), (7, .int v7), (8, .int v8), (9, .int v9), (10, .int v10)] [] (n, f) ce sl := by
  intro N
  induction N with
  | zero =>
    intro S v0 v1 va2 vi2 v3 v5 v6 v7 v8 v9 v10 f ce sl hv0 ha2 hi2 hc hs hW h
    exact (pw_pn h).elim
  | succ N ih =>
    intro S v0 v1 va2 vi2 v3 v5 v6 v7 v8 v9 v10 f ce sl hv0 ha2 hi2 hc hs hW h
    unfold m_L_areKeys_73 at h
    refine np_soundW (so_L_areKeys hX hR) [8, 22, 73, 107, 128, 161, 235, 294, 366, 426] 400 73 _ _ _ _ _ ?_
    conv => whnf
    refine np_rd_i (hW.ga ha2 hi2) ?_
    conv => whnf
    refine pw_ck h (fun _ h => ?_)
    conv => whnf
    refine pw_br h (fun _ h => ?_) (fun _ h => ?_)
    · conv => whnf
      exact np_gl (hk161 S v0 v1 va2 vi2 v3 v5 v6 v7 v8 v9 f _ _ hv0 ha2 hi2 (by omega) (by omega) hW h) ⟨rfl, rfl, rfl, rfl, rfl, rfl, rfl, rfl, rfl, trivial⟩
    · conv => whnf
      refine np_rd_i (hW.g hv0) ?_
      conv => whnf
      refine np_chk_i (pw_and rfl (pw_and rfl (pw_and rfl (pw_and rfl ((pw_and (pw_le (by omega)) (pw_le (by omega)))))))) ?_
      conv => whnf
      refine ⟨q, S, v0, v5, v10, v1, 0, rfl, hv0, hW, pw_bd h (fun S165 r168 h f166 hW167 => ?_)⟩
      rcases r168 with r170 | e171
      · replace h := pw_ei h
        conv => whnf
        refine pw_br h (fun _ h => ?_) (fun _ h => ?_)
        · conv => whnf
          refine np_gl (J_L_areKeys_107 (dc := N * 1 + dc) (ds := N * 6 + ds) hX hR (fun S186 u172 u174 u175 u176 u179 u180 u181 u182 u183 u184 u185 f187 ce189 sl190 ho173 ho177 ho178 hc191 hs192 hW188 h => np_gl (ih S186 u172 u174 u175 u176 u179 u180 u181 u182 u183 u184 u185 f187 _ _ ho173 ho177 ho178 (by omega) (by omega) hW188 h) ⟨rfl, rfl, rfl, rfl, rfl, rfl, rfl, rfl, rfl, rfl, trivial⟩) (fun S206 u193 u195 u196 u197 u200 u201 u202 u203 u204 u205 f207 ce209 sl210 ho194 ho198 ho199 hc211 hs212 hW208 h => np_gl (hk161 S206 u193 u195 u196 u197 u200 u201 u202 u203 u204 u205 f207 _ _ ho194 ho198 ho199 (by omega) (by omega) hW208 h) ⟨rfl, rfl, rfl, rfl, rfl, rfl, rfl, rfl, rfl, trivial⟩) S165 v0 v1 va2 vi2 v3 v5 v6 v7 v8 v9 v10 1 f166 _ _ hv0 ha2 hi2 (by omega) (by omega) hW167 h) ?_
          exact ⟨rfl, rfl, rfl, rfl, rfl, rfl, rfl, rfl, rfl, rfl, trivial⟩
        · conv => whnf
          refine np_gl (J_L_areKeys_107 (dc := N * 1 + dc) (ds := N * 6 + ds) hX hR (fun S227 u213 u215 u216 u217 u220 u221 u222 u223 u224 u225 u226 f228 ce230 sl231 ho214 ho218 ho219 hc232 hs233 hW229 h => np_gl (ih S227 u213 u215 u216 u217 u220 u221 u222 u223 u224 u225 u226 f228 _ _ ho214 ho218 ho219 (by omega) (by omega) hW229 h) ⟨rfl, rfl, rfl, rfl, rfl, rfl, rfl, rfl, rfl, rfl, trivial⟩) (fun S247 u234 u236 u237 u238 u241 u242 u243 u244 u245 u246 f248 ce250 sl251 ho235 ho239 ho240 hc252 hs253 hW249 h => np_gl (hk161 S247 u234 u236 u237 u238 u241 u242 u243 u244 u245 u246 f248 _ _ ho235 ho239 ho240 (by omega) (by omega) hW249 h) ⟨rfl, rfl, rfl, rfl, rfl, rfl, rfl, rfl, rfl, trivial⟩) S165 v0 v1 va2 vi2 v3 v5 v6 v7 v8 v9 v10 0 f166 _ _ hv0 ha2 hi2 (by omega) (by omega) hW167 h) ?_
          exact ⟨rfl, rfl, rfl, rfl, rfl, rfl, rfl, rfl, rfl, rfl, trivial⟩
      · exact (pw_pn h).elim
noncomputable def m_L_areKeys_j366 (k22 : pw_S → Nat → Int32 → Nat → Nat → Int32 → Int32 → Int32 → Int32 → pw_R Int32) (k420 : pw_S → Nat → Int32 → Nat → Nat → Int32 → Int32 → Int32 → pw_R Int32) (S : pw_S) (v0 : Nat) (v1 : Int32) (va2 : Nat) (vi2 : Nat) (v3 : Int32) (v4 : Int32) (v5 : Int32) (v6 : Int32) (v9 : Int32) (v10 : Int32) (v11 : Int32) : pw_R Int32 :=
 if v9 = 0 then
 (pw_l ((v3 + 0) : Int32) fun z254 =>
 pw_l (v6 + 1 : Int32) fun z255 =>
 k22 S v0 v1 va2 vi2 z254 v4 v5 z255)
 else
 (if 0 ≤ v10 then
 (if v11 = 0 then
 (pw_l ((v3 + 0) : Int32) fun z256 =>
 pw_l (v6 + 1 : Int32) fun z257 =>
 k22 S v0 v1 va2 vi2 z256 v4 v5 z257)
 else
 (if v5 = 0 then
 (pw_l ((v3 + 1) : Int32) fun z258 =>
 pw_l (v6 + 1 : Int32) fun z259 =>
 k22 S v0 v1 va2 vi2 z258 v4 v5 z259)
 else
 (pw_l ((v3 + 0) : Int32) fun z260 =>
 pw_l (v6 + 1 : Int32) fun z261 =>
 k22 S v0 v1 va2 vi2 z260 v4 v5 z261)))
 else
 (if v5 = 0 then
 (pw_l ((v3 + 100) : Int32) fun z262 =>
 pw_l (v6 + 1 : Int32) fun z263 =>
 k22 S v0 v1 va2 vi2 z262 v4 v5 z263)
 else
 (pw_l ((v3 + 10000) : Int32) fun z264 =>
 pw_l (v6 + 1 : Int32) fun z265 =>
 k22 S v0 v1 va2 vi2 z264 v4 v5 z265)))
set_option maxRecDepth 100000 in
set_option maxHeartbeats 8000000 in
theorem J_L_areKeys_366 {X : np_Ctx} (hX : np_ok RL cL_areKeys 13 7 160 2510 15060 .ireturn X) {Q : Option Value → np_W → Prop} {q : Nat} {n dc ds : Nat} (hR : ∀ st w ce sl, np_rt (some .boolean) 2510 15060 Q st w ce sl → X.2.2.1 st w ce sl) {k22 : pw_S → Nat → Int32 → Nat → Nat → Int32 → Int32 → Int32 → Int32 → pw_R Int32} {k420 : pw_S → Nat → Int32 → Nat → Nat → Int32 → Int32 → Int32 → pw_R Int32} (hk22 : ∀ (S : pw_S) (v0 : Nat) (v1 : Int32) (va2 : Nat) (vi2 : Nat) (v3 : Int32) (v4 : Int32) (v5 : Int32) (v6 : Int32) (f : Nat → Option np_E) (ce sl : Nat) (hv0 : pw_ok q 61 v0 = true) (ha2 : pw_arr va2 = true) (hi2 : pw_ok q va2 vi2 = true), ce + dc ≤ 2510 → sl + ds ≤ 15060 → pw_W q (n, f) S → pw_p (k22 S v0 v1 va2 vi2 v3 v4 v5 v6) (fun S' r => ∀ f', pw_W q (n, f') S' → Q (some (.int r)) (n, f')) → np_G X 22 [(0, .ref (pw_pl 61 v0)), (1, .int v1), (2, .ref (pw_pl va2 vi2)), (3, .int v3), (4, .int v4), (5, .int v5), (6, .int v6)] [] (n, f) ce sl) (hk420 : ∀ (S : pw_S) (v0 : Nat) (v1 : Int32) (va2 : Nat) (vi2 : Nat) (v3 : Int32) (v4 : Int32) (v5 : Int32) (f : Nat → Option np_E) (ce sl : Nat) (hv0 : pw_ok q 61 v0 = true) (ha2 : pw_arr va2 = true) (hi2 : pw_ok q va2 vi2 = true), ce + dc ≤ 2510 → sl + ds ≤ 15060 → pw_W q (n, f) S → pw_p (k420 S v0 v1 va2 vi2 v3 v4 v5) (fun S' r => ∀ f', pw_W q (n, f') S' → Q (some (.int r)) (n, f')) → np_G X 420 [(0, .ref (pw_pl 61 v0)), (1, .int v1), (2, .ref (pw_pl va2 vi2)), (3, .int v3), (4, .int v4), (5, .int v5)] [] (n, f) ce sl) (S : pw_S) (v0 : Nat) (v1 : Int32) (va2 : Nat) (vi2 : Nat) (v3 : Int32) (v4 : Int32) (v5 : Int32) (v6 : Int32) (v9 : Int32) (v10 : Int32) (v11 : Int32) (f : Nat → Option np_E) (ce sl : Nat) (hv0 : pw_ok q 61 v0 = true) (ha2 : pw_arr va2 = true) (hi2 : pw_ok q va2 vi2 = true) (hc : ce + 0 + dc ≤ 2510) (hs : sl + 0 + ds ≤ 15060) (hW : pw_W q (n, f) S) (h : pw_p (m_L_areKeys_j366 k22 k420 S v0 v1 va2 vi2 v3 v4 v5 v6 v9 v10 v11) (fun S' r => ∀ f', pw_W q (n, f') S' → Q (some (.int r)) (n, f'))) : np_G X 366 [(0, .ref (pw_pl 61 v0)), (1, .int v1), (2, .ref (pw_pl va2 vi2)), (3, .int v3), (4, .int v4), (5, .int v5), (6, .int v6), (9, .int v9), (10, .int v10), (11, .int v11)] [] (n, f) ce sl := by
  unfold m_L_areKeys_j366 at h
  refine np_soundW (so_L_areKeys hX hR) [8, 22, 73, 107, 128, 161, 235, 294, 366, 420, 426] 400 366 _ _ _ _ _ ?_
  conv => whnf
  refine pw_br h (fun _ h => ?_) (fun _ h => ?_)
  · conv => whnf
    refine pw_st h (fun z254 h => ?_)
    conv => whnf
    refine pw_st h (fun z255 h => ?_)
    conv => whnf
    exact np_gl (hk22 S v0 v1 va2 vi2 z254 v4 v5 z255 f _ _ hv0 ha2 hi2 (by omega) (by omega) hW h) ⟨rfl, rfl, rfl, rfl, rfl, rfl, rfl, trivial⟩
  · conv => whnf
    refine pw_br h (fun _ h => ?_) (fun _ h => ?_)
    · conv => whnf
      refine pw_br h (fun _ h => ?_) (fun _ h => ?_)
      · conv => whnf
        refine pw_st h (fun z256 h => ?_)
        conv => whnf
        refine pw_st h (fun z257 h => ?_)
        conv => whnf
        exact np_gl (hk22 S v0 v1 va2 vi2 z256 v4 v5 z257 f _ _ hv0 ha2 hi2 (by omega) (by omega) hW h) ⟨rfl, rfl, rfl, rfl, rfl, rfl, rfl, trivial⟩
      · conv => whnf
        refine pw_br h (fun _ h => ?_) (fun _ h => ?_)
        · conv => whnf
          refine pw_st h (fun z258 h => ?_)
          conv => whnf
          refine pw_st h (fun z259 h => ?_)
          conv => whnf
          exact np_gl (hk22 S v0 v1 va2 vi2 z258 v4 v5 z259 f _ _ hv0 ha2 hi2 (by omega) (by omega) hW h) ⟨rfl, rfl, rfl, rfl, rfl, rfl, rfl, trivial⟩
        · conv => whnf
          refine pw_st h (fun z260 h => ?_)
          conv => whnf
          refine pw_st h (fun z261 h => ?_)
          conv => whnf
          exact np_gl (hk22 S v0 v1 va2 vi2 z260 v4 v5 z261 f _ _ hv0 ha2 hi2 (by omega) (by omega) hW h) ⟨rfl, rfl, rfl, rfl, rfl, rfl, rfl, trivial⟩
    · conv => whnf
      refine pw_br h (fun _ h => ?_) (fun _ h => ?_)
      · conv => whnf
        refine pw_st h (fun z262 h => ?_)
        conv => whnf
        refine pw_st h (fun z263 h => ?_)
        conv => whnf
        exact np_gl (hk22 S v0 v1 va2 vi2 z262 v4 v5 z263 f _ _ hv0 ha2 hi2 (by omega) (by omega) hW h) ⟨rfl, rfl, rfl, rfl, rfl, rfl, rfl, trivial⟩
      · conv => whnf
        refine pw_st h (fun z264 h => ?_)
        conv => whnf
        refine pw_st h (fun z265 h => ?_)
        conv => whnf
        exact np_gl (hk22 S v0 v1 va2 vi2 z264 v4 v5 z265 f _ _ hv0 ha2 hi2 (by omega) (by omega) hW h) ⟨rfl, rfl, rfl, rfl, rfl, rfl, rfl, trivial⟩
noncomputable def m_L_areKeys_j161 (k22 : pw_S → Nat → Int32 → Nat → Nat → Int32 → Int32 → Int32 → Int32 → pw_R Int32) (k420 : pw_S → Nat → Int32 → Nat → Nat → Int32 → Int32 → Int32 → pw_R Int32) (S : pw_S) (v0 : Nat) (v1 : Int32) (va2 : Nat) (vi2 : Nat) (v3 : Int32) (v5 : Int32) (v6 : Int32) (v7 : Int32) (v8 : Int32) (v9 : Int32) : pw_R Int32 :=
 if v7 = (-2147483648) then
 (pw_l (1 : Int32) fun z266 =>
 pw_l ((-1) : Int32) fun z267 =>
 pw_l (0 : Int32) fun z268 =>
 m_L_areKeys_235
 (fun S282 u269 u271 u272 u273 u276 u277 u278 u279 u280 u281 =>
 (pw_l (0 : Int32) fun z285 =>
 pw_l (0 : Int32) fun z286 =>
 m_L_areKeys_294
 (fun S301 u287 u289 u290 u291 u294 u295 u296 u297 u298 u299 u300 =>
 (m_L_areKeys_j366 (fun S315 u304 u306 u307 u308 u311 u312 u313 u314 => k22 S315 u304 u306 u307 u308 u311 u312 u313 u314) (fun S332 u322 u324 u325 u326 u329 u330 u331 => k420 S332 u322 u324 u325 u326 u329 u330 u331) S301 u287 u289 u290 u291 u294 u295 u296 u297 u298 u299 u300)) (pw_F 25) S282 u269 u271 u272 u273 u276 u277 u278 u279 u280 u281 z285 z286)) (pw_F 11) S v0 v1 va2 vi2 v3 z266 v5 v6 v7 v9 z267 z268)
 else
 (pw_b (m_X11_find S v0 v5 v1 v7 v8) fun S347 r350 =>
 pw_e r350 (fun r352 =>
 (if r352 = v6 then
 (pw_b (m_X11_findAnew S347 v0 v5 v1 v7 v8) fun S354 r357 =>
 pw_e r357 (fun r359 =>
 (if r359 = v6 then
 (if v9 = 0 then
 (pw_l (1 : Int32) fun z361 =>
 pw_l ((-1) : Int32) fun z362 =>
 pw_l (0 : Int32) fun z363 =>
 m_L_areKeys_235
 (fun S377 u364 u366 u367 u368 u371 u372 u373 u374 u375 u376 =>
 (pw_l (0 : Int32) fun z380 =>
 pw_l (0 : Int32) fun z381 =>
 m_L_areKeys_294
 (fun S396 u382 u384 u385 u386 u389 u390 u391 u392 u393 u394 u395 =>
 (m_L_areKeys_j366 (fun S410 u399 u401 u402 u403 u406 u407 u408 u409 => k22 S410 u399 u401 u402 u403 u406 u407 u408 u409) (fun S427 u417 u419 u420 u421 u424 u425 u426 => k420 S427 u417 u419 u420 u421 u424 u425 u426) S396 u382 u384 u385 u386 u389 u390 u391 u392 u393 u394 u395)) (pw_F 25) S377 u364 u366 u367 u368 u371 u372 u373 u374 u375 u376 z380 z381)) (pw_F 11) S354 v0 v1 va2 vi2 v3 z361 v5 v6 v7 v9 z362 z363)
 else
 (pw_b (m_X11_find S354 v0 v5 v1 v7 (v8 + 1)) fun S442 r445 =>
 pw_e r445 (fun r447 =>
 (if r447 = (-1) then
 (pw_l (1 : Int32) fun z449 =>
 pw_l ((-1) : Int32) fun z450 =>
 pw_l (0 : Int32) fun z451 =>
 m_L_areKeys_235
 (fun S465 u452 u454 u455 u456 u459 u460 u461 u462 u463 u464 =>
 (pw_l (0 : Int32) fun z468 =>
 pw_l (0 : Int32) fun z469 =>
 m_L_areKeys_294
 (fun S484 u470 u472 u473 u474 u477 u478 u479 u480 u481 u482 u483 =>
 (m_L_areKeys_j366 (fun S498 u487 u489 u490 u491 u494 u495 u496 u497 => k22 S498 u487 u489 u490 u491 u494 u495 u496 u497) (fun S515 u505 u507 u508 u509 u512 u513 u514 => k420 S515 u505 u507 u508 u509 u512 u513 u514) S484 u470 u472 u473 u474 u477 u478 u479 u480 u481 u482 u483)) (pw_F 25) S465 u452 u454 u455 u456 u459 u460 u461 u462 u463 u464 z468 z469)) (pw_F 11) S442 v0 v1 va2 vi2 v3 z449 v5 v6 v7 v9 z450 z451)
 else
 (pw_l (0 : Int32) fun z530 =>
 pw_l ((-1) : Int32) fun z531 =>
 pw_l (0 : Int32) fun z532 =>
 m_L_areKeys_235
 (fun S546 u533 u535 u536 u537 u540 u541 u542 u543 u544 u545 =>
 (pw_l (0 : Int32) fun z549 =>
 pw_l (0 : Int32) fun z550 =>
 m_L_areKeys_294
 (fun S565 u551 u553 u554 u555 u558 u559 u560 u561 u562 u563 u564 =>
 (m_L_areKeys_j366 (fun S579 u568 u570 u571 u572 u575 u576 u577 u578 => k22 S579 u568 u570 u571 u572 u575 u576 u577 u578) (fun S596 u586 u588 u589 u590 u593 u594 u595 => k420 S596 u586 u588 u589 u590 u593 u594 u595) S565 u551 u553 u554 u555 u558 u559 u560 u561 u562 u563 u564)) (pw_F 25) S546 u533 u535 u536 u537 u540 u541 u542 u543 u544 u545 z549 z550)) (pw_F 11) S442 v0 v1 va2 vi2 v3 z530 v5 v6 v7 v9 z531 z532))) (fun _ => none)))
 else
 (pw_l (0 : Int32) fun z611 =>
 pw_l ((-1) : Int32) fun z612 =>
 pw_l (0 : Int32) fun z613 =>
 m_L_areKeys_235
 (fun S627 u614 u616 u617 u618 u621 u622 u623 u624 u625 u626 =>
 (pw_l (0 : Int32) fun z630 =>
 pw_l (0 : Int32) fun z631 =>
 m_L_areKeys_294
 (fun S646 u632 u634 u635 u636 u639 u640 u641 u642 u643 u644 u645 =>
 (m_L_areKeys_j366 (fun S660 u649 u651 u652 u653 u656 u657 u658 u659 => k22 S660 u649 u651 u652 u653 u656 u657 u658 u659) (fun S677 u667 u669 u670 u671 u674 u675 u676 => k420 S677 u667 u669 u670 u671 u674 u675 u676) S646 u632 u634 u635 u636 u639 u640 u641 u642 u643 u644 u645)) (pw_F 25) S627 u614 u616 u617 u618 u621 u622 u623 u624 u625 u626 z630 z631)) (pw_F 11) S354 v0 v1 va2 vi2 v3 z611 v5 v6 v7 v9 z612 z613))) (fun _ => none))
 else
 (pw_l (0 : Int32) fun z692 =>
 pw_l ((-1) : Int32) fun z693 =>
 pw_l (0 : Int32) fun z694 =>
 m_L_areKeys_235
 (fun S708 u695 u697 u698 u699 u702 u703 u704 u705 u706 u707 =>
 (pw_l (0 : Int32) fun z711 =>
 pw_l (0 : Int32) fun z712 =>
 m_L_areKeys_294
 (fun S727 u713 u715 u716 u717 u720 u721 u722 u723 u724 u725 u726 =>
 (m_L_areKeys_j366 (fun S741 u730 u732 u733 u734 u737 u738 u739 u740 => k22 S741 u730 u732 u733 u734 u737 u738 u739 u740) (fun S758 u748 u750 u751 u752 u755 u756 u757 => k420 S758 u748 u750 u751 u752 u755 u756 u757) S727 u713 u715 u716 u717 u720 u721 u722 u723 u724 u725 u726)) (pw_F 25) S708 u695 u697 u698 u699 u702 u703 u704 u705 u706 u707 z711 z712)) (pw_F 11) S347 v0 v1 va2 vi2 v3 z692 v5 v6 v7 v9 z693 z694))) (fun _ => none))
set_option maxRecDepth 100000 in
set_option maxHeartbeats 8000000 in
theorem J_L_areKeys_161 {X : np_Ctx} (hX : np_ok RL cL_areKeys 13 7 160 2510 15060 .ireturn X) {Q : Option Value → np_W → Prop} {q : Nat} {n dc ds : Nat} (hR : ∀ st w ce sl, np_rt (some .boolean) 2510 15060 Q st w ce sl → X.2.2.1 st w ce sl) {k22 : pw_S → Nat → Int32 → Nat → Nat → Int32 → Int32 → Int32 → Int32 → pw_R Int32} {k420 : pw_S → Nat → Int32 → Nat → Nat → Int32 → Int32 → Int32 → pw_R Int32} (hk22 : ∀ (S : pw_S) (v0 : Nat) (v1 : Int32) (va2 : Nat) (vi2 : Nat) (v3 : Int32) (v4 : Int32) (v5 : Int32) (v6 : Int32) (f : Nat → Option np_E) (ce sl : Nat) (hv0 : pw_ok q 61 v0 = true) (ha2 : pw_arr va2 = true) (hi2 : pw_ok q va2 vi2 = true), ce + dc ≤ 2510 → sl + ds ≤ 15060 → pw_W q (n, f) S → pw_p (k22 S v0 v1 va2 vi2 v3 v4 v5 v6) (fun S' r => ∀ f', pw_W q (n, f') S' → Q (some (.int r)) (n, f')) → np_G X 22 [(0, .ref (pw_pl 61 v0)), (1, .int v1), (2, .ref (pw_pl va2 vi2)), (3, .int v3), (4, .int v4), (5, .int v5), (6, .int v6)] [] (n, f) ce sl) (hk420 : ∀ (S : pw_S) (v0 : Nat) (v1 : Int32) (va2 : Nat) (vi2 : Nat) (v3 : Int32) (v4 : Int32) (v5 : Int32) (f : Nat → Option np_E) (ce sl : Nat) (hv0 : pw_ok q 61 v0 = true) (ha2 : pw_arr va2 = true) (hi2 : pw_ok q va2 vi2 = true), ce + dc ≤ 2510 → sl + ds ≤ 15060 → pw_W q (n, f) S → pw_p (k420 S v0 v1 va2 vi2 v3 v4 v5) (fun S' r => ∀ f', pw_W q (n, f') S' → Q (some (.int r)) (n, f')) → np_G X 420 [(0, .ref (pw_pl 61 v0)), (1, .int v1), (2, .ref (pw_pl va2 vi2)), (3, .int v3), (4, .int v4), (5, .int v5)] [] (n, f) ce sl) (S : pw_S) (v0 : Nat) (v1 : Int32) (va2 : Nat) (vi2 : Nat) (v3 : Int32) (v5 : Int32) (v6 : Int32) (v7 : Int32) (v8 : Int32) (v9 : Int32) (f : Nat → Option np_E) (ce sl : Nat) (hv0 : pw_ok q 61 v0 = true) (ha2 : pw_arr va2 = true) (hi2 : pw_ok q va2 vi2 = true) (hc : ce + 64 + dc ≤ 2510) (hs : sl + 384 + ds ≤ 15060) (hW : pw_W q (n, f) S) (h : pw_p (m_L_areKeys_j161 k22 k420 S v0 v1 va2 vi2 v3 v5 v6 v7 v8 v9) (fun S' r => ∀ f', pw_W q (n, f') S' → Q (some (.int r)) (n, f'))) : np_G X 161 [(0, .ref (pw_pl 61 v0)), (1, .int v1), (2, .ref (pw_pl va2 vi2)), (3, .int v3), (5, .int v5), (6, .int v6), (7, .int v7), (8, .int v8), (9, .int v9)] [] (n, f) ce sl := by
  unfold m_L_areKeys_j161 at h
  refine np_soundW (so_L_areKeys hX hR) [8, 22, 73, 107, 128, 161, 235, 294, 366, 420, 426] 400 161 _ _ _ _ _ ?_
  conv => whnf
  refine pw_br h (fun _ h => ?_) (fun _ h => ?_)
  · conv => whnf
    refine pw_st h (fun z266 h => ?_)
    conv => whnf
    refine pw_st h (fun z267 h => ?_)
    conv => whnf
    refine pw_st h (fun z268 h => ?_)
    conv => whnf
    refine np_gl (L_L_areKeys_235 (dc := dc + 50) (ds := ds + 300) hX hR (fun S282 u269 u271 u272 u273 u276 u277 u278 u279 u280 u281 f283 ce343 sl344 ho270 ho274 ho275 hc345 hs346 hW284 h => ?_) (pw_F 11) S v0 v1 va2 vi2 v3 z266 v5 v6 v7 v9 z267 z268 f _ _ hv0 ha2 hi2 (by have e9 := pw_F_eq 11; omega) (by have e9 := pw_F_eq 11; omega) hW h) ⟨rfl, rfl, rfl, rfl, rfl, rfl, rfl, rfl, rfl, rfl, rfl, trivial⟩
    · refine np_soundW (so_L_areKeys hX hR) [8, 22, 73, 107, 128, 161, 235, 294, 366, 420, 426] 400 288 _ _ _ _ _ ?_
      conv => whnf
      refine pw_st h (fun z285 h => ?_)
      conv => whnf
      refine pw_st h (fun z286 h => ?_)
      conv => whnf
      refine np_gl (L_L_areKeys_294 (dc := dc + 0) (ds := ds + 0) hX hR (fun S301 u287 u289 u290 u291 u294 u295 u296 u297 u298 u299 u300 f302 ce339 sl340 ho288 ho292 ho293 hc341 hs342 hW303 h => ?_) (pw_F 25) S282 u269 u271 u272 u273 u276 u277 u278 u279 u280 u281 z285 z286 f283 _ _ ho270 ho274 ho275 (by have e9 := pw_F_eq 25; omega) (by have e9 := pw_F_eq 25; omega) hW284 h) ⟨rfl, rfl, rfl, rfl, rfl, rfl, rfl, rfl, rfl, rfl, rfl, trivial⟩
      · refine np_gl (J_L_areKeys_366 (dc := dc) (ds := ds) hX hR (fun S315 u304 u306 u307 u308 u311 u312 u313 u314 f316 ce318 sl319 ho305 ho309 ho310 hc320 hs321 hW317 h => np_gl (hk22 S315 u304 u306 u307 u308 u311 u312 u313 u314 f316 _ _ ho305 ho309 ho310 (by omega) (by omega) hW317 h) ⟨rfl, rfl, rfl, rfl, rfl, rfl, rfl, trivial⟩) (fun S332 u322 u324 u325 u326 u329 u330 u331 f333 ce335 sl336 ho323 ho327 ho328 hc337 hs338 hW334 h => np_gl (hk420 S332 u322 u324 u325 u326 u329 u330 u331 f333 _ _ ho323 ho327 ho328 (by omega) (by omega) hW334 h) ⟨rfl, rfl, rfl, rfl, rfl, rfl, trivial⟩) S301 u287 u289 u290 u291 u294 u295 u296 u297 u298 u299 u300 f302 _ _ ho288 ho292 ho293 (by omega) (by omega) hW303 h) ?_
        exact ⟨rfl, rfl, rfl, rfl, rfl, rfl, rfl, rfl, rfl, rfl, trivial⟩
  · conv => whnf
    refine np_rd_i (hW.g hv0) ?_
    conv => whnf
    refine np_chk_i (pw_and rfl (pw_and rfl (pw_and rfl (pw_and rfl ((pw_and (pw_le (by omega)) (pw_le (by omega)))))))) ?_
    conv => whnf
    refine ⟨q, S, v0, v5, v1, v7, v8, rfl, hv0, hW, pw_bd h (fun S347 r350 h f348 hW349 => ?_)⟩
    rcases r350 with r352 | e353
    · replace h := pw_ei h
      conv => whnf
      refine pw_br h (fun _ h => ?_) (fun _ h => ?_)
      · conv => whnf
        refine np_rd_i (hW349.g hv0) ?_
        conv => whnf
        refine np_chk_i (pw_and rfl (pw_and rfl (pw_and rfl (pw_and rfl ((pw_and (pw_le (by omega)) (pw_le (by omega)))))))) ?_
        conv => whnf
        refine ⟨q, S347, v0, v5, v1, v7, v8, rfl, hv0, hW349, pw_bd h (fun S354 r357 h f355 hW356 => ?_)⟩
        rcases r357 with r359 | e360
        · replace h := pw_ei h
          conv => whnf
          refine pw_br h (fun _ h => ?_) (fun _ h => ?_)
          · conv => whnf
            refine pw_br h (fun _ h => ?_) (fun _ h => ?_)
            · conv => whnf
              refine pw_st h (fun z361 h => ?_)
              conv => whnf
              refine pw_st h (fun z362 h => ?_)
              conv => whnf
              refine pw_st h (fun z363 h => ?_)
              conv => whnf
              refine np_gl (L_L_areKeys_235 (dc := dc + 50) (ds := ds + 300) hX hR (fun S377 u364 u366 u367 u368 u371 u372 u373 u374 u375 u376 f378 ce438 sl439 ho365 ho369 ho370 hc440 hs441 hW379 h => ?_) (pw_F 11) S354 v0 v1 va2 vi2 v3 z361 v5 v6 v7 v9 z362 z363 f355 _ _ hv0 ha2 hi2 (by have e9 := pw_F_eq 11; omega) (by have e9 := pw_F_eq 11; omega) hW356 h) ⟨rfl, rfl, rfl, rfl, rfl, rfl, rfl, rfl, rfl, rfl, rfl, trivial⟩
              · refine np_soundW (so_L_areKeys hX hR) [8, 22, 73, 107, 128, 161, 235, 294, 366, 420, 426] 400 288 _ _ _ _ _ ?_
                conv => whnf
                refine pw_st h (fun z380 h => ?_)
                conv => whnf
                refine pw_st h (fun z381 h => ?_)
                conv => whnf
                refine np_gl (L_L_areKeys_294 (dc := dc + 0) (ds := ds + 0) hX hR (fun S396 u382 u384 u385 u386 u389 u390 u391 u392 u393 u394 u395 f397 ce434 sl435 ho383 ho387 ho388 hc436 hs437 hW398 h => ?_) (pw_F 25) S377 u364 u366 u367 u368 u371 u372 u373 u374 u375 u376 z380 z381 f378 _ _ ho365 ho369 ho370 (by have e9 := pw_F_eq 25; omega) (by have e9 := pw_F_eq 25; omega) hW379 h) ⟨rfl, rfl, rfl, rfl, rfl, rfl, rfl, rfl, rfl, rfl, rfl, trivial⟩
                · refine np_gl (J_L_areKeys_366 (dc := dc) (ds := ds) hX hR (fun S410 u399 u401 u402 u403 u406 u407 u408 u409 f411 ce413 sl414 ho400 ho404 ho405 hc415 hs416 hW412 h => np_gl (hk22 S410 u399 u401 u402 u403 u406 u407 u408 u409 f411 _ _ ho400 ho404 ho405 (by omega) (by omega) hW412 h) ⟨rfl, rfl, rfl, rfl, rfl, rfl, rfl, trivial⟩) (fun S427 u417 u419 u420 u421 u424 u425 u426 f428 ce430 sl431 ho418 ho422 ho423 hc432 hs433 hW429 h => np_gl (hk420 S427 u417 u419 u420 u421 u424 u425 u426 f428 _ _ ho418 ho422 ho423 (by omega) (by omega) hW429 h) ⟨rfl, rfl, rfl, rfl, rfl, rfl, trivial⟩) S396 u382 u384 u385 u386 u389 u390 u391 u392 u393 u394 u395 f397 _ _ ho383 ho387 ho388 (by omega) (by omega) hW398 h) ?_
                  exact ⟨rfl, rfl, rfl, rfl, rfl, rfl, rfl, rfl, rfl, rfl, trivial⟩
            · conv => whnf
              refine np_rd_i (hW356.g hv0) ?_
              conv => whnf
              refine np_chk_i (pw_and rfl (pw_and rfl (pw_and rfl (pw_and rfl ((pw_and (pw_le (by omega)) (pw_le (by omega)))))))) ?_
              conv => whnf
              refine ⟨q, S354, v0, v5, v1, v7, (v8 + 1), rfl, hv0, hW356, pw_bd h (fun S442 r445 h f443 hW444 => ?_)⟩
              rcases r445 with r447 | e448
              · replace h := pw_ei h
                conv => whnf
                refine pw_br h (fun _ h => ?_) (fun _ h => ?_)
                · conv => whnf
                  refine pw_st h (fun z449 h => ?_)
                  conv => whnf
                  refine pw_st h (fun z450 h => ?_)
                  conv => whnf
                  refine pw_st h (fun z451 h => ?_)
                  conv => whnf
                  refine np_gl (L_L_areKeys_235 (dc := dc + 50) (ds := ds + 300) hX hR (fun S465 u452 u454 u455 u456 u459 u460 u461 u462 u463 u464 f466 ce526 sl527 ho453 ho457 ho458 hc528 hs529 hW467 h => ?_) (pw_F 11) S442 v0 v1 va2 vi2 v3 z449 v5 v6 v7 v9 z450 z451 f443 _ _ hv0 ha2 hi2 (by have e9 := pw_F_eq 11; omega) (by have e9 := pw_F_eq 11; omega) hW444 h) ⟨rfl, rfl, rfl, rfl, rfl, rfl, rfl, rfl, rfl, rfl, rfl, trivial⟩
                  · refine np_soundW (so_L_areKeys hX hR) [8, 22, 73, 107, 128, 161, 235, 294, 366, 420, 426] 400 288 _ _ _ _ _ ?_
                    conv => whnf
                    refine pw_st h (fun z468 h => ?_)
                    conv => whnf
                    refine pw_st h (fun z469 h => ?_)
                    conv => whnf
                    refine np_gl (L_L_areKeys_294 (dc := dc + 0) (ds := ds + 0) hX hR (fun S484 u470 u472 u473 u474 u477 u478 u479 u480 u481 u482 u483 f485 ce522 sl523 ho471 ho475 ho476 hc524 hs525 hW486 h => ?_) (pw_F 25) S465 u452 u454 u455 u456 u459 u460 u461 u462 u463 u464 z468 z469 f466 _ _ ho453 ho457 ho458 (by have e9 := pw_F_eq 25; omega) (by have e9 := pw_F_eq 25; omega) hW467 h) ⟨rfl, rfl, rfl, rfl, rfl, rfl, rfl, rfl, rfl, rfl, rfl, trivial⟩
                    · refine np_gl (J_L_areKeys_366 (dc := dc) (ds := ds) hX hR (fun S498 u487 u489 u490 u491 u494 u495 u496 u497 f499 ce501 sl502 ho488 ho492 ho493 hc503 hs504 hW500 h => np_gl (hk22 S498 u487 u489 u490 u491 u494 u495 u496 u497 f499 _ _ ho488 ho492 ho493 (by omega) (by omega) hW500 h) ⟨rfl, rfl, rfl, rfl, rfl, rfl, rfl, trivial⟩) (fun S515 u505 u507 u508 u509 u512 u513 u514 f516 ce518 sl519 ho506 ho510 ho511 hc520 hs521 hW517 h => np_gl (hk420 S515 u505 u507 u508 u509 u512 u513 u514 f516 _ _ ho506 ho510 ho511 (by omega) (by omega) hW517 h) ⟨rfl, rfl, rfl, rfl, rfl, rfl, trivial⟩) S484 u470 u472 u473 u474 u477 u478 u479 u480 u481 u482 u483 f485 _ _ ho471 ho475 ho476 (by omega) (by omega) hW486 h) ?_
                      exact ⟨rfl, rfl, rfl, rfl, rfl, rfl, rfl, rfl, rfl, rfl, trivial⟩
                · conv => whnf
                  refine pw_st h (fun z530 h => ?_)
                  conv => whnf
                  refine pw_st h (fun z531 h => ?_)
                  conv => whnf
                  refine pw_st h (fun z532 h => ?_)
                  conv => whnf
                  refine np_gl (L_L_areKeys_235 (dc := dc + 50) (ds := ds + 300) hX hR (fun S546 u533 u535 u536 u537 u540 u541 u542 u543 u544 u545 f547 ce607 sl608 ho534 ho538 ho539 hc609 hs610 hW548 h => ?_) (pw_F 11) S442 v0 v1 va2 vi2 v3 z530 v5 v6 v7 v9 z531 z532 f443 _ _ hv0 ha2 hi2 (by have e9 := pw_F_eq 11; omega) (by have e9 := pw_F_eq 11; omega) hW444 h) ⟨rfl, rfl, rfl, rfl, rfl, rfl, rfl, rfl, rfl, rfl, rfl, trivial⟩
                  · refine np_soundW (so_L_areKeys hX hR) [8, 22, 73, 107, 128, 161, 235, 294, 366, 420, 426] 400 288 _ _ _ _ _ ?_
                    conv => whnf
                    refine pw_st h (fun z549 h => ?_)
                    conv => whnf
                    refine pw_st h (fun z550 h => ?_)
                    conv => whnf
                    refine np_gl (L_L_areKeys_294 (dc := dc + 0) (ds := ds + 0) hX hR (fun S565 u551 u553 u554 u555 u558 u559 u560 u561 u562 u563 u564 f566 ce603 sl604 ho552 ho556 ho557 hc605 hs606 hW567 h => ?_) (pw_F 25) S546 u533 u535 u536 u537 u540 u541 u542 u543 u544 u545 z549 z550 f547 _ _ ho534 ho538 ho539 (by have e9 := pw_F_eq 25; omega) (by have e9 := pw_F_eq 25; omega) hW548 h) ⟨rfl, rfl, rfl, rfl, rfl, rfl, rfl, rfl, rfl, rfl, rfl, trivial⟩
                    · refine np_gl (J_L_areKeys_366 (dc := dc) (ds := ds) hX hR (fun S579 u568 u570 u571 u572 u575 u576 u577 u578 f580 ce582 sl583 ho569 ho573 ho574 hc584 hs585 hW581 h => np_gl (hk22 S579 u568 u570 u571 u572 u575 u576 u577 u578 f580 _ _ ho569 ho573 ho574 (by omega) (by omega) hW581 h) ⟨rfl, rfl, rfl, rfl, rfl, rfl, rfl, trivial⟩) (fun S596 u586 u588 u589 u590 u593 u594 u595 f597 ce599 sl600 ho587 ho591 ho592 hc601 hs602 hW598 h => np_gl (hk420 S596 u586 u588 u589 u590 u593 u594 u595 f597 _ _ ho587 ho591 ho592 (by omega) (by omega) hW598 h) ⟨rfl, rfl, rfl, rfl, rfl, rfl, trivial⟩) S565 u551 u553 u554 u555 u558 u559 u560 u561 u562 u563 u564 f566 _ _ ho552 ho556 ho557 (by omega) (by omega) hW567 h) ?_
                      exact ⟨rfl, rfl, rfl, rfl, rfl, rfl, rfl, rfl, rfl, rfl, trivial⟩
              · exact (pw_pn h).elim
          · conv => whnf
            refine pw_st h (fun z611 h => ?_)
            conv => whnf
            refine pw_st h (fun z612 h => ?_)
            conv => whnf
            refine pw_st h (fun z613 h => ?_)
            conv => whnf
            refine np_gl (L_L_areKeys_235 (dc := dc + 50) (ds := ds + 300) hX hR (fun S627 u614 u616 u617 u618 u621 u622 u623 u624 u625 u626 f628 ce688 sl689 ho615 ho619 ho620 hc690 hs691 hW629 h => ?_) (pw_F 11) S354 v0 v1 va2 vi2 v3 z611 v5 v6 v7 v9 z612 z613 f355 _ _ hv0 ha2 hi2 (by have e9 := pw_F_eq 11; omega) (by have e9 := pw_F_eq 11; omega) hW356 h) ⟨rfl, rfl, rfl, rfl, rfl, rfl, rfl, rfl, rfl, rfl, rfl, trivial⟩
            · refine np_soundW (so_L_areKeys hX hR) [8, 22, 73, 107, 128, 161, 235, 294, 366, 420, 426] 400 288 _ _ _ _ _ ?_
              conv => whnf
              refine pw_st h (fun z630 h => ?_)
              conv => whnf
              refine pw_st h (fun z631 h => ?_)
              conv => whnf
              refine np_gl (L_L_areKeys_294 (dc := dc + 0) (ds := ds + 0) hX hR (fun S646 u632 u634 u635 u636 u639 u640 u641 u642 u643 u644 u645 f647 ce684 sl685 ho633 ho637 ho638 hc686 hs687 hW648 h => ?_) (pw_F 25) S627 u614 u616 u617 u618 u621 u622 u623 u624 u625 u626 z630 z631 f628 _ _ ho615 ho619 ho620 (by have e9 := pw_F_eq 25; omega) (by have e9 := pw_F_eq 25; omega) hW629 h) ⟨rfl, rfl, rfl, rfl, rfl, rfl, rfl, rfl, rfl, rfl, rfl, trivial⟩
              · refine np_gl (J_L_areKeys_366 (dc := dc) (ds := ds) hX hR (fun S660 u649 u651 u652 u653 u656 u657 u658 u659 f661 ce663 sl664 ho650 ho654 ho655 hc665 hs666 hW662 h => np_gl (hk22 S660 u649 u651 u652 u653 u656 u657 u658 u659 f661 _ _ ho650 ho654 ho655 (by omega) (by omega) hW662 h) ⟨rfl, rfl, rfl, rfl, rfl, rfl, rfl, trivial⟩) (fun S677 u667 u669 u670 u671 u674 u675 u676 f678 ce680 sl681 ho668 ho672 ho673 hc682 hs683 hW679 h => np_gl (hk420 S677 u667 u669 u670 u671 u674 u675 u676 f678 _ _ ho668 ho672 ho673 (by omega) (by omega) hW679 h) ⟨rfl, rfl, rfl, rfl, rfl, rfl, trivial⟩) S646 u632 u634 u635 u636 u639 u640 u641 u642 u643 u644 u645 f647 _ _ ho633 ho637 ho638 (by omega) (by omega) hW648 h) ?_
                exact ⟨rfl, rfl, rfl, rfl, rfl, rfl, rfl, rfl, rfl, rfl, trivial⟩
        · exact (pw_pn h).elim
      · conv => whnf
        refine pw_st h (fun z692 h => ?_)
        conv => whnf
        refine pw_st h (fun z693 h => ?_)
        conv => whnf
        refine pw_st h (fun z694 h => ?_)
        conv => whnf
        refine np_gl (L_L_areKeys_235 (dc := dc + 50) (ds := ds + 300) hX hR (fun S708 u695 u697 u698 u699 u702 u703 u704 u705 u706 u707 f709 ce769 sl770 ho696 ho700 ho701 hc771 hs772 hW710 h => ?_) (pw_F 11) S347 v0 v1 va2 vi2 v3 z692 v5 v6 v7 v9 z693 z694 f348 _ _ hv0 ha2 hi2 (by have e9 := pw_F_eq 11; omega) (by have e9 := pw_F_eq 11; omega) hW349 h) ⟨rfl, rfl, rfl, rfl, rfl, rfl, rfl, rfl, rfl, rfl, rfl, trivial⟩
        · refine np_soundW (so_L_areKeys hX hR) [8, 22, 73, 107, 128, 161, 235, 294, 366, 420, 426] 400 288 _ _ _ _ _ ?_
          conv => whnf
          refine pw_st h (fun z711 h => ?_)
          conv => whnf
          refine pw_st h (fun z712 h => ?_)
          conv => whnf
          refine np_gl (L_L_areKeys_294 (dc := dc + 0) (ds := ds + 0) hX hR (fun S727 u713 u715 u716 u717 u720 u721 u722 u723 u724 u725 u726 f728 ce765 sl766 ho714 ho718 ho719 hc767 hs768 hW729 h => ?_) (pw_F 25) S708 u695 u697 u698 u699 u702 u703 u704 u705 u706 u707 z711 z712 f709 _ _ ho696 ho700 ho701 (by have e9 := pw_F_eq 25; omega) (by have e9 := pw_F_eq 25; omega) hW710 h) ⟨rfl, rfl, rfl, rfl, rfl, rfl, rfl, rfl, rfl, rfl, rfl, trivial⟩
          · refine np_gl (J_L_areKeys_366 (dc := dc) (ds := ds) hX hR (fun S741 u730 u732 u733 u734 u737 u738 u739 u740 f742 ce744 sl745 ho731 ho735 ho736 hc746 hs747 hW743 h => np_gl (hk22 S741 u730 u732 u733 u734 u737 u738 u739 u740 f742 _ _ ho731 ho735 ho736 (by omega) (by omega) hW743 h) ⟨rfl, rfl, rfl, rfl, rfl, rfl, rfl, trivial⟩) (fun S758 u748 u750 u751 u752 u755 u756 u757 f759 ce761 sl762 ho749 ho753 ho754 hc763 hs764 hW760 h => np_gl (hk420 S758 u748 u750 u751 u752 u755 u756 u757 f759 _ _ ho749 ho753 ho754 (by omega) (by omega) hW760 h) ⟨rfl, rfl, rfl, rfl, rfl, rfl, trivial⟩) S727 u713 u715 u716 u717 u720 u721 u722 u723 u724 u725 u726 f728 _ _ ho714 ho718 ho719 (by omega) (by omega) hW729 h) ?_
            exact ⟨rfl, rfl, rfl, rfl, rfl, rfl, rfl, rfl, rfl, rfl, trivial⟩
    · exact (pw_pn h).elim
noncomputable def m_L_areKeys_22 (k420 : pw_S → Nat → Int32 → Nat → Nat → Int32 → Int32 → Int32 → pw_R Int32) : Nat → pw_S → Nat → Int32 → Nat → Nat → Int32 → Int32 → Int32 → Int32 → pw_R Int32
| 0, _, _, _, _, _, _, _, _, _ => none
| N + 1, S, v0, v1, va2, vi2, v3, v4, v5, v6 =>
 pw_c (np_inb (5 + (6 * v5)) (pw_len va2)) <|
 if (S va2 vi2 ((5 + (6 * v5)) : Int32).toNatClampNeg) ≤ v6 then
 (k420 S v0 v1 va2 vi2 v3 v4 v5)
 else
 (if v4 = 0 then
 (k420 S v0 v1 va2 vi2 v3 v4 v5)
 else
 (pw_b (m_X11_cell S v0 v5 v6 v1 0) fun S773 r776 =>
 pw_e r776 (fun r778 =>
 (pw_l (r778 : Int32) fun z780 =>
 pw_l (0 : Int32) fun z781 =>
 if z780 = (-2147483648) then
 (pw_l (0 : Int32) fun z782 =>
 pw_l (0 : Int32) fun z783 =>
 m_L_areKeys_73
 (fun S797 u784 u786 u787 u788 u791 u792 u793 u794 u795 u796 =>
 (m_L_areKeys_j161 (fun S811 u800 u802 u803 u804 u807 u808 u809 u810 => m_L_areKeys_22 k420 N S811 u800 u802 u803 u804 u807 u808 u809 u810) (fun S828 u818 u820 u821 u822 u825 u826 u827 => k420 S828 u818 u820 u821 u822 u825 u826 u827) S797 u784 u786 u787 u788 u791 u792 u793 u794 u795 u796)) (pw_F 11) S773 v0 v1 va2 vi2 v3 v5 v6 z780 z781 z782 z783)
 else
 (pw_l (1 : Int32) fun z839 =>
 pw_l (0 : Int32) fun z840 =>
 m_L_areKeys_73
 (fun S854 u841 u843 u844 u845 u848 u849 u850 u851 u852 u853 =>
 (m_L_areKeys_j161 (fun S868 u857 u859 u860 u861 u864 u865 u866 u867 => m_L_areKeys_22 k420 N S868 u857 u859 u860 u861 u864 u865 u866 u867) (fun S885 u875 u877 u878 u879 u882 u883 u884 => k420 S885 u875 u877 u878 u879 u882 u883 u884) S854 u841 u843 u844 u845 u848 u849 u850 u851 u852 u853)) (pw_F 11) S773 v0 v1 va2 vi2 v3 v5 v6 z780 z781 z839 z840))) (fun _ => none)))
set_option maxRecDepth 100000 in
set_option maxHeartbeats 8000000 in
theorem L_L_areKeys_22 {X : np_Ctx} (hX : np_ok RL cL_areKeys 13 7 160 2510 15060 .ireturn X) {Q : Option Value → np_W → Prop} {q : Nat} {n dc ds : Nat} (hR : ∀ st w ce sl, np_rt (some .boolean) 2510 15060 Q st w ce sl → X.2.2.1 st w ce sl) {k420 : pw_S → Nat → Int32 → Nat → Nat → Int32 → Int32 → Int32 → pw_R Int32} (hk420 : ∀ (S : pw_S) (v0 : Nat) (v1 : Int32) (va2 : Nat) (vi2 : Nat) (v3 : Int32) (v4 : Int32) (v5 : Int32) (f : Nat → Option np_E) (ce sl : Nat) (hv0 : pw_ok q 61 v0 = true) (ha2 : pw_arr va2 = true) (hi2 : pw_ok q va2 vi2 = true), ce + dc ≤ 2510 → sl + ds ≤ 15060 → pw_W q (n, f) S → pw_p (k420 S v0 v1 va2 vi2 v3 v4 v5) (fun S' r => ∀ f', pw_W q (n, f') S' → Q (some (.int r)) (n, f')) → np_G X 420 [(0, .ref (pw_pl 61 v0)), (1, .int v1), (2, .ref (pw_pl va2 vi2)), (3, .int v3), (4, .int v4), (5, .int v5)] [] (n, f) ce sl) : ∀ (N : Nat) (S : pw_S) (v0 : Nat) (v1 : Int32) (va2 : Nat) (vi2 : Nat) (v3 : Int32) (v4 : Int32) (v5 : Int32) (v6 : Int32) (f : Nat → Option np_E) (ce sl : Nat) (hv0 : pw_ok q 61 v0 = true) (ha2 : pw_arr va2 = true) (hi2 : pw_ok q va2 vi2 = true), ce + N * 76 + dc ≤ 2510 → sl + N * 456 + ds ≤ 15060 → pw_W q (n, f) S → pw_p (m_L_areKeys_22 k420 N S v0 v1 va2 vi2 v3 v4 v5 v6) (fun S' r => ∀ f', pw_W q (n, f') S' → Q (some (.int r)) (n, f')) → np_G X 22 [(0, .ref (pw_pl 61 v0)), (1, .int v1), (2, .ref (pw_pl va2 vi2)), (3, .int v3), (4, .int v4), (5, .int v5), (6, .int v6)] [] (n, f) ce sl := by
  intro N
  induction N with
  | zero =>
    intro S v0 v1 va2 vi2 v3 v4 v5 v6 f ce sl hv0 ha2 hi2 hc hs hW h
    exact (pw_pn h).elim
  | succ N ih =>
    intro S v0 v1 va2 vi2 v3 v4 v5 v6 f ce sl hv0 ha2 hi2 hc hs hW h
    unfold m_L_areKeys_22 at h
    refine np_soundW (so_L_areKeys hX hR) [8, 22, 73, 107, 128, 161, 235, 294, 366, 420, 426] 400 22 _ _ _ _ _ ?_
    conv => whnf
    refine np_rd_i (hW.ga ha2 hi2) ?_
    conv => whnf
    refine pw_ck h (fun _ h => ?_)
    conv => whnf
    refine pw_br h (fun _ h => ?_) (fun _ h => ?_)
    · conv => whnf
      exact np_gl (hk420 S v0 v1 va2 vi2 v3 v4 v5 f _ _ hv0 ha2 hi2 (by omega) (by omega) hW h) ⟨rfl, rfl, rfl, rfl, rfl, rfl, trivial⟩
    · conv => whnf
      refine pw_br h (fun _ h => ?_) (fun _ h => ?_)
      · conv => whnf
        exact np_gl (hk420 S v0 v1 va2 vi2 v3 v4 v5 f _ _ hv0 ha2 hi2 (by omega) (by omega) hW h) ⟨rfl, rfl, rfl, rfl, rfl, rfl, trivial⟩
      · conv => whnf
        refine np_rd_i (hW.g hv0) ?_
        conv => whnf
        refine np_chk_i (pw_and rfl (pw_and rfl (pw_and rfl (pw_and rfl ((pw_and (pw_le (by omega)) (pw_le (by omega)))))))) ?_
        conv => whnf
        refine ⟨q, S, v0, v5, v6, v1, 0, rfl, hv0, hW, pw_bd h (fun S773 r776 h f774 hW775 => ?_)⟩
        rcases r776 with r778 | e779
        · replace h := pw_ei h
          conv => whnf
          refine pw_st h (fun z780 h => ?_)
          conv => whnf
          refine pw_st h (fun z781 h => ?_)
          conv => whnf
          refine pw_br h (fun _ h => ?_) (fun _ h => ?_)
          · conv => whnf
            refine pw_st h (fun z782 h => ?_)
            conv => whnf
            refine pw_st h (fun z783 h => ?_)
            conv => whnf
            refine np_gl (L_L_areKeys_73 (dc := N * 76 + dc + 64) (ds := N * 456 + ds + 384) hX hR (fun S797 u784 u786 u787 u788 u791 u792 u793 u794 u795 u796 f798 ce835 sl836 ho785 ho789 ho790 hc837 hs838 hW799 h => ?_) (pw_F 11) S773 v0 v1 va2 vi2 v3 v5 v6 z780 z781 z782 z783 f774 _ _ hv0 ha2 hi2 (by have e9 := pw_F_eq 11; omega) (by have e9 := pw_F_eq 11; omega) hW775 h) ⟨rfl, rfl, rfl, rfl, rfl, rfl, rfl, rfl, rfl, rfl, trivial⟩
            · refine np_gl (J_L_areKeys_161 (dc := N * 76 + dc) (ds := N * 456 + ds) hX hR (fun S811 u800 u802 u803 u804 u807 u808 u809 u810 f812 ce814 sl815 ho801 ho805 ho806 hc816 hs817 hW813 h => np_gl (ih S811 u800 u802 u803 u804 u807 u808 u809 u810 f812 _ _ ho801 ho805 ho806 (by omega) (by omega) hW813 h) ⟨rfl, rfl, rfl, rfl, rfl, rfl, rfl, trivial⟩) (fun S828 u818 u820 u821 u822 u825 u826 u827 f829 ce831 sl832 ho819 ho823 ho824 hc833 hs834 hW830 h => np_gl (hk420 S828 u818 u820 u821 u822 u825 u826 u827 f829 _ _ ho819 ho823 ho824 (by omega) (by omega) hW830 h) ⟨rfl, rfl, rfl, rfl, rfl, rfl, trivial⟩) S797 u784 u786 u787 u788 u791 u792 u793 u794 u795 u796 f798 _ _ ho785 ho789 ho790 (by omega) (by omega) hW799 h) ?_
              exact ⟨rfl, rfl, rfl, rfl, rfl, rfl, rfl, rfl, rfl, trivial⟩
          · conv => whnf
            refine pw_st h (fun z839 h => ?_)
            conv => whnf
            refine pw_st h (fun z840 h => ?_)
            conv => whnf
            refine np_gl (L_L_areKeys_73 (dc := N * 76 + dc + 64) (ds := N * 456 + ds + 384) hX hR (fun S854 u841 u843 u844 u845 u848 u849 u850 u851 u852 u853 f855 ce892 sl893 ho842 ho846 ho847 hc894 hs895 hW856 h => ?_) (pw_F 11) S773 v0 v1 va2 vi2 v3 v5 v6 z780 z781 z839 z840 f774 _ _ hv0 ha2 hi2 (by have e9 := pw_F_eq 11; omega) (by have e9 := pw_F_eq 11; omega) hW775 h) ⟨rfl, rfl, rfl, rfl, rfl, rfl, rfl, rfl, rfl, rfl, trivial⟩
            · refine np_gl (J_L_areKeys_161 (dc := N * 76 + dc) (ds := N * 456 + ds) hX hR (fun S868 u857 u859 u860 u861 u864 u865 u866 u867 f869 ce871 sl872 ho858 ho862 ho863 hc873 hs874 hW870 h => np_gl (ih S868 u857 u859 u860 u861 u864 u865 u866 u867 f869 _ _ ho858 ho862 ho863 (by omega) (by omega) hW870 h) ⟨rfl, rfl, rfl, rfl, rfl, rfl, rfl, trivial⟩) (fun S885 u875 u877 u878 u879 u882 u883 u884 f886 ce888 sl889 ho876 ho880 ho881 hc890 hs891 hW887 h => np_gl (hk420 S885 u875 u877 u878 u879 u882 u883 u884 f886 _ _ ho876 ho880 ho881 (by omega) (by omega) hW887 h) ⟨rfl, rfl, rfl, rfl, rfl, rfl, trivial⟩) S854 u841 u843 u844 u845 u848 u849 u850 u851 u852 u853 f855 _ _ ho842 ho846 ho847 (by omega) (by omega) hW856 h) ?_
              exact ⟨rfl, rfl, rfl, rfl, rfl, rfl, rfl, rfl, rfl, trivial⟩
        · exact (pw_pn h).elim
noncomputable def m_L_areKeys_8 (k426 : pw_S → Nat → Int32 → Int32 → Int32 → pw_R Int32) : Nat → pw_S → Nat → Int32 → Nat → Nat → Int32 → Int32 → Int32 → pw_R Int32
| 0, _, _, _, _, _, _, _, _ => none
| N + 1, S, v0, v1, va2, vi2, v3, v4, v5 =>
 if 2 ≤ v5 then
 (k426 S v0 v1 v3 v4)
 else
 (if v4 = 0 then
 (k426 S v0 v1 v3 v4)
 else
 (pw_l (0 : Int32) fun z896 =>
 m_L_areKeys_22
 (fun S907 u897 u899 u900 u901 u904 u905 u906 =>
 (pw_l (u906 + 1 : Int32) fun z910 =>
 m_L_areKeys_8 k426 N S907 u897 u899 u900 u901 u904 u905 z910)) (pw_F 11) S v0 v1 va2 vi2 v3 v4 v5 z896))
set_option maxRecDepth 100000 in
set_option maxHeartbeats 8000000 in
theorem L_L_areKeys_8 {X : np_Ctx} (hX : np_ok RL cL_areKeys 13 7 160 2510 15060 .ireturn X) {Q : Option Value → np_W → Prop} {q : Nat} {n dc ds : Nat} (hR : ∀ st w ce sl, np_rt (some .boolean) 2510 15060 Q st w ce sl → X.2.2.1 st w ce sl) {k426 : pw_S → Nat → Int32 → Int32 → Int32 → pw_R Int32} (hk426 : ∀ (S : pw_S) (v0 : Nat) (v1 : Int32) (v3 : Int32) (v4 : Int32) (f : Nat → Option np_E) (ce sl : Nat) (hv0 : pw_ok q 61 v0 = true), ce + dc ≤ 2510 → sl + ds ≤ 15060 → pw_W q (n, f) S → pw_p (k426 S v0 v1 v3 v4) (fun S' r => ∀ f', pw_W q (n, f') S' → Q (some (.int r)) (n, f')) → np_G X 426 [(0, .ref (pw_pl 61 v0)), (1, .int v1), (3, .int v3), (4, .int v4)] [] (n, f) ce sl) : ∀ (N : Nat) (S : pw_S) (v0 : Nat) (v1 : Int32) (va2 : Nat) (vi2 : Nat) (v3 : Int32) (v4 : Int32) (v5 : Int32) (f : Nat → Option np_E) (ce sl : Nat) (hv0 : pw_ok q 61 v0 = true) (ha2 : pw_arr va2 = true) (hi2 : pw_ok q va2 vi2 = true), ce + N * 836 + dc ≤ 2510 → sl + N * 5016 + ds ≤ 15060 → pw_W q (n, f) S → pw_p (m_L_areKeys_8 k426 N S v0 v1 va2 vi2 v3 v4 v5) (fun S' r => ∀ f', pw_W q (n, f') S' → Q (some (.int r)) (n, f')) → np_G X 8 [(0, .ref (pw_pl 61 v0)), (1, .int v1), (2, .ref (pw_pl va2 vi2)), (3, .int v3), (4, .int v4), (5, .int v5)] [] (n, f) ce sl := by
  intro N
  induction N with
  | zero =>
    intro S v0 v1 va2 vi2 v3 v4 v5 f ce sl hv0 ha2 hi2 hc hs hW h
    exact (pw_pn h).elim
  | succ N ih =>
    intro S v0 v1 va2 vi2 v3 v4 v5 f ce sl hv0 ha2 hi2 hc hs hW h
    unfold m_L_areKeys_8 at h
    refine np_soundW (so_L_areKeys hX hR) [8, 22, 73, 107, 128, 161, 235, 294, 366, 426] 400 8 _ _ _ _ _ ?_
    conv => whnf
    refine pw_br h (fun _ h => ?_) (fun _ h => ?_)
    · conv => whnf
      exact np_gl (hk426 S v0 v1 v3 v4 f _ _ hv0 (by omega) (by omega) hW h) ⟨rfl, rfl, rfl, rfl, trivial⟩
    · conv => whnf
      refine pw_br h (fun _ h => ?_) (fun _ h => ?_)
      · conv => whnf
        exact np_gl (hk426 S v0 v1 v3 v4 f _ _ hv0 (by omega) (by omega) hW h) ⟨rfl, rfl, rfl, rfl, trivial⟩
      · conv => whnf
        refine pw_st h (fun z896 h => ?_)
        conv => whnf
        refine np_gl (L_L_areKeys_22 (dc := N * 836 + dc + 0) (ds := N * 5016 + ds + 0) hX hR (fun S907 u897 u899 u900 u901 u904 u905 u906 f908 ce911 sl912 ho898 ho902 ho903 hc913 hs914 hW909 h => ?_) (pw_F 11) S v0 v1 va2 vi2 v3 v4 v5 z896 f _ _ hv0 ha2 hi2 (by have e9 := pw_F_eq 11; omega) (by have e9 := pw_F_eq 11; omega) hW h) ⟨rfl, rfl, rfl, rfl, rfl, rfl, rfl, trivial⟩
        · refine np_soundW (so_L_areKeys hX hR) [8, 22, 73, 107, 128, 161, 235, 294, 366, 426] 400 420 _ _ _ _ _ ?_
          conv => whnf
          refine pw_st h (fun z910 h => ?_)
          conv => whnf
          exact np_gl (ih S907 u897 u899 u900 u901 u904 u905 z910 f908 _ _ ho898 ho902 ho903 (by omega) (by omega) hW909 h) ⟨rfl, rfl, rfl, rfl, rfl, rfl, trivial⟩
noncomputable def m_L_areKeys_j426  (S : pw_S) (v0 : Nat) (v1 : Int32) (v3 : Int32) (v4 : Int32) : pw_R Int32 :=
 if v4 = 0 then
 (some (S, 0))
 else
 (pw_b (m_X11_compare S v0 v1) fun S915 r918 =>
 pw_e r918 (fun r920 =>
 (if r920 = v3 then
 (pw_b (m_X11_find S915 v0 0 v1 (-1) 0) fun S922 r925 =>
 pw_e r925 (fun r927 =>
 (if r927 = (-1) then
 (some (S922, 1))
 else
 (some (S922, 0)))) (fun _ => none))
 else
 (some (S915, 0)))) (fun _ => none))
set_option maxRecDepth 100000 in
set_option maxHeartbeats 8000000 in
theorem J_L_areKeys_426 {X : np_Ctx} (hX : np_ok RL cL_areKeys 13 7 160 2510 15060 .ireturn X) {Q : Option Value → np_W → Prop} {q : Nat} {n dc ds : Nat} (hR : ∀ st w ce sl, np_rt (some .boolean) 2510 15060 Q st w ce sl → X.2.2.1 st w ce sl) (S : pw_S) (v0 : Nat) (v1 : Int32) (v3 : Int32) (v4 : Int32) (f : Nat → Option np_E) (ce sl : Nat) (hv0 : pw_ok q 61 v0 = true) (hc : ce + 2 + dc ≤ 2510) (hs : sl + 12 + ds ≤ 15060) (hW : pw_W q (n, f) S) (h : pw_p (m_L_areKeys_j426 S v0 v1 v3 v4) (fun S' r => ∀ f', pw_W q (n, f') S' → Q (some (.int r)) (n, f'))) : np_G X 426 [(0, .ref (pw_pl 61 v0)), (1, .int v1), (3, .int v3), (4, .int v4)] [] (n, f) ce sl := by
  unfold m_L_areKeys_j426 at h
  refine np_soundW (so_L_areKeys hX hR) [8, 22, 73, 107, 128, 161, 235, 294, 366, 426] 400 426 _ _ _ _ _ ?_
  conv => whnf
  refine pw_br h (fun _ h => ?_) (fun _ h => ?_)
  · conv => whnf
    exact ⟨(by omega), (by omega), ⟨_, rfl, by decide⟩, _, fun _ _ h9 => h9, pw_ps h _ hW⟩
  · conv => whnf
    refine np_rd_i (hW.g hv0) ?_
    conv => whnf
    refine np_chk_i (pw_and rfl (pw_and rfl (pw_and rfl (pw_and rfl ((pw_and (pw_le (by omega)) (pw_le (by omega)))))))) ?_
    conv => whnf
    refine ⟨q, S, v0, v1, rfl, hv0, hW, pw_bd h (fun S915 r918 h f916 hW917 => ?_)⟩
    rcases r918 with r920 | e921
    · replace h := pw_ei h
      conv => whnf
      refine pw_br h (fun _ h => ?_) (fun _ h => ?_)
      · conv => whnf
        refine np_rd_i (hW917.g hv0) ?_
        conv => whnf
        refine np_chk_i (pw_and rfl (pw_and rfl (pw_and rfl (pw_and rfl ((pw_and (pw_le (by omega)) (pw_le (by omega)))))))) ?_
        conv => whnf
        refine ⟨q, S915, v0, 0, v1, (-1), 0, rfl, hv0, hW917, pw_bd h (fun S922 r925 h f923 hW924 => ?_)⟩
        rcases r925 with r927 | e928
        · replace h := pw_ei h
          conv => whnf
          refine pw_br h (fun _ h => ?_) (fun _ h => ?_)
          · conv => whnf
            exact ⟨(by omega), (by omega), ⟨_, rfl, by decide⟩, _, fun _ _ h9 => h9, pw_ps h _ hW924⟩
          · conv => whnf
            exact ⟨(by omega), (by omega), ⟨_, rfl, by decide⟩, _, fun _ _ h9 => h9, pw_ps h _ hW924⟩
        · exact (pw_pn h).elim
      · conv => whnf
        exact ⟨(by omega), (by omega), ⟨_, rfl, by decide⟩, _, fun _ _ h9 => h9, pw_ps h _ hW917⟩
    · exact (pw_pn h).elim
noncomputable def m_L_areKeys (S : pw_S) (i0 : Nat) (x1 : Int32) (a2 : Nat) (i2 : Nat) : pw_R Int32 :=
 pw_l (0 : Int32) fun z929 =>
 pw_l (1 : Int32) fun z930 =>
 pw_l (0 : Int32) fun z931 =>
 m_L_areKeys_8
 (fun S937 u932 u934 u935 u936 =>
 (m_L_areKeys_j426 S937 u932 u934 u935 u936)) (pw_F 3) S i0 x1 a2 i2 z929 z930 z931
def sp_L_areKeys : np_Sp := fun vs w Q => ∃ (q : Nat) (S : pw_S) (i0 : Nat) (x1 : Int32) (a2 : Nat) (i2 : Nat), vs = [.ref (pw_pl 61 i0), .int x1, .ref (pw_pl a2 i2)] ∧ pw_ok q 61 i0 = true ∧ pw_arr a2 = true ∧ pw_ok q a2 i2 = true ∧ pw_W q w S ∧ pw_p (m_L_areKeys S i0 x1 a2 i2) (fun S' r => ∀ f', pw_W q (w.1, f') S' → Q (some (.int r)) (w.1, f'))
set_option maxRecDepth 100000 in
set_option maxHeartbeats 8000000 in
theorem C_L_areKeys : np_C yL_areKeys cL_areKeys 13 (some .boolean) 7 160 2510 15060 (sp_L_areKeys) := by
  refine np_of (by decide) ?_
  intro X vs w Q hsp hX hmn hRt hlt
  obtain ⟨q, S, i0, x1, a2, i2, rfl, hi0, ha2, hi2, hW, h⟩ := hsp
  obtain ⟨n, f⟩ := w
  unfold m_L_areKeys at h
  have hR : ∀ st w ce sl, np_rt (some .boolean) 2510 15060 Q st w ce sl → X.2.2.1 st w ce sl := fun _ _ _ _ h => by rw [hRt]; exact h
  refine np_soundW (so_L_areKeys hX hR) [8, 22, 73, 107, 128, 161, 235, 294, 366, 426] 400 0 _ _ _ _ _ ?_
  conv => whnf
  refine pw_st h (fun z929 h => ?_)
  conv => whnf
  refine pw_st h (fun z930 h => ?_)
  conv => whnf
  refine pw_st h (fun z931 h => ?_)
  conv => whnf
  refine np_gl (L_L_areKeys_8 (dc := 2) (ds := 12) hX hR (fun S937 u932 u934 u935 u936 f938 ce940 sl941 ho933 hc942 hs943 hW939 h => ?_) (pw_F 3) S i0 x1 a2 i2 z929 z930 z931 f _ _ hi0 ha2 hi2 (by have e9 := pw_F_eq 3; omega) (by have e9 := pw_F_eq 3; omega) hW h) ⟨rfl, rfl, rfl, rfl, rfl, rfl, trivial⟩
  · refine np_gl (J_L_areKeys_426 (dc := 0) (ds := 0) hX hR S937 u932 u934 u935 u936 f938 _ _ ho933 (by omega) (by omega) hW939 h) ?_
    exact ⟨rfl, rfl, rfl, rfl, trivial⟩
