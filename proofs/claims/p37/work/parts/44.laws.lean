theorem dL_samples_0 : decode cL_samples 0 = .ok (.aload 4, 2) := by decide +kernel
theorem dL_samples_2 : decode cL_samples 2 = .ok (.iconst 0, 1) := by decide +kernel
theorem dL_samples_3 : decode cL_samples 3 = .ok (.iaload, 1) := by decide +kernel
theorem dL_samples_4 : decode cL_samples 4 = .ok (.ifCond .eq 13, 3) := by decide +kernel
theorem dL_samples_7 : decode cL_samples 7 = .ok (.aload 4, 2) := by decide +kernel
theorem dL_samples_9 : decode cL_samples 9 = .ok (.bipush 15, 2) := by decide +kernel
theorem dL_samples_11 : decode cL_samples 11 = .ok (.iaload, 1) := by decide +kernel
theorem dL_samples_12 : decode cL_samples 12 = .ok (.bipush 8, 2) := by decide +kernel
theorem dL_samples_14 : decode cL_samples 14 = .ok (.if_icmp .ne 5, 3) := by decide +kernel
theorem dL_samples_17 : decode cL_samples 17 = .ok (.iconst 1, 1) := by decide +kernel
theorem dL_samples_18 : decode cL_samples 18 = .ok (.ireturn, 1) := by decide +kernel
theorem dL_samples_19 : decode cL_samples 19 = .ok (.iload_n 1, 1) := by decide +kernel
theorem dL_samples_20 : decode cL_samples 20 = .ok (.aload 4, 2) := by decide +kernel
theorem dL_samples_22 : decode cL_samples 22 = .ok (.iconst 0, 1) := by decide +kernel
theorem dL_samples_23 : decode cL_samples 23 = .ok (.iaload, 1) := by decide +kernel
theorem dL_samples_24 : decode cL_samples 24 = .ok (.irem, 1) := by decide +kernel
theorem dL_samples_25 : decode cL_samples 25 = .ok (.istore 5, 2) := by decide +kernel
theorem dL_samples_27 : decode cL_samples 27 = .ok (.iload_n 2, 1) := by decide +kernel
theorem dL_samples_28 : decode cL_samples 28 = .ok (.ldc 93, 2) := by decide +kernel
theorem dL_samples_30 : decode cL_samples 30 = .ok (.irem, 1) := by decide +kernel
theorem dL_samples_31 : decode cL_samples 31 = .ok (.istore 6, 2) := by decide +kernel
theorem dL_samples_33 : decode cL_samples 33 = .ok (.aload 4, 2) := by decide +kernel
theorem dL_samples_35 : decode cL_samples 35 = .ok (.bipush 15, 2) := by decide +kernel
theorem dL_samples_37 : decode cL_samples 37 = .ok (.dup2, 1) := by decide +kernel
theorem dL_samples_38 : decode cL_samples 38 = .ok (.iaload, 1) := by decide +kernel
theorem dL_samples_39 : decode cL_samples 39 = .ok (.iconst 1, 1) := by decide +kernel
theorem dL_samples_40 : decode cL_samples 40 = .ok (.iadd, 1) := by decide +kernel
theorem dL_samples_41 : decode cL_samples 41 = .ok (.iastore, 1) := by decide +kernel
theorem dL_samples_42 : decode cL_samples 42 = .ok (.aload_n 0, 1) := by decide +kernel
theorem dL_samples_43 : decode cL_samples 43 = .ok (.aload_n 3, 1) := by decide +kernel
theorem dL_samples_44 : decode cL_samples 44 = .ok (.invokestatic 94, 3) := by decide +kernel
theorem dL_samples_47 : decode cL_samples 47 = .ok (.aload_n 0, 1) := by decide +kernel
theorem dL_samples_48 : decode cL_samples 48 = .ok (.iload 5, 2) := by decide +kernel
theorem dL_samples_50 : decode cL_samples 50 = .ok (.iload 6, 2) := by decide +kernel
theorem dL_samples_52 : decode cL_samples 52 = .ok (.invokevirtual 98, 3) := by decide +kernel
theorem dL_samples_55 : decode cL_samples 55 = .ok (.ifCond .ne 28, 3) := by decide +kernel
theorem dL_samples_58 : decode cL_samples 58 = .ok (.aload_n 0, 1) := by decide +kernel
theorem dL_samples_59 : decode cL_samples 59 = .ok (.aload_n 3, 1) := by decide +kernel
theorem dL_samples_60 : decode cL_samples 60 = .ok (.invokestatic 89, 3) := by decide +kernel
theorem dL_samples_63 : decode cL_samples 63 = .ok (.ifCond .eq 18, 3) := by decide +kernel
theorem dL_samples_66 : decode cL_samples 66 = .ok (.aload_n 0, 1) := by decide +kernel
theorem dL_samples_67 : decode cL_samples 67 = .ok (.iload 5, 2) := by decide +kernel
theorem dL_samples_69 : decode cL_samples 69 = .ok (.iload 6, 2) := by decide +kernel
theorem dL_samples_71 : decode cL_samples 71 = .ok (.invokevirtual 98, 3) := by decide +kernel
theorem dL_samples_74 : decode cL_samples 74 = .ok (.ifCond .ne 7, 3) := by decide +kernel
theorem dL_samples_77 : decode cL_samples 77 = .ok (.iconst 1, 1) := by decide +kernel
theorem dL_samples_78 : decode cL_samples 78 = .ok (.goto 4, 3) := by decide +kernel
theorem dL_samples_81 : decode cL_samples 81 = .ok (.iconst 0, 1) := by decide +kernel
theorem dL_samples_82 : decode cL_samples 82 = .ok (.ireturn, 1) := by decide +kernel
theorem dL_samples_83 : decode cL_samples 83 = .ok (.aload_n 0, 1) := by decide +kernel
theorem dL_samples_84 : decode cL_samples 84 = .ok (.aload_n 3, 1) := by decide +kernel
theorem dL_samples_85 : decode cL_samples 85 = .ok (.invokestatic 94, 3) := by decide +kernel
theorem dL_samples_88 : decode cL_samples 88 = .ok (.aload_n 0, 1) := by decide +kernel
theorem dL_samples_89 : decode cL_samples 89 = .ok (.iload 5, 2) := by decide +kernel
theorem dL_samples_91 : decode cL_samples 91 = .ok (.invokevirtual 102, 3) := by decide +kernel
theorem dL_samples_94 : decode cL_samples 94 = .ok (.ifCond .ne 26, 3) := by decide +kernel
theorem dL_samples_97 : decode cL_samples 97 = .ok (.aload_n 0, 1) := by decide +kernel
theorem dL_samples_98 : decode cL_samples 98 = .ok (.iload 5, 2) := by decide +kernel
theorem dL_samples_100 : decode cL_samples 100 = .ok (.iload 6, 2) := by decide +kernel
theorem dL_samples_102 : decode cL_samples 102 = .ok (.invokevirtual 98, 3) := by decide +kernel
theorem dL_samples_105 : decode cL_samples 105 = .ok (.ifCond .eq 15, 3) := by decide +kernel
theorem dL_samples_108 : decode cL_samples 108 = .ok (.aload_n 0, 1) := by decide +kernel
theorem dL_samples_109 : decode cL_samples 109 = .ok (.aload_n 3, 1) := by decide +kernel
theorem dL_samples_110 : decode cL_samples 110 = .ok (.invokestatic 89, 3) := by decide +kernel
theorem dL_samples_113 : decode cL_samples 113 = .ok (.ifCond .eq 7, 3) := by decide +kernel
theorem dL_samples_116 : decode cL_samples 116 = .ok (.iconst 1, 1) := by decide +kernel
theorem dL_samples_117 : decode cL_samples 117 = .ok (.goto 4, 3) := by decide +kernel
theorem dL_samples_120 : decode cL_samples 120 = .ok (.iconst 0, 1) := by decide +kernel
theorem dL_samples_121 : decode cL_samples 121 = .ok (.istore 7, 2) := by decide +kernel
theorem dL_samples_123 : decode cL_samples 123 = .ok (.iload_n 1, 1) := by decide +kernel
theorem dL_samples_124 : decode cL_samples 124 = .ok (.iconst 4, 1) := by decide +kernel
theorem dL_samples_125 : decode cL_samples 125 = .ok (.idiv, 1) := by decide +kernel
theorem dL_samples_126 : decode cL_samples 126 = .ok (.iconst 2, 1) := by decide +kernel
theorem dL_samples_127 : decode cL_samples 127 = .ok (.irem, 1) := by decide +kernel
theorem dL_samples_128 : decode cL_samples 128 = .ok (.istore 8, 2) := by decide +kernel
theorem dL_samples_130 : decode cL_samples 130 = .ok (.aload_n 0, 1) := by decide +kernel
theorem dL_samples_131 : decode cL_samples 131 = .ok (.iload 8, 2) := by decide +kernel
theorem dL_samples_133 : decode cL_samples 133 = .ok (.invokestatic 105, 3) := by decide +kernel
theorem dL_samples_136 : decode cL_samples 136 = .ok (.istore 9, 2) := by decide +kernel
theorem dL_samples_138 : decode cL_samples 138 = .ok (.aload_n 0, 1) := by decide +kernel
theorem dL_samples_139 : decode cL_samples 139 = .ok (.iconst 0, 1) := by decide +kernel
theorem dL_samples_140 : decode cL_samples 140 = .ok (.iload 5, 2) := by decide +kernel
theorem dL_samples_142 : decode cL_samples 142 = .ok (.iload 8, 2) := by decide +kernel
theorem dL_samples_144 : decode cL_samples 144 = .ok (.iconst 0, 1) := by decide +kernel
theorem dL_samples_145 : decode cL_samples 145 = .ok (.invokestatic 52, 3) := by decide +kernel
theorem dL_samples_148 : decode cL_samples 148 = .ok (.iconst 1, 1) := by decide +kernel
theorem dL_samples_149 : decode cL_samples 149 = .ok (.isub, 1) := by decide +kernel
theorem dL_samples_150 : decode cL_samples 150 = .ok (.istore 10, 2) := by decide +kernel
theorem dL_samples_152 : decode cL_samples 152 = .ok (.iload 10, 2) := by decide +kernel
theorem dL_samples_154 : decode cL_samples 154 = .ok (.ifCond .ge 44, 3) := by decide +kernel
theorem dL_samples_157 : decode cL_samples 157 = .ok (.iload 7, 2) := by decide +kernel
theorem dL_samples_159 : decode cL_samples 159 = .ok (.ifCond .eq 37, 3) := by decide +kernel
theorem dL_samples_162 : decode cL_samples 162 = .ok (.iload 10, 2) := by decide +kernel
theorem dL_samples_164 : decode cL_samples 164 = .ok (.ldc 48, 2) := by decide +kernel
theorem dL_samples_166 : decode cL_samples 166 = .ok (.if_icmp .ne 30, 3) := by decide +kernel
theorem dL_samples_169 : decode cL_samples 169 = .ok (.aload 4, 2) := by decide +kernel
theorem dL_samples_171 : decode cL_samples 171 = .ok (.bipush 8, 2) := by decide +kernel
theorem dL_samples_173 : decode cL_samples 173 = .ok (.bipush 6, 2) := by decide +kernel
theorem dL_samples_175 : decode cL_samples 175 = .ok (.iload 8, 2) := by decide +kernel
theorem dL_samples_177 : decode cL_samples 177 = .ok (.imul, 1) := by decide +kernel
theorem dL_samples_178 : decode cL_samples 178 = .ok (.iadd, 1) := by decide +kernel
theorem dL_samples_179 : decode cL_samples 179 = .ok (.iaload, 1) := by decide +kernel
theorem dL_samples_180 : decode cL_samples 180 = .ok (.iconst 1, 1) := by decide +kernel
theorem dL_samples_181 : decode cL_samples 181 = .ok (.if_icmp .eq 11, 3) := by decide +kernel
theorem dL_samples_184 : decode cL_samples 184 = .ok (.iload 9, 2) := by decide +kernel
theorem dL_samples_186 : decode cL_samples 186 = .ok (.sipush 238, 3) := by decide +kernel
theorem dL_samples_189 : decode cL_samples 189 = .ok (.if_icmp .le 7, 3) := by decide +kernel
theorem dL_samples_192 : decode cL_samples 192 = .ok (.iconst 1, 1) := by decide +kernel
theorem dL_samples_193 : decode cL_samples 193 = .ok (.goto 4, 3) := by decide +kernel
theorem dL_samples_196 : decode cL_samples 196 = .ok (.iconst 0, 1) := by decide +kernel
theorem dL_samples_197 : decode cL_samples 197 = .ok (.ireturn, 1) := by decide +kernel
theorem dL_samples_198 : decode cL_samples 198 = .ok (.aload 4, 2) := by decide +kernel
theorem dL_samples_200 : decode cL_samples 200 = .ok (.bipush 16, 2) := by decide +kernel
theorem dL_samples_202 : decode cL_samples 202 = .ok (.dup2, 1) := by decide +kernel
theorem dL_samples_203 : decode cL_samples 203 = .ok (.iaload, 1) := by decide +kernel
theorem dL_samples_204 : decode cL_samples 204 = .ok (.iconst 1, 1) := by decide +kernel
theorem dL_samples_205 : decode cL_samples 205 = .ok (.iadd, 1) := by decide +kernel
theorem dL_samples_206 : decode cL_samples 206 = .ok (.iastore, 1) := by decide +kernel
theorem dL_samples_207 : decode cL_samples 207 = .ok (.iload 7, 2) := by decide +kernel
theorem dL_samples_209 : decode cL_samples 209 = .ok (.ifCond .eq 58, 3) := by decide +kernel
theorem dL_samples_212 : decode cL_samples 212 = .ok (.aload_n 0, 1) := by decide +kernel
theorem dL_samples_213 : decode cL_samples 213 = .ok (.iload 8, 2) := by decide +kernel
theorem dL_samples_215 : decode cL_samples 215 = .ok (.invokestatic 105, 3) := by decide +kernel
theorem dL_samples_218 : decode cL_samples 218 = .ok (.iload 10, 2) := by decide +kernel
theorem dL_samples_220 : decode cL_samples 220 = .ok (.iconst 1, 1) := by decide +kernel
theorem dL_samples_221 : decode cL_samples 221 = .ok (.iadd, 1) := by decide +kernel
theorem dL_samples_222 : decode cL_samples 222 = .ok (.if_icmp .ne 45, 3) := by decide +kernel
theorem dL_samples_225 : decode cL_samples 225 = .ok (.aload_n 0, 1) := by decide +kernel
theorem dL_samples_226 : decode cL_samples 226 = .ok (.iload 8, 2) := by decide +kernel
theorem dL_samples_228 : decode cL_samples 228 = .ok (.iload 10, 2) := by decide +kernel
theorem dL_samples_230 : decode cL_samples 230 = .ok (.invokevirtual 33, 3) := by decide +kernel
theorem dL_samples_233 : decode cL_samples 233 = .ok (.bipush 10, 2) := by decide +kernel
theorem dL_samples_235 : decode cL_samples 235 = .ok (.if_icmp .ne 32, 3) := by decide +kernel
theorem dL_samples_238 : decode cL_samples 238 = .ok (.aload 4, 2) := by decide +kernel
theorem dL_samples_240 : decode cL_samples 240 = .ok (.bipush 16, 2) := by decide +kernel
theorem dL_samples_242 : decode cL_samples 242 = .ok (.iaload, 1) := by decide +kernel
theorem dL_samples_243 : decode cL_samples 243 = .ok (.iconst 3, 1) := by decide +kernel
theorem dL_samples_244 : decode cL_samples 244 = .ok (.if_icmp .gt 19, 3) := by decide +kernel
theorem dL_samples_247 : decode cL_samples 247 = .ok (.aload_n 0, 1) := by decide +kernel
theorem dL_samples_248 : decode cL_samples 248 = .ok (.iload 5, 2) := by decide +kernel
theorem dL_samples_250 : decode cL_samples 250 = .ok (.iload 8, 2) := by decide +kernel
theorem dL_samples_252 : decode cL_samples 252 = .ok (.iload 9, 2) := by decide +kernel
theorem dL_samples_254 : decode cL_samples 254 = .ok (.iload 10, 2) := by decide +kernel
theorem dL_samples_256 : decode cL_samples 256 = .ok (.aload_n 3, 1) := by decide +kernel
theorem dL_samples_257 : decode cL_samples 257 = .ok (.invokestatic 109, 3) := by decide +kernel
theorem dL_samples_260 : decode cL_samples 260 = .ok (.ifCond .eq 7, 3) := by decide +kernel
theorem dL_samples_263 : decode cL_samples 263 = .ok (.iconst 1, 1) := by decide +kernel
theorem dL_samples_264 : decode cL_samples 264 = .ok (.goto 4, 3) := by decide +kernel
theorem dL_samples_267 : decode cL_samples 267 = .ok (.iconst 0, 1) := by decide +kernel
theorem dL_samples_268 : decode cL_samples 268 = .ok (.ireturn, 1) := by decide +kernel
def is_L_samples (Rt : np_Rt) : List (Nat × np_Op) := [(0, np_ald 2 4), (2, np_push 1 (.int 0)), (3, nw_ialdT .int), (4, nq_if (fun x => x = 0) 17), (7, np_ald 2 4), (9, np_push 2 (.int 15)), (11, nw_ialdT .int), (12, np_push 2 (.int 8)), (14, nq_icne 19), (17, np_push 1 (.int 1)), (18, np_ret Rt), (19, np_ild 1 1), (20, np_ald 2 4), (22, np_push 1 (.int 0)), (23, nw_ialdT .int), (24, nq_ibn (fun x y => x - x / y * y)), (25, nw_ist 2 5), (27, np_ild 1 2), (28, np_push 2 (.int 1000001)), (30, nq_ibn (fun x y => x - x / y * y)), (31, nw_ist 2 6), (33, np_ald 2 4), (35, np_push 2 (.int 15)), (37, nq_dup2), (38, nw_ialdT .int), (39, np_push 1 (.int 1)), (40, np_ib (fun x y => x + y)), (41, nw_iastT .int), (42, np_ald 1 0), (43, np_ald 1 3), (44, nq_call 2 sp_L_notes 3 25 150 792 4752), (47, np_ald 1 0), (48, np_ild 2 5), (50, np_ild 2 6), (52, nw_callVX 11 3 sp_X11_sample 5 1 6 792 4752 []), (55, nq_ifne 83), (58, np_ald 1 0), (59, np_ald 1 3), (60, nq_call 2 sp_L_isNoted 4 25 150 792 4752), (63, nq_if (fun x => x = 0) 81), (66, np_ald 1 0), (67, np_ild 2 5), (69, np_ild 2 6), (71, nw_callVX 11 3 sp_X11_sample 5 1 6 792 4752 []), (74, nq_ifne 81), (77, np_push 1 (.int 1)), (78, np_goto 82), (81, np_push 1 (.int 0)), (82, np_ret Rt), (83, np_ald 1 0), (84, np_ald 1 3), (85, nq_call 2 sp_L_notes 3 25 150 792 4752), (88, np_ald 1 0), (89, np_ild 2 5), (91, nw_callVX 11 2 sp_X11_message 3 1 6 792 4752 []), (94, nq_ifne 120), (97, np_ald 1 0), (98, np_ild 2 5), (100, np_ild 2 6), (102, nw_callVX 11 3 sp_X11_sample 5 1 6 792 4752 []), (105, nq_if (fun x => x = 0) 120), (108, np_ald 1 0), (109, np_ald 1 3), (110, nq_call 2 sp_L_isNoted 4 25 150 792 4752), (113, nq_if (fun x => x = 0) 120), (116, np_push 1 (.int 1)), (117, np_goto 121), (120, np_push 1 (.int 0)), (121, nw_ist 2 7), (123, np_ild 1 1), (124, np_push 1 (.int 4)), (125, nq_ibn (fun x y => x / y)), (126, np_push 1 (.int 2)), (127, nq_ibn (fun x y => x - x / y * y)), (128, nw_ist 2 8), (130, np_ald 1 0), (131, np_ild 2 8), (133, nq_call 2 sp_L_units 3 302 1812 792 4752), (136, nw_ist 2 9), (138, np_ald 1 0), (139, np_push 1 (.int 0)), (140, np_ild 2 5), (142, np_ild 2 8), (144, np_push 1 (.int 0)), (145, nq_call 5 sp_L_asks 6 1 6 792 4752), (148, np_push 1 (.int 1)), (149, np_ib (fun x y => x - y)), (150, nw_ist 2 10), (152, np_ild 2 10), (154, nq_if (fun x => 0 ≤ x) 198), (157, np_ild 2 7), (159, nq_if (fun x => x = 0) 196), (162, np_ild 2 10), (164, np_push 2 (.int (-70009))), (166, nq_icne 196), (169, np_ald 2 4), (171, np_push 2 (.int 8)), (173, np_push 2 (.int 6)), (175, np_ild 2 8), (177, np_ib (fun x y => x * y)), (178, np_ib (fun x y => x + y)), (179, nw_ialdT .int), (180, np_push 1 (.int 1)), (181, nq_ic (fun x y => x = y) 192), (184, np_ild 2 9), (186, np_push 3 (.int 238)), (189, nq_ic (fun x y => x ≤ y) 196), (192, np_push 1 (.int 1)), (193, np_goto 197), (196, np_push 1 (.int 0)), (197, np_ret Rt), (198, np_ald 2 4), (200, np_push 2 (.int 16)), (202, nq_dup2), (203, nw_ialdT .int), (204, np_push 1 (.int 1)), (205, np_ib (fun x y => x + y)), (206, nw_iastT .int), (207, np_ild 2 7), (209, nq_if (fun x => x = 0) 267), (212, np_ald 1 0), (213, np_ild 2 8), (215, nq_call 2 sp_L_units 3 302 1812 792 4752), (218, np_ild 2 10), (220, np_push 1 (.int 1)), (221, np_ib (fun x y => x + y)), (222, nq_icne 267), (225, np_ald 1 0), (226, np_ild 2 8), (228, np_ild 2 10), (230, nw_callVX 11 3 sp_X11_unit 5 1 6 792 4752 []), (233, np_push 2 (.int 10)), (235, nq_icne 267), (238, np_ald 2 4), (240, np_push 2 (.int 16)), (242, nw_ialdT .int), (243, np_push 1 (.int 3)), (244, nq_ic (fun x y => y < x) 263), (247, np_ald 1 0), (248, np_ild 2 5), (250, np_ild 2 8), (252, np_ild 2 9), (254, np_ild 2 10), (256, np_ald 1 3), (257, nq_call 6 sp_L_isReadBack 11 108 648 792 4752), (260, nq_if (fun x => x = 0) 267), (263, np_push 1 (.int 1)), (264, np_goto 268), (267, np_push 1 (.int 0)), (268, np_ret Rt)]
set_option maxRecDepth 20000 in
theorem so_L_samples {X : np_Ctx} {Rt : np_Rt} (hX : np_ok RL cL_samples 11 10 280 792 4752 .ireturn X) (hR : ∀ st w ce sl, Rt st w ce sl → X.2.2.1 st w ce sl) : ∀ q ∈ is_L_samples Rt, np_S X q.1 q.2 :=
  List.forall_mem_cons.mpr ⟨np_s_aload hX dL_samples_0, List.forall_mem_cons.mpr ⟨np_s_iconst hX dL_samples_2 (by decide), List.forall_mem_cons.mpr ⟨np_S.mono (op := np_ialdT .int) (np_s_iald hX dL_samples_3) nw_ialdT_le, List.forall_mem_cons.mpr ⟨np_S.mono (op := np_if (fun x => x = 0) 17) (np_s_if_eq hX dL_samples_4 (by decide)) nq_if_le, List.forall_mem_cons.mpr ⟨np_s_aload hX dL_samples_7, List.forall_mem_cons.mpr ⟨np_s_bipush hX dL_samples_9 (by decide), List.forall_mem_cons.mpr ⟨np_S.mono (op := np_ialdT .int) (np_s_iald hX dL_samples_11) nw_ialdT_le, List.forall_mem_cons.mpr ⟨np_s_bipush hX dL_samples_12 (by decide), List.forall_mem_cons.mpr ⟨np_S.mono (op := np_icne 19) (np_s_icmp_ne hX dL_samples_14 (by decide)) nq_icne_le, List.forall_mem_cons.mpr ⟨np_s_iconst hX dL_samples_17 (by decide), List.forall_mem_cons.mpr ⟨np_S.mono (op := np_ret X.2.2.1) (np_s_ret hX dL_samples_18) (nq_ret_le hR), List.forall_mem_cons.mpr ⟨np_s_iload_n hX dL_samples_19 rfl, List.forall_mem_cons.mpr ⟨np_s_aload hX dL_samples_20, List.forall_mem_cons.mpr ⟨np_s_iconst hX dL_samples_22 (by decide), List.forall_mem_cons.mpr ⟨np_S.mono (op := np_ialdT .int) (np_s_iald hX dL_samples_23) nw_ialdT_le, List.forall_mem_cons.mpr ⟨np_S.mono (op := np_ibn (fun x y => x - x / y * y)) (np_s_irem hX dL_samples_24) nq_ibn_le, List.forall_mem_cons.mpr ⟨np_S.mono (op := np_ist 2 5) (np_s_istore hX dL_samples_25 (by decide)) nw_ist_le, List.forall_mem_cons.mpr ⟨np_s_iload_n hX dL_samples_27 rfl, List.forall_mem_cons.mpr ⟨np_s_ldc hX dL_samples_28 gw711, List.forall_mem_cons.mpr ⟨np_S.mono (op := np_ibn (fun x y => x - x / y * y)) (np_s_irem hX dL_samples_30) nq_ibn_le, List.forall_mem_cons.mpr ⟨np_S.mono (op := np_ist 2 6) (np_s_istore hX dL_samples_31 (by decide)) nw_ist_le, List.forall_mem_cons.mpr ⟨np_s_aload hX dL_samples_33, List.forall_mem_cons.mpr ⟨np_s_bipush hX dL_samples_35 (by decide), List.forall_mem_cons.mpr ⟨np_S.mono (op := np_dup2) (np_s_dup2 hX dL_samples_37) nq_dup2_le, List.forall_mem_cons.mpr ⟨np_S.mono (op := np_ialdT .int) (np_s_iald hX dL_samples_38) nw_ialdT_le, List.forall_mem_cons.mpr ⟨np_s_iconst hX dL_samples_39 (by decide), List.forall_mem_cons.mpr ⟨np_s_iadd hX dL_samples_40, List.forall_mem_cons.mpr ⟨np_S.mono (op := np_iastT .int) (np_s_iast hX dL_samples_41) nw_iastT_le, List.forall_mem_cons.mpr ⟨np_s_aload_n hX dL_samples_42 rfl, List.forall_mem_cons.mpr ⟨np_s_aload_n hX dL_samples_43 rfl, List.forall_mem_cons.mpr ⟨np_S.mono (op := np_call 2 sp_L_notes 3 25 150 792 4752) (np_s_callS hX C_L_notes dL_samples_44 gw714 gw62 gw712 gw713 ⟨by decide, by decide, by decide⟩ (by decide) (by decide)) nq_call_le, List.forall_mem_cons.mpr ⟨np_s_aload_n hX dL_samples_47 rfl, List.forall_mem_cons.mpr ⟨np_s_iload hX dL_samples_48, List.forall_mem_cons.mpr ⟨np_s_iload hX dL_samples_50, List.forall_mem_cons.mpr ⟨np_S.mono (op := np_callVX 11 3 sp_X11_sample 5 1 6 792 4752 []) (np_s_callVX hX C_X11_sample dL_samples_52 (q := (RX11, TX11, 14)) rfl rfl gw730 gw63 gw727 gw728 gw729 ⟨by decide, by decide, by decide⟩ (by decide) (by decide) (fun _ h => nomatch h)) (nw_callVX_le2 (ci := 11) (n := 3) (sp := sp_X11_sample) (maxL := 5) (mc := 1) (ms := 6) (RC := 792) (RS := 4752) (hs := [])), List.forall_mem_cons.mpr ⟨np_S.mono (op := np_ifne 83) (np_s_if_ne hX dL_samples_55 (by decide)) nq_ifne_le, List.forall_mem_cons.mpr ⟨np_s_aload_n hX dL_samples_58 rfl, List.forall_mem_cons.mpr ⟨np_s_aload_n hX dL_samples_59 rfl, List.forall_mem_cons.mpr ⟨np_S.mono (op := np_call 2 sp_L_isNoted 4 25 150 792 4752) (np_s_callS hX C_L_isNoted dL_samples_60 gw920 gw62 gw918 gw919 ⟨by decide, by decide, by decide⟩ (by decide) (by decide)) nq_call_le, List.forall_mem_cons.mpr ⟨np_S.mono (op := np_if (fun x => x = 0) 81) (np_s_if_eq hX dL_samples_63 (by decide)) nq_if_le, List.forall_mem_cons.mpr ⟨np_s_aload_n hX dL_samples_66 rfl, List.forall_mem_cons.mpr ⟨np_s_iload hX dL_samples_67, List.forall_mem_cons.mpr ⟨np_s_iload hX dL_samples_69, List.forall_mem_cons.mpr ⟨np_S.mono (op := np_callVX 11 3 sp_X11_sample 5 1 6 792 4752 []) (np_s_callVX hX C_X11_sample dL_samples_71 (q := (RX11, TX11, 14)) rfl rfl gw730 gw63 gw727 gw728 gw729 ⟨by decide, by decide, by decide⟩ (by decide) (by decide) (fun _ h => nomatch h)) (nw_callVX_le2 (ci := 11) (n := 3) (sp := sp_X11_sample) (maxL := 5) (mc := 1) (ms := 6) (RC := 792) (RS := 4752) (hs := [])), List.forall_mem_cons.mpr ⟨np_S.mono (op := np_ifne 81) (np_s_if_ne hX dL_samples_74 (by decide)) nq_ifne_le, List.forall_mem_cons.mpr ⟨np_s_iconst hX dL_samples_77 (by decide), List.forall_mem_cons.mpr ⟨np_s_goto hX dL_samples_78 (by decide), List.forall_mem_cons.mpr ⟨np_s_iconst hX dL_samples_81 (by decide), List.forall_mem_cons.mpr ⟨np_S.mono (op := np_ret X.2.2.1) (np_s_ret hX dL_samples_82) (nq_ret_le hR), List.forall_mem_cons.mpr ⟨np_s_aload_n hX dL_samples_83 rfl, List.forall_mem_cons.mpr ⟨np_s_aload_n hX dL_samples_84 rfl, List.forall_mem_cons.mpr ⟨np_S.mono (op := np_call 2 sp_L_notes 3 25 150 792 4752) (np_s_callS hX C_L_notes dL_samples_85 gw714 gw62 gw712 gw713 ⟨by decide, by decide, by decide⟩ (by decide) (by decide)) nq_call_le, List.forall_mem_cons.mpr ⟨np_s_aload_n hX dL_samples_88 rfl, List.forall_mem_cons.mpr ⟨np_s_iload hX dL_samples_89, List.forall_mem_cons.mpr ⟨np_S.mono (op := np_callVX 11 2 sp_X11_message 3 1 6 792 4752 []) (np_s_callVX hX C_X11_message dL_samples_91 (q := (RX11, TX11, 14)) rfl rfl gw924 gw63 gw921 gw922 gw923 ⟨by decide, by decide, by decide⟩ (by decide) (by decide) (fun _ h => nomatch h)) (nw_callVX_le2 (ci := 11) (n := 2) (sp := sp_X11_message) (maxL := 3) (mc := 1) (ms := 6) (RC := 792) (RS := 4752) (hs := [])), List.forall_mem_cons.mpr ⟨np_S.mono (op := np_ifne 120) (np_s_if_ne hX dL_samples_94 (by decide)) nq_ifne_le, List.forall_mem_cons.mpr ⟨np_s_aload_n hX dL_samples_97 rfl, List.forall_mem_cons.mpr ⟨np_s_iload hX dL_samples_98, List.forall_mem_cons.mpr ⟨np_s_iload hX dL_samples_100, List.forall_mem_cons.mpr ⟨np_S.mono (op := np_callVX 11 3 sp_X11_sample 5 1 6 792 4752 []) (np_s_callVX hX C_X11_sample dL_samples_102 (q := (RX11, TX11, 14)) rfl rfl gw730 gw63 gw727 gw728 gw729 ⟨by decide, by decide, by decide⟩ (by decide) (by decide) (fun _ h => nomatch h)) (nw_callVX_le2 (ci := 11) (n := 3) (sp := sp_X11_sample) (maxL := 5) (mc := 1) (ms := 6) (RC := 792) (RS := 4752) (hs := [])), List.forall_mem_cons.mpr ⟨np_S.mono (op := np_if (fun x => x = 0) 120) (np_s_if_eq hX dL_samples_105 (by decide)) nq_if_le, List.forall_mem_cons.mpr ⟨np_s_aload_n hX dL_samples_108 rfl, List.forall_mem_cons.mpr ⟨np_s_aload_n hX dL_samples_109 rfl, List.forall_mem_cons.mpr ⟨np_S.mono (op := np_call 2 sp_L_isNoted 4 25 150 792 4752) (np_s_callS hX C_L_isNoted dL_samples_110 gw920 gw62 gw918 gw919 ⟨by decide, by decide, by decide⟩ (by decide) (by decide)) nq_call_le, List.forall_mem_cons.mpr ⟨np_S.mono (op := np_if (fun x => x = 0) 120) (np_s_if_eq hX dL_samples_113 (by decide)) nq_if_le, List.forall_mem_cons.mpr ⟨np_s_iconst hX dL_samples_116 (by decide), List.forall_mem_cons.mpr ⟨np_s_goto hX dL_samples_117 (by decide), List.forall_mem_cons.mpr ⟨np_s_iconst hX dL_samples_120 (by decide), List.forall_mem_cons.mpr ⟨np_S.mono (op := np_ist 2 7) (np_s_istore hX dL_samples_121 (by decide)) nw_ist_le, List.forall_mem_cons.mpr ⟨np_s_iload_n hX dL_samples_123 rfl, List.forall_mem_cons.mpr ⟨np_s_iconst hX dL_samples_124 (by decide), List.forall_mem_cons.mpr ⟨np_S.mono (op := np_ibn (fun x y => x / y)) (np_s_idiv hX dL_samples_125) nq_ibn_le, List.forall_mem_cons.mpr ⟨np_s_iconst hX dL_samples_126 (by decide), List.forall_mem_cons.mpr ⟨np_S.mono (op := np_ibn (fun x y => x - x / y * y)) (np_s_irem hX dL_samples_127) nq_ibn_le, List.forall_mem_cons.mpr ⟨np_S.mono (op := np_ist 2 8) (np_s_istore hX dL_samples_128 (by decide)) nw_ist_le, List.forall_mem_cons.mpr ⟨np_s_aload_n hX dL_samples_130 rfl, List.forall_mem_cons.mpr ⟨np_s_iload hX dL_samples_131, List.forall_mem_cons.mpr ⟨np_S.mono (op := np_call 2 sp_L_units 3 302 1812 792 4752) (np_s_callS hX C_L_units dL_samples_133 gw928 gw62 gw926 gw927 ⟨by decide, by decide, by decide⟩ (by decide) (by decide)) nq_call_le, List.forall_mem_cons.mpr ⟨np_S.mono (op := np_ist 2 9) (np_s_istore hX dL_samples_136 (by decide)) nw_ist_le, List.forall_mem_cons.mpr ⟨np_s_aload_n hX dL_samples_138 rfl, List.forall_mem_cons.mpr ⟨np_s_iconst hX dL_samples_139 (by decide), List.forall_mem_cons.mpr ⟨np_s_iload hX dL_samples_140, List.forall_mem_cons.mpr ⟨np_s_iload hX dL_samples_142, List.forall_mem_cons.mpr ⟨np_s_iconst hX dL_samples_144 (by decide), List.forall_mem_cons.mpr ⟨np_S.mono (op := np_call 5 sp_L_asks 6 1 6 792 4752) (np_s_callSW hX C_L_asks dL_samples_145 gw931 gw62 gw929 gw930 ⟨by decide, by decide, by decide⟩ (by decide) (by decide)) nq_call_le, List.forall_mem_cons.mpr ⟨np_s_iconst hX dL_samples_148 (by decide), List.forall_mem_cons.mpr ⟨np_s_isub hX dL_samples_149, List.forall_mem_cons.mpr ⟨np_S.mono (op := np_ist 2 10) (np_s_istore hX dL_samples_150 (by decide)) nw_ist_le, List.forall_mem_cons.mpr ⟨np_s_iload hX dL_samples_152, List.forall_mem_cons.mpr ⟨np_S.mono (op := np_if (fun x => 0 ≤ x) 198) (np_s_if_ge hX dL_samples_154 (by decide)) nq_if_le, List.forall_mem_cons.mpr ⟨np_s_iload hX dL_samples_157, List.forall_mem_cons.mpr ⟨np_S.mono (op := np_if (fun x => x = 0) 196) (np_s_if_eq hX dL_samples_159 (by decide)) nq_if_le, List.forall_mem_cons.mpr ⟨np_s_iload hX dL_samples_162, List.forall_mem_cons.mpr ⟨np_s_ldc hX dL_samples_164 gw633, List.forall_mem_cons.mpr ⟨np_S.mono (op := np_icne 196) (np_s_icmp_ne hX dL_samples_166 (by decide)) nq_icne_le, List.forall_mem_cons.mpr ⟨np_s_aload hX dL_samples_169, List.forall_mem_cons.mpr ⟨np_s_bipush hX dL_samples_171 (by decide), List.forall_mem_cons.mpr ⟨np_s_bipush hX dL_samples_173 (by decide), List.forall_mem_cons.mpr ⟨np_s_iload hX dL_samples_175, List.forall_mem_cons.mpr ⟨np_s_imul hX dL_samples_177, List.forall_mem_cons.mpr ⟨np_s_iadd hX dL_samples_178, List.forall_mem_cons.mpr ⟨np_S.mono (op := np_ialdT .int) (np_s_iald hX dL_samples_179) nw_ialdT_le, List.forall_mem_cons.mpr ⟨np_s_iconst hX dL_samples_180 (by decide), List.forall_mem_cons.mpr ⟨np_S.mono (op := np_ic (fun x y => x = y) 192) (np_s_icmp_eq hX dL_samples_181 (by decide)) nq_ic_le, List.forall_mem_cons.mpr ⟨np_s_iload hX dL_samples_184, List.forall_mem_cons.mpr ⟨np_s_sipush hX dL_samples_186 (by decide), List.forall_mem_cons.mpr ⟨np_S.mono (op := np_ic (fun x y => x ≤ y) 196) (np_s_icmp_le hX dL_samples_189 (by decide)) nq_ic_le, List.forall_mem_cons.mpr ⟨np_s_iconst hX dL_samples_192 (by decide), List.forall_mem_cons.mpr ⟨np_s_goto hX dL_samples_193 (by decide), List.forall_mem_cons.mpr ⟨np_s_iconst hX dL_samples_196 (by decide), List.forall_mem_cons.mpr ⟨np_S.mono (op := np_ret X.2.2.1) (np_s_ret hX dL_samples_197) (nq_ret_le hR), List.forall_mem_cons.mpr ⟨np_s_aload hX dL_samples_198, List.forall_mem_cons.mpr ⟨np_s_bipush hX dL_samples_200 (by decide), List.forall_mem_cons.mpr ⟨np_S.mono (op := np_dup2) (np_s_dup2 hX dL_samples_202) nq_dup2_le, List.forall_mem_cons.mpr ⟨np_S.mono (op := np_ialdT .int) (np_s_iald hX dL_samples_203) nw_ialdT_le, List.forall_mem_cons.mpr ⟨np_s_iconst hX dL_samples_204 (by decide), List.forall_mem_cons.mpr ⟨np_s_iadd hX dL_samples_205, List.forall_mem_cons.mpr ⟨np_S.mono (op := np_iastT .int) (np_s_iast hX dL_samples_206) nw_iastT_le, List.forall_mem_cons.mpr ⟨np_s_iload hX dL_samples_207, List.forall_mem_cons.mpr ⟨np_S.mono (op := np_if (fun x => x = 0) 267) (np_s_if_eq hX dL_samples_209 (by decide)) nq_if_le, List.forall_mem_cons.mpr ⟨np_s_aload_n hX dL_samples_212 rfl, List.forall_mem_cons.mpr ⟨np_s_iload hX dL_samples_213, List.forall_mem_cons.mpr ⟨np_S.mono (op := np_call 2 sp_L_units 3 302 1812 792 4752) (np_s_callS hX C_L_units dL_samples_215 gw928 gw62 gw926 gw927 ⟨by decide, by decide, by decide⟩ (by decide) (by decide)) nq_call_le, List.forall_mem_cons.mpr ⟨np_s_iload hX dL_samples_218, List.forall_mem_cons.mpr ⟨np_s_iconst hX dL_samples_220 (by decide), List.forall_mem_cons.mpr ⟨np_s_iadd hX dL_samples_221, List.forall_mem_cons.mpr ⟨np_S.mono (op := np_icne 267) (np_s_icmp_ne hX dL_samples_222 (by decide)) nq_icne_le, List.forall_mem_cons.mpr ⟨np_s_aload_n hX dL_samples_225 rfl, List.forall_mem_cons.mpr ⟨np_s_iload hX dL_samples_226, List.forall_mem_cons.mpr ⟨np_s_iload hX dL_samples_228, List.forall_mem_cons.mpr ⟨np_S.mono (op := np_callVX 11 3 sp_X11_unit 5 1 6 792 4752 []) (np_s_callVX hX C_X11_unit dL_samples_230 (q := (RX11, TX11, 14)) rfl rfl gw1181 gw63 gw1178 gw1179 gw1180 ⟨by decide, by decide, by decide⟩ (by decide) (by decide) (fun _ h => nomatch h)) (nw_callVX_le2 (ci := 11) (n := 3) (sp := sp_X11_unit) (maxL := 5) (mc := 1) (ms := 6) (RC := 792) (RS := 4752) (hs := [])), List.forall_mem_cons.mpr ⟨np_s_bipush hX dL_samples_233 (by decide), List.forall_mem_cons.mpr ⟨np_S.mono (op := np_icne 267) (np_s_icmp_ne hX dL_samples_235 (by decide)) nq_icne_le, List.forall_mem_cons.mpr ⟨np_s_aload hX dL_samples_238, List.forall_mem_cons.mpr ⟨np_s_bipush hX dL_samples_240 (by decide), List.forall_mem_cons.mpr ⟨np_S.mono (op := np_ialdT .int) (np_s_iald hX dL_samples_242) nw_ialdT_le, List.forall_mem_cons.mpr ⟨np_s_iconst hX dL_samples_243 (by decide), List.forall_mem_cons.mpr ⟨np_S.mono (op := np_ic (fun x y => y < x) 263) (np_s_icmp_gt hX dL_samples_244 (by decide)) nq_ic_le, List.forall_mem_cons.mpr ⟨np_s_aload_n hX dL_samples_247 rfl, List.forall_mem_cons.mpr ⟨np_s_iload hX dL_samples_248, List.forall_mem_cons.mpr ⟨np_s_iload hX dL_samples_250, List.forall_mem_cons.mpr ⟨np_s_iload hX dL_samples_252, List.forall_mem_cons.mpr ⟨np_s_iload hX dL_samples_254, List.forall_mem_cons.mpr ⟨np_s_aload_n hX dL_samples_256 rfl, List.forall_mem_cons.mpr ⟨np_S.mono (op := np_call 6 sp_L_isReadBack 11 108 648 792 4752) (np_s_callS hX C_L_isReadBack dL_samples_257 gw1188 gw62 gw1186 gw1187 ⟨by decide, by decide, by decide⟩ (by decide) (by decide)) nq_call_le, List.forall_mem_cons.mpr ⟨np_S.mono (op := np_if (fun x => x = 0) 267) (np_s_if_eq hX dL_samples_260 (by decide)) nq_if_le, List.forall_mem_cons.mpr ⟨np_s_iconst hX dL_samples_263 (by decide), List.forall_mem_cons.mpr ⟨np_s_goto hX dL_samples_264 (by decide), List.forall_mem_cons.mpr ⟨np_s_iconst hX dL_samples_267 (by decide), List.forall_mem_cons.mpr ⟨np_S.mono (op := np_ret X.2.2.1) (np_s_ret hX dL_samples_268) (nq_ret_le hR), fun _ h => nomatch h⟩⟩⟩⟩⟩⟩⟩⟩⟩⟩⟩⟩⟩⟩⟩⟩⟩⟩⟩⟩⟩⟩⟩⟩⟩⟩⟩⟩⟩⟩⟩⟩⟩⟩⟩⟩⟩⟩⟩⟩⟩⟩⟩⟩⟩⟩⟩⟩⟩⟩⟩⟩⟩⟩⟩⟩⟩⟩⟩⟩⟩⟩⟩⟩⟩⟩⟩⟩⟩⟩⟩⟩⟩⟩⟩⟩⟩⟩⟩⟩⟩⟩⟩⟩⟩⟩⟩⟩⟩⟩⟩⟩⟩⟩⟩⟩⟩⟩⟩⟩⟩⟩⟩⟩⟩⟩⟩⟩⟩⟩⟩⟩⟩⟩⟩⟩⟩⟩⟩⟩⟩⟩⟩⟩⟩⟩⟩⟩⟩⟩⟩⟩⟩⟩⟩⟩⟩⟩⟩⟩⟩⟩⟩⟩⟩⟩⟩⟩⟩⟩
noncomputable def m_L_samples_j121  (S : pw_S) (v0 : Nat) (v1 : Int32) (va3 : Nat) (vi3 : Nat) (va4 : Nat) (vi4 : Nat) (v5 : Int32) (s0 : Int32) : pw_R Int32 :=
 pw_l (s0 : Int32) fun z1 =>
 pw_l (((v1 / 4) - (v1 / 4) / 2 * 2) : Int32) fun z2 =>
 pw_b (m_L_units S v0 z2) fun S3 r6 =>
 pw_l (r6 : Int32) fun z8 =>
 pw_b (m_L_asks S3 v0 0 v5 z2 0) fun S9 r12 =>
 pw_l ((r12 - 1) : Int32) fun z14 =>
 if 0 ≤ z14 then
 (pw_c (np_inb 16 (pw_len va4)) <|
 pw_c (np_inb 16 (pw_len va4)) <|
 pw_l (pw_up S9 va4 vi4 (upd (S9 va4 vi4) (16 : Int32).toNatClampNeg ((S9 va4 vi4 (16 : Int32).toNatClampNeg) + 1))) fun S15 =>
 if z1 = 0 then
 (some (S15, 0))
 else
 (pw_b (m_L_units S15 v0 z2) fun S18 r21 =>
 if r21 = (z14 + 1) then
 (pw_b (m_X11_unit S18 v0 z2 z14) fun S23 r26 =>
 pw_e r26 (fun r28 =>
 (if r28 = 10 then
 (pw_c (np_inb 16 (pw_len va4)) <|
 if 3 < (S23 va4 vi4 (16 : Int32).toNatClampNeg) then
 (some (S23, 1))
 else
 (pw_b (m_L_isReadBack S23 v0 v5 z2 z8 z14 va3 vi3) fun S30 r33 =>
 if r33 = 0 then
 (some (S30, 0))
 else
 (some (S30, 1))))
 else
 (some (S23, 0)))) (fun _ => none))
 else
 (some (S18, 0))))
 else
 (if z1 = 0 then
 (some (S9, 0))
 else
 (if z14 = (-70009) then
 (pw_c (np_inb (8 + (6 * z2)) (pw_len va4)) <|
 if (S9 va4 vi4 ((8 + (6 * z2)) : Int32).toNatClampNeg) = 1 then
 (some (S9, 1))
 else
 (if z8 ≤ 238 then
 (some (S9, 0))
 else
 (some (S9, 1))))
 else
 (some (S9, 0))))
set_option maxRecDepth 100000 in
set_option maxHeartbeats 8000000 in
theorem J_L_samples_121 {X : np_Ctx} (hX : np_ok RL cL_samples 11 10 280 792 4752 .ireturn X) {Q : Option Value → np_W → Prop} {q : Nat} {n dc ds : Nat} (hR : ∀ st w ce sl, np_rt (some .boolean) 792 4752 Q st w ce sl → X.2.2.1 st w ce sl) (S : pw_S) (v0 : Nat) (v1 : Int32) (va3 : Nat) (vi3 : Nat) (va4 : Nat) (vi4 : Nat) (v5 : Int32) (s0 : Int32) (f : Nat → Option np_E) (ce sl : Nat) (hv0 : pw_ok q 61 v0 = true) (ha3 : pw_arr va3 = true) (hi3 : pw_ok q va3 vi3 = true) (ha4 : pw_arr va4 = true) (hi4 : pw_ok q va4 vi4 = true) (hc : ce + 714 + dc ≤ 792) (hs : sl + 4284 + ds ≤ 4752) (hW : pw_W q (n, f) S) (h : pw_p (m_L_samples_j121 S v0 v1 va3 vi3 va4 vi4 v5 s0) (fun S' r => ∀ f', pw_W q (n, f') S' → Q (some (.int r)) (n, f'))) : np_G X 121 [(0, .ref (pw_pl 61 v0)), (1, .int v1), (3, .ref (pw_pl va3 vi3)), (4, .ref (pw_pl va4 vi4)), (5, .int v5)] [.int s0] (n, f) ce sl := by
  unfold m_L_samples_j121 at h
  refine np_soundW (so_L_samples hX hR) [121] 400 121 _ _ _ _ _ ?_
  conv => whnf
  refine pw_st h (fun z1 h => ?_)
  conv => whnf
  refine pw_st h (fun z2 h => ?_)
  conv => whnf
  refine np_chk_i (pw_and rfl (pw_and rfl (pw_and rfl ((pw_and (pw_le (by omega)) (pw_le (by omega))))))) ?_
  conv => whnf
  refine ⟨q, S, v0, z2, rfl, hv0, hW, pw_bd h (fun S3 r6 h f4 hW5 => ?_)⟩
  conv => whnf
  refine pw_st h (fun z8 h => ?_)
  conv => whnf
  refine np_chk_i (pw_and rfl (pw_and rfl (pw_and rfl ((pw_and (pw_le (by omega)) (pw_le (by omega))))))) ?_
  conv => whnf
  refine ⟨q, S3, v0, 0, v5, z2, 0, rfl, hv0, hW5, pw_bd h (fun S9 r12 h f10 hW11 => ?_)⟩
  conv => whnf
  refine pw_st h (fun z14 h => ?_)
  conv => whnf
  refine pw_br h (fun _ h => ?_) (fun _ h => ?_)
  · conv => whnf
    refine np_rd_i (hW11.ga ha4 hi4) ?_
    conv => whnf
    refine pw_ck h (fun _ h => ?_)
    conv => whnf
    refine np_rd_i (hW11.ga ha4 hi4) ?_
    conv => whnf
    refine pw_ck h (fun _ h => ?_)
    conv => whnf
    refine pw_wr (a := va4) (i := vi4) (d := upd (S9 va4 vi4) (16 : Int32).toNatClampNeg ((S9 va4 vi4 (16 : Int32).toNatClampNeg) + 1)) hW11 hi4 (pw_ent_arr ha4).symm h (fun S15 f16 hW17 h => ?_)
    conv => whnf
    refine pw_br h (fun _ h => ?_) (fun _ h => ?_)
    · conv => whnf
      exact ⟨(by omega), (by omega), ⟨_, rfl, by decide⟩, _, fun _ _ h9 => h9, pw_ps h _ hW17⟩
    · conv => whnf
      refine np_chk_i (pw_and rfl (pw_and rfl (pw_and rfl ((pw_and (pw_le (by omega)) (pw_le (by omega))))))) ?_
      conv => whnf
      refine ⟨q, S15, v0, z2, rfl, hv0, hW17, pw_bd h (fun S18 r21 h f19 hW20 => ?_)⟩
      conv => whnf
      refine pw_br h (fun _ h => ?_) (fun _ h => ?_)
      · conv => whnf
        refine np_rd_i (hW20.g hv0) ?_
        conv => whnf
        refine np_chk_i (pw_and rfl (pw_and rfl (pw_and rfl (pw_and rfl ((pw_and (pw_le (by omega)) (pw_le (by omega)))))))) ?_
        conv => whnf
        refine ⟨q, S18, v0, z2, z14, rfl, hv0, hW20, pw_bd h (fun S23 r26 h f24 hW25 => ?_)⟩
        rcases r26 with r28 | e29
        · replace h := pw_ei h
          conv => whnf
          refine pw_br h (fun _ h => ?_) (fun _ h => ?_)
          · conv => whnf
            refine np_rd_i (hW25.ga ha4 hi4) ?_
            conv => whnf
            refine pw_ck h (fun _ h => ?_)
            conv => whnf
            refine pw_br h (fun _ h => ?_) (fun _ h => ?_)
            · conv => whnf
              exact ⟨(by omega), (by omega), ⟨_, rfl, by decide⟩, _, fun _ _ h9 => h9, pw_ps h _ hW25⟩
            · conv => whnf
              refine np_chk_i (pw_and rfl (pw_and rfl (pw_and rfl ((pw_and (pw_le (by omega)) (pw_le (by omega))))))) ?_
              conv => whnf
              refine ⟨q, S23, v0, v5, z2, z8, z14, va3, vi3, rfl, hv0, ha3, hi3, hW25, pw_bd h (fun S30 r33 h f31 hW32 => ?_)⟩
              conv => whnf
              refine pw_br h (fun _ h => ?_) (fun _ h => ?_)
              · conv => whnf
                exact ⟨(by omega), (by omega), ⟨_, rfl, by decide⟩, _, fun _ _ h9 => h9, pw_ps h _ hW32⟩
              · conv => whnf
                exact ⟨(by omega), (by omega), ⟨_, rfl, by decide⟩, _, fun _ _ h9 => h9, pw_ps h _ hW32⟩
          · conv => whnf
            exact ⟨(by omega), (by omega), ⟨_, rfl, by decide⟩, _, fun _ _ h9 => h9, pw_ps h _ hW25⟩
        · exact (pw_pn h).elim
      · conv => whnf
        exact ⟨(by omega), (by omega), ⟨_, rfl, by decide⟩, _, fun _ _ h9 => h9, pw_ps h _ hW20⟩
  · conv => whnf
    refine pw_br h (fun _ h => ?_) (fun _ h => ?_)
    · conv => whnf
      exact ⟨(by omega), (by omega), ⟨_, rfl, by decide⟩, _, fun _ _ h9 => h9, pw_ps h _ hW11⟩
    · conv => whnf
      refine pw_br h (fun _ h => ?_) (fun _ h => ?_)
      · conv => whnf
        refine np_rd_i (hW11.ga ha4 hi4) ?_
        conv => whnf
        refine pw_ck h (fun _ h => ?_)
        conv => whnf
        refine pw_br h (fun _ h => ?_) (fun _ h => ?_)
        · conv => whnf
          exact ⟨(by omega), (by omega), ⟨_, rfl, by decide⟩, _, fun _ _ h9 => h9, pw_ps h _ hW11⟩
        · conv => whnf
          refine pw_br h (fun _ h => ?_) (fun _ h => ?_)
          · conv => whnf
            exact ⟨(by omega), (by omega), ⟨_, rfl, by decide⟩, _, fun _ _ h9 => h9, pw_ps h _ hW11⟩
          · conv => whnf
            exact ⟨(by omega), (by omega), ⟨_, rfl, by decide⟩, _, fun _ _ h9 => h9, pw_ps h _ hW11⟩
      · conv => whnf
        exact ⟨(by omega), (by omega), ⟨_, rfl, by decide⟩, _, fun _ _ h9 => h9, pw_ps h _ hW11⟩
noncomputable def m_L_samples (S : pw_S) (i0 : Nat) (x1 : Int32) (x2 : Int32) (a3 : Nat) (i3 : Nat) (a4 : Nat) (i4 : Nat) : pw_R Int32 :=
 pw_c (np_inb 0 (pw_len a4)) <|
 if (S a4 i4 (0 : Int32).toNatClampNeg) = 0 then
 (some (S, 1))
 else
 (pw_c (np_inb 15 (pw_len a4)) <|
 if (S a4 i4 (15 : Int32).toNatClampNeg) = 8 then
 (some (S, 1))
 else
 (pw_c (np_inb 0 (pw_len a4)) <|
 pw_c (!decide ((S a4 i4 (0 : Int32).toNatClampNeg) = 0)) <|
 pw_l ((x1 - x1 / (S a4 i4 (0 : Int32).toNatClampNeg) * (S a4 i4 (0 : Int32).toNatClampNeg)) : Int32) fun z35 =>
 pw_l ((x2 - x2 / 1000001 * 1000001) : Int32) fun z36 =>
 pw_c (np_inb 15 (pw_len a4)) <|
 pw_c (np_inb 15 (pw_len a4)) <|
 pw_l (pw_up S a4 i4 (upd (S a4 i4) (15 : Int32).toNatClampNeg ((S a4 i4 (15 : Int32).toNatClampNeg) + 1))) fun S37 =>
 pw_b (m_L_notes S37 i0 a3 i3) fun S40 r43 =>
 pw_b (m_X11_sample S40 i0 z35 z36) fun S45 r48 =>
 pw_e r48 (fun r50 =>
 (if r50 = 0 then
 (pw_b (m_L_isNoted S45 i0 a3 i3) fun S52 r55 =>
 if r55 = 0 then
 (some (S52, 0))
 else
 (pw_b (m_X11_sample S52 i0 z35 z36) fun S57 r60 =>
 pw_e r60 (fun r62 =>
 (if r62 = 0 then
 (some (S57, 1))
 else
 (some (S57, 0)))) (fun _ => none)))
 else
 (pw_b (m_L_notes S45 i0 a3 i3) fun S64 r67 =>
 pw_b (m_X11_message S64 i0 z35) fun S69 r72 =>
 pw_e r72 (fun r74 =>
 (if r74 = 0 then
 (pw_b (m_X11_sample S69 i0 z35 z36) fun S76 r79 =>
 pw_e r79 (fun r81 =>
 (if r81 = 0 then
 (m_L_samples_j121 S76 i0 x1 a3 i3 a4 i4 z35 0)
 else
 (pw_b (m_L_isNoted S76 i0 a3 i3) fun S83 r86 =>
 if r86 = 0 then
 (m_L_samples_j121 S83 i0 x1 a3 i3 a4 i4 z35 0)
 else
 (m_L_samples_j121 S83 i0 x1 a3 i3 a4 i4 z35 1)))) (fun _ => none))
 else
 (m_L_samples_j121 S69 i0 x1 a3 i3 a4 i4 z35 0))) (fun _ => none)))) (fun _ => none)))
def sp_L_samples : np_Sp := fun vs w Q => ∃ (q : Nat) (S : pw_S) (i0 : Nat) (x1 : Int32) (x2 : Int32) (a3 : Nat) (i3 : Nat) (a4 : Nat) (i4 : Nat), vs = [.ref (pw_pl 61 i0), .int x1, .int x2, .ref (pw_pl a3 i3), .ref (pw_pl a4 i4)] ∧ pw_ok q 61 i0 = true ∧ pw_arr a3 = true ∧ pw_ok q a3 i3 = true ∧ pw_arr a4 = true ∧ pw_ok q a4 i4 = true ∧ pw_W q w S ∧ pw_p (m_L_samples S i0 x1 x2 a3 i3 a4 i4) (fun S' r => ∀ f', pw_W q (w.1, f') S' → Q (some (.int r)) (w.1, f'))
set_option maxRecDepth 100000 in
set_option maxHeartbeats 8000000 in
theorem C_L_samples : np_C yL_samples cL_samples 11 (some .boolean) 10 280 792 4752 (sp_L_samples) := by
  refine np_of (by decide) ?_
  intro X vs w Q hsp hX hmn hRt hlt
  obtain ⟨q, S, i0, x1, x2, a3, i3, a4, i4, rfl, hi0, ha3, hi3, ha4, hi4, hW, h⟩ := hsp
  obtain ⟨n, f⟩ := w
  unfold m_L_samples at h
  have hR : ∀ st w ce sl, np_rt (some .boolean) 792 4752 Q st w ce sl → X.2.2.1 st w ce sl := fun _ _ _ _ h => by rw [hRt]; exact h
  refine np_soundW (so_L_samples hX hR) [121] 400 0 _ _ _ _ _ ?_
  conv => whnf
  refine np_rd_i (hW.ga ha4 hi4) ?_
  conv => whnf
  refine pw_ck h (fun _ h => ?_)
  conv => whnf
  refine pw_br h (fun _ h => ?_) (fun _ h => ?_)
  · conv => whnf
    exact ⟨Nat.le_of_ble_eq_true rfl, Nat.le_of_ble_eq_true rfl, ⟨_, rfl, by decide⟩, _, fun _ _ h9 => h9, pw_ps h _ hW⟩
  · conv => whnf
    refine np_rd_i (hW.ga ha4 hi4) ?_
    conv => whnf
    refine pw_ck h (fun _ h => ?_)
    conv => whnf
    refine pw_br h (fun _ h => ?_) (fun _ h => ?_)
    · conv => whnf
      exact ⟨Nat.le_of_ble_eq_true rfl, Nat.le_of_ble_eq_true rfl, ⟨_, rfl, by decide⟩, _, fun _ _ h9 => h9, pw_ps h _ hW⟩
    · conv => whnf
      refine np_rd_i (hW.ga ha4 hi4) ?_
      conv => whnf
      refine pw_ck h (fun _ h => ?_)
      conv => whnf
      refine pw_ck h (fun _ h => ?_)
      conv => whnf
      refine pw_st h (fun z35 h => ?_)
      conv => whnf
      refine pw_st h (fun z36 h => ?_)
      conv => whnf
      refine np_rd_i (hW.ga ha4 hi4) ?_
      conv => whnf
      refine pw_ck h (fun _ h => ?_)
      conv => whnf
      refine np_rd_i (hW.ga ha4 hi4) ?_
      conv => whnf
      refine pw_ck h (fun _ h => ?_)
      conv => whnf
      refine pw_wr (a := a4) (i := i4) (d := upd (S a4 i4) (15 : Int32).toNatClampNeg ((S a4 i4 (15 : Int32).toNatClampNeg) + 1)) hW hi4 (pw_ent_arr ha4).symm h (fun S37 f38 hW39 h => ?_)
      conv => whnf
      refine ⟨q, S37, i0, a3, i3, rfl, hi0, ha3, hi3, hW39, pw_bd h (fun S40 r43 h f41 hW42 => ?_)⟩
      conv => whnf
      refine np_rd_i (hW42.g hi0) ?_
      conv => whnf
      refine ⟨q, S40, i0, z35, z36, rfl, hi0, hW42, pw_bd h (fun S45 r48 h f46 hW47 => ?_)⟩
      rcases r48 with r50 | e51
      · replace h := pw_ei h
        conv => whnf
        refine pw_br h (fun _ h => ?_) (fun _ h => ?_)
        · conv => whnf
          refine ⟨q, S45, i0, a3, i3, rfl, hi0, ha3, hi3, hW47, pw_bd h (fun S52 r55 h f53 hW54 => ?_)⟩
          conv => whnf
          refine pw_br h (fun _ h => ?_) (fun _ h => ?_)
          · conv => whnf
            exact ⟨Nat.le_of_ble_eq_true rfl, Nat.le_of_ble_eq_true rfl, ⟨_, rfl, by decide⟩, _, fun _ _ h9 => h9, pw_ps h _ hW54⟩
          · conv => whnf
            refine np_rd_i (hW54.g hi0) ?_
            conv => whnf
            refine ⟨q, S52, i0, z35, z36, rfl, hi0, hW54, pw_bd h (fun S57 r60 h f58 hW59 => ?_)⟩
            rcases r60 with r62 | e63
            · replace h := pw_ei h
              conv => whnf
              refine pw_br h (fun _ h => ?_) (fun _ h => ?_)
              · conv => whnf
                exact ⟨Nat.le_of_ble_eq_true rfl, Nat.le_of_ble_eq_true rfl, ⟨_, rfl, by decide⟩, _, fun _ _ h9 => h9, pw_ps h _ hW59⟩
              · conv => whnf
                exact ⟨Nat.le_of_ble_eq_true rfl, Nat.le_of_ble_eq_true rfl, ⟨_, rfl, by decide⟩, _, fun _ _ h9 => h9, pw_ps h _ hW59⟩
            · exact (pw_pn h).elim
        · conv => whnf
          refine ⟨q, S45, i0, a3, i3, rfl, hi0, ha3, hi3, hW47, pw_bd h (fun S64 r67 h f65 hW66 => ?_)⟩
          conv => whnf
          refine np_rd_i (hW66.g hi0) ?_
          conv => whnf
          refine ⟨q, S64, i0, z35, rfl, hi0, hW66, pw_bd h (fun S69 r72 h f70 hW71 => ?_)⟩
          rcases r72 with r74 | e75
          · replace h := pw_ei h
            conv => whnf
            refine pw_br h (fun _ h => ?_) (fun _ h => ?_)
            · conv => whnf
              refine np_rd_i (hW71.g hi0) ?_
              conv => whnf
              refine ⟨q, S69, i0, z35, z36, rfl, hi0, hW71, pw_bd h (fun S76 r79 h f77 hW78 => ?_)⟩
              rcases r79 with r81 | e82
              · replace h := pw_ei h
                conv => whnf
                refine pw_br h (fun _ h => ?_) (fun _ h => ?_)
                · conv => whnf
                  refine np_gl (J_L_samples_121 (dc := 0) (ds := 0) hX hR S76 i0 x1 a3 i3 a4 i4 z35 0 f77 _ _ hi0 ha3 hi3 ha4 hi4 (by omega) (by omega) hW78 h) ?_
                  exact ⟨rfl, rfl, rfl, rfl, rfl, trivial⟩
                · conv => whnf
                  refine ⟨q, S76, i0, a3, i3, rfl, hi0, ha3, hi3, hW78, pw_bd h (fun S83 r86 h f84 hW85 => ?_)⟩
                  conv => whnf
                  refine pw_br h (fun _ h => ?_) (fun _ h => ?_)
                  · conv => whnf
                    refine np_gl (J_L_samples_121 (dc := 0) (ds := 0) hX hR S83 i0 x1 a3 i3 a4 i4 z35 0 f84 _ _ hi0 ha3 hi3 ha4 hi4 (by omega) (by omega) hW85 h) ?_
                    exact ⟨rfl, rfl, rfl, rfl, rfl, trivial⟩
                  · conv => whnf
                    refine np_gl (J_L_samples_121 (dc := 0) (ds := 0) hX hR S83 i0 x1 a3 i3 a4 i4 z35 1 f84 _ _ hi0 ha3 hi3 ha4 hi4 (by omega) (by omega) hW85 h) ?_
                    exact ⟨rfl, rfl, rfl, rfl, rfl, trivial⟩
              · exact (pw_pn h).elim
            · conv => whnf
              refine np_gl (J_L_samples_121 (dc := 0) (ds := 0) hX hR S69 i0 x1 a3 i3 a4 i4 z35 0 f70 _ _ hi0 ha3 hi3 ha4 hi4 (by omega) (by omega) hW71 h) ?_
              exact ⟨rfl, rfl, rfl, rfl, rfl, trivial⟩
          · exact (pw_pn h).elim
      · exact (pw_pn h).elim
theorem dL_isLine_0 : decode cL_isLine 0 = .ok (.aload 5, 2) := by decide +kernel
theorem dL_isLine_2 : decode cL_isLine 2 = .ok (.iconst 5, 1) := by decide +kernel
theorem dL_isLine_3 : decode cL_isLine 3 = .ok (.bipush 6, 2) := by decide +kernel
theorem dL_isLine_5 : decode cL_isLine 5 = .ok (.iload_n 2, 1) := by decide +kernel
theorem dL_isLine_6 : decode cL_isLine 6 = .ok (.imul, 1) := by decide +kernel
theorem dL_isLine_7 : decode cL_isLine 7 = .ok (.iadd, 1) := by decide +kernel
theorem dL_isLine_8 : decode cL_isLine 8 = .ok (.iaload, 1) := by decide +kernel
theorem dL_isLine_9 : decode cL_isLine 9 = .ok (.iconst 1, 1) := by decide +kernel
theorem dL_isLine_10 : decode cL_isLine 10 = .ok (.isub, 1) := by decide +kernel
theorem dL_isLine_11 : decode cL_isLine 11 = .ok (.istore 6, 2) := by decide +kernel
theorem dL_isLine_13 : decode cL_isLine 13 = .ok (.iconst 0, 1) := by decide +kernel
theorem dL_isLine_14 : decode cL_isLine 14 = .ok (.istore 7, 2) := by decide +kernel
theorem dL_isLine_16 : decode cL_isLine 16 = .ok (.aload_n 0, 1) := by decide +kernel
theorem dL_isLine_17 : decode cL_isLine 17 = .ok (.iload_n 2, 1) := by decide +kernel
theorem dL_isLine_18 : decode cL_isLine 18 = .ok (.iload 6, 2) := by decide +kernel
theorem dL_isLine_20 : decode cL_isLine 20 = .ok (.invokevirtual 113, 3) := by decide +kernel
theorem dL_isLine_23 : decode cL_isLine 23 = .ok (.istore 8, 2) := by decide +kernel
theorem dL_isLine_25 : decode cL_isLine 25 = .ok (.iconst 1, 1) := by decide +kernel
theorem dL_isLine_26 : decode cL_isLine 26 = .ok (.istore 9, 2) := by decide +kernel
theorem dL_isLine_28 : decode cL_isLine 28 = .ok (.iconst 0, 1) := by decide +kernel
theorem dL_isLine_29 : decode cL_isLine 29 = .ok (.istore 10, 2) := by decide +kernel
theorem dL_isLine_31 : decode cL_isLine 31 = .ok (.iload 10, 2) := by decide +kernel
theorem dL_isLine_33 : decode cL_isLine 33 = .ok (.bipush 24, 2) := by decide +kernel
theorem dL_isLine_35 : decode cL_isLine 35 = .ok (.if_icmp .ge 78, 3) := by decide +kernel
theorem dL_isLine_38 : decode cL_isLine 38 = .ok (.iload 9, 2) := by decide +kernel
theorem dL_isLine_40 : decode cL_isLine 40 = .ok (.ifCond .eq 73, 3) := by decide +kernel
theorem dL_isLine_43 : decode cL_isLine 43 = .ok (.aload_n 0, 1) := by decide +kernel
theorem dL_isLine_44 : decode cL_isLine 44 = .ok (.iload 10, 2) := by decide +kernel
theorem dL_isLine_46 : decode cL_isLine 46 = .ok (.iconst 3, 1) := by decide +kernel
theorem dL_isLine_47 : decode cL_isLine 47 = .ok (.idiv, 1) := by decide +kernel
theorem dL_isLine_48 : decode cL_isLine 48 = .ok (.iload 10, 2) := by decide +kernel
theorem dL_isLine_50 : decode cL_isLine 50 = .ok (.iconst 3, 1) := by decide +kernel
theorem dL_isLine_51 : decode cL_isLine 51 = .ok (.irem, 1) := by decide +kernel
theorem dL_isLine_52 : decode cL_isLine 52 = .ok (.invokevirtual 49, 3) := by decide +kernel
theorem dL_isLine_55 : decode cL_isLine 55 = .ok (.aload_n 0, 1) := by decide +kernel
theorem dL_isLine_56 : decode cL_isLine 56 = .ok (.iload_n 2, 1) := by decide +kernel
theorem dL_isLine_57 : decode cL_isLine 57 = .ok (.iload 6, 2) := by decide +kernel
theorem dL_isLine_59 : decode cL_isLine 59 = .ok (.iload 10, 2) := by decide +kernel
theorem dL_isLine_61 : decode cL_isLine 61 = .ok (.iconst 3, 1) := by decide +kernel
theorem dL_isLine_62 : decode cL_isLine 62 = .ok (.idiv, 1) := by decide +kernel
theorem dL_isLine_63 : decode cL_isLine 63 = .ok (.iload 10, 2) := by decide +kernel
theorem dL_isLine_65 : decode cL_isLine 65 = .ok (.iconst 3, 1) := by decide +kernel
theorem dL_isLine_66 : decode cL_isLine 66 = .ok (.irem, 1) := by decide +kernel
theorem dL_isLine_67 : decode cL_isLine 67 = .ok (.invokevirtual 116, 3) := by decide +kernel
theorem dL_isLine_70 : decode cL_isLine 70 = .ok (.if_icmp .ne 7, 3) := by decide +kernel
theorem dL_isLine_73 : decode cL_isLine 73 = .ok (.iconst 1, 1) := by decide +kernel
theorem dL_isLine_74 : decode cL_isLine 74 = .ok (.goto 4, 3) := by decide +kernel
theorem dL_isLine_77 : decode cL_isLine 77 = .ok (.iconst 0, 1) := by decide +kernel
theorem dL_isLine_78 : decode cL_isLine 78 = .ok (.istore 9, 2) := by decide +kernel
theorem dL_isLine_80 : decode cL_isLine 80 = .ok (.iload 7, 2) := by decide +kernel
theorem dL_isLine_82 : decode cL_isLine 82 = .ok (.aload_n 0, 1) := by decide +kernel
theorem dL_isLine_83 : decode cL_isLine 83 = .ok (.iload 10, 2) := by decide +kernel
theorem dL_isLine_85 : decode cL_isLine 85 = .ok (.iconst 3, 1) := by decide +kernel
theorem dL_isLine_86 : decode cL_isLine 86 = .ok (.idiv, 1) := by decide +kernel
theorem dL_isLine_87 : decode cL_isLine 87 = .ok (.iload 10, 2) := by decide +kernel
theorem dL_isLine_89 : decode cL_isLine 89 = .ok (.iconst 3, 1) := by decide +kernel
theorem dL_isLine_90 : decode cL_isLine 90 = .ok (.irem, 1) := by decide +kernel
theorem dL_isLine_91 : decode cL_isLine 91 = .ok (.invokevirtual 49, 3) := by decide +kernel
theorem dL_isLine_94 : decode cL_isLine 94 = .ok (.ldc 119, 2) := by decide +kernel
theorem dL_isLine_96 : decode cL_isLine 96 = .ok (.if_icmp .ne 7, 3) := by decide +kernel
theorem dL_isLine_99 : decode cL_isLine 99 = .ok (.iconst 0, 1) := by decide +kernel
theorem dL_isLine_100 : decode cL_isLine 100 = .ok (.goto 4, 3) := by decide +kernel
theorem dL_isLine_103 : decode cL_isLine 103 = .ok (.iconst 1, 1) := by decide +kernel
theorem dL_isLine_104 : decode cL_isLine 104 = .ok (.iadd, 1) := by decide +kernel
theorem dL_isLine_105 : decode cL_isLine 105 = .ok (.istore 7, 2) := by decide +kernel
theorem dL_isLine_107 : decode cL_isLine 107 = .ok (.iinc 10 1, 3) := by decide +kernel
theorem dL_isLine_110 : decode cL_isLine 110 = .ok (.goto (-79), 3) := by decide +kernel
theorem dL_isLine_113 : decode cL_isLine 113 = .ok (.aload_n 0, 1) := by decide +kernel
theorem dL_isLine_114 : decode cL_isLine 114 = .ok (.iconst 1, 1) := by decide +kernel
theorem dL_isLine_115 : decode cL_isLine 115 = .ok (.iload_n 2, 1) := by decide +kernel
theorem dL_isLine_116 : decode cL_isLine 116 = .ok (.isub, 1) := by decide +kernel
theorem dL_isLine_117 : decode cL_isLine 117 = .ok (.invokestatic 105, 3) := by decide +kernel
theorem dL_isLine_120 : decode cL_isLine 120 = .ok (.istore 10, 2) := by decide +kernel
theorem dL_isLine_122 : decode cL_isLine 122 = .ok (.aload_n 0, 1) := by decide +kernel
theorem dL_isLine_123 : decode cL_isLine 123 = .ok (.iconst 0, 1) := by decide +kernel
theorem dL_isLine_124 : decode cL_isLine 124 = .ok (.iload_n 1, 1) := by decide +kernel
theorem dL_isLine_125 : decode cL_isLine 125 = .ok (.iconst 1, 1) := by decide +kernel
theorem dL_isLine_126 : decode cL_isLine 126 = .ok (.iload_n 2, 1) := by decide +kernel
theorem dL_isLine_127 : decode cL_isLine 127 = .ok (.isub, 1) := by decide +kernel
theorem dL_isLine_128 : decode cL_isLine 128 = .ok (.iconst 0, 1) := by decide +kernel
theorem dL_isLine_129 : decode cL_isLine 129 = .ok (.invokestatic 52, 3) := by decide +kernel
theorem dL_isLine_132 : decode cL_isLine 132 = .ok (.istore 11, 2) := by decide +kernel
theorem dL_isLine_134 : decode cL_isLine 134 = .ok (.iload 11, 2) := by decide +kernel
theorem dL_isLine_136 : decode cL_isLine 136 = .ok (.ifCond .ge 52, 3) := by decide +kernel
theorem dL_isLine_139 : decode cL_isLine 139 = .ok (.iload 9, 2) := by decide +kernel
theorem dL_isLine_141 : decode cL_isLine 141 = .ok (.ifCond .eq 45, 3) := by decide +kernel
theorem dL_isLine_144 : decode cL_isLine 144 = .ok (.iload 8, 2) := by decide +kernel
theorem dL_isLine_146 : decode cL_isLine 146 = .ok (.iload 7, 2) := by decide +kernel
theorem dL_isLine_148 : decode cL_isLine 148 = .ok (.if_icmp .ne 38, 3) := by decide +kernel
theorem dL_isLine_151 : decode cL_isLine 151 = .ok (.aload 5, 2) := by decide +kernel
theorem dL_isLine_153 : decode cL_isLine 153 = .ok (.bipush 8, 2) := by decide +kernel
theorem dL_isLine_155 : decode cL_isLine 155 = .ok (.bipush 6, 2) := by decide +kernel
theorem dL_isLine_157 : decode cL_isLine 157 = .ok (.iconst 1, 1) := by decide +kernel
theorem dL_isLine_158 : decode cL_isLine 158 = .ok (.iload_n 2, 1) := by decide +kernel
theorem dL_isLine_159 : decode cL_isLine 159 = .ok (.isub, 1) := by decide +kernel
theorem dL_isLine_160 : decode cL_isLine 160 = .ok (.imul, 1) := by decide +kernel
theorem dL_isLine_161 : decode cL_isLine 161 = .ok (.iadd, 1) := by decide +kernel
theorem dL_isLine_162 : decode cL_isLine 162 = .ok (.iaload, 1) := by decide +kernel
theorem dL_isLine_163 : decode cL_isLine 163 = .ok (.iconst 1, 1) := by decide +kernel
theorem dL_isLine_164 : decode cL_isLine 164 = .ok (.if_icmp .eq 18, 3) := by decide +kernel
theorem dL_isLine_167 : decode cL_isLine 167 = .ok (.iload 10, 2) := by decide +kernel
theorem dL_isLine_169 : decode cL_isLine 169 = .ok (.iload 4, 2) := by decide +kernel
theorem dL_isLine_171 : decode cL_isLine 171 = .ok (.iadd, 1) := by decide +kernel
theorem dL_isLine_172 : decode cL_isLine 172 = .ok (.iload_n 3, 1) := by decide +kernel
theorem dL_isLine_173 : decode cL_isLine 173 = .ok (.isub, 1) := by decide +kernel
theorem dL_isLine_174 : decode cL_isLine 174 = .ok (.iconst 1, 1) := by decide +kernel
theorem dL_isLine_175 : decode cL_isLine 175 = .ok (.iadd, 1) := by decide +kernel
theorem dL_isLine_176 : decode cL_isLine 176 = .ok (.sipush 300, 3) := by decide +kernel
theorem dL_isLine_179 : decode cL_isLine 179 = .ok (.if_icmp .le 7, 3) := by decide +kernel
theorem dL_isLine_182 : decode cL_isLine 182 = .ok (.iconst 1, 1) := by decide +kernel
theorem dL_isLine_183 : decode cL_isLine 183 = .ok (.goto 4, 3) := by decide +kernel
theorem dL_isLine_186 : decode cL_isLine 186 = .ok (.iconst 0, 1) := by decide +kernel
theorem dL_isLine_187 : decode cL_isLine 187 = .ok (.ireturn, 1) := by decide +kernel
theorem dL_isLine_188 : decode cL_isLine 188 = .ok (.iload 9, 2) := by decide +kernel
theorem dL_isLine_190 : decode cL_isLine 190 = .ok (.ifCond .eq 21, 3) := by decide +kernel
theorem dL_isLine_193 : decode cL_isLine 193 = .ok (.iload 11, 2) := by decide +kernel
theorem dL_isLine_195 : decode cL_isLine 195 = .ok (.iload 10, 2) := by decide +kernel
theorem dL_isLine_197 : decode cL_isLine 197 = .ok (.iload 4, 2) := by decide +kernel
theorem dL_isLine_199 : decode cL_isLine 199 = .ok (.iadd, 1) := by decide +kernel
theorem dL_isLine_200 : decode cL_isLine 200 = .ok (.iload_n 3, 1) := by decide +kernel
theorem dL_isLine_201 : decode cL_isLine 201 = .ok (.isub, 1) := by decide +kernel
theorem dL_isLine_202 : decode cL_isLine 202 = .ok (.iconst 1, 1) := by decide +kernel
theorem dL_isLine_203 : decode cL_isLine 203 = .ok (.iadd, 1) := by decide +kernel
theorem dL_isLine_204 : decode cL_isLine 204 = .ok (.if_icmp .ne 7, 3) := by decide +kernel
theorem dL_isLine_207 : decode cL_isLine 207 = .ok (.iconst 1, 1) := by decide +kernel
theorem dL_isLine_208 : decode cL_isLine 208 = .ok (.goto 4, 3) := by decide +kernel
theorem dL_isLine_211 : decode cL_isLine 211 = .ok (.iconst 0, 1) := by decide +kernel
theorem dL_isLine_212 : decode cL_isLine 212 = .ok (.istore 9, 2) := by decide +kernel
theorem dL_isLine_214 : decode cL_isLine 214 = .ok (.iconst 0, 1) := by decide +kernel
theorem dL_isLine_215 : decode cL_isLine 215 = .ok (.istore 12, 2) := by decide +kernel
theorem dL_isLine_217 : decode cL_isLine 217 = .ok (.iload 12, 2) := by decide +kernel
theorem dL_isLine_219 : decode cL_isLine 219 = .ok (.iload 4, 2) := by decide +kernel
theorem dL_isLine_221 : decode cL_isLine 221 = .ok (.iload_n 3, 1) := by decide +kernel
theorem dL_isLine_222 : decode cL_isLine 222 = .ok (.isub, 1) := by decide +kernel
theorem dL_isLine_223 : decode cL_isLine 223 = .ok (.if_icmp .ge 45, 3) := by decide +kernel
theorem dL_isLine_226 : decode cL_isLine 226 = .ok (.iload 9, 2) := by decide +kernel
theorem dL_isLine_228 : decode cL_isLine 228 = .ok (.ifCond .eq 40, 3) := by decide +kernel
theorem dL_isLine_231 : decode cL_isLine 231 = .ok (.aload_n 0, 1) := by decide +kernel
theorem dL_isLine_232 : decode cL_isLine 232 = .ok (.iconst 1, 1) := by decide +kernel
theorem dL_isLine_233 : decode cL_isLine 233 = .ok (.iload_n 2, 1) := by decide +kernel
theorem dL_isLine_234 : decode cL_isLine 234 = .ok (.isub, 1) := by decide +kernel
theorem dL_isLine_235 : decode cL_isLine 235 = .ok (.iload 10, 2) := by decide +kernel
theorem dL_isLine_237 : decode cL_isLine 237 = .ok (.iload 12, 2) := by decide +kernel
theorem dL_isLine_239 : decode cL_isLine 239 = .ok (.iadd, 1) := by decide +kernel
theorem dL_isLine_240 : decode cL_isLine 240 = .ok (.invokevirtual 33, 3) := by decide +kernel
theorem dL_isLine_243 : decode cL_isLine 243 = .ok (.aload_n 0, 1) := by decide +kernel
theorem dL_isLine_244 : decode cL_isLine 244 = .ok (.iload_n 2, 1) := by decide +kernel
theorem dL_isLine_245 : decode cL_isLine 245 = .ok (.iload_n 3, 1) := by decide +kernel
theorem dL_isLine_246 : decode cL_isLine 246 = .ok (.iload 12, 2) := by decide +kernel
theorem dL_isLine_248 : decode cL_isLine 248 = .ok (.iadd, 1) := by decide +kernel
theorem dL_isLine_249 : decode cL_isLine 249 = .ok (.invokevirtual 33, 3) := by decide +kernel
theorem dL_isLine_252 : decode cL_isLine 252 = .ok (.if_icmp .ne 7, 3) := by decide +kernel
theorem dL_isLine_255 : decode cL_isLine 255 = .ok (.iconst 1, 1) := by decide +kernel
theorem dL_isLine_256 : decode cL_isLine 256 = .ok (.goto 4, 3) := by decide +kernel
theorem dL_isLine_259 : decode cL_isLine 259 = .ok (.iconst 0, 1) := by decide +kernel
theorem dL_isLine_260 : decode cL_isLine 260 = .ok (.istore 9, 2) := by decide +kernel
theorem dL_isLine_262 : decode cL_isLine 262 = .ok (.iinc 12 1, 3) := by decide +kernel
theorem dL_isLine_265 : decode cL_isLine 265 = .ok (.goto (-48), 3) := by decide +kernel
theorem dL_isLine_268 : decode cL_isLine 268 = .ok (.iload 9, 2) := by decide +kernel
theorem dL_isLine_270 : decode cL_isLine 270 = .ok (.ifCond .eq 22, 3) := by decide +kernel
theorem dL_isLine_273 : decode cL_isLine 273 = .ok (.iload 8, 2) := by decide +kernel
theorem dL_isLine_275 : decode cL_isLine 275 = .ok (.iload 7, 2) := by decide +kernel
theorem dL_isLine_277 : decode cL_isLine 277 = .ok (.if_icmp .ne 15, 3) := by decide +kernel
theorem dL_isLine_280 : decode cL_isLine 280 = .ok (.aload_n 0, 1) := by decide +kernel
theorem dL_isLine_281 : decode cL_isLine 281 = .ok (.iload_n 1, 1) := by decide +kernel
theorem dL_isLine_282 : decode cL_isLine 282 = .ok (.invokevirtual 102, 3) := by decide +kernel
theorem dL_isLine_285 : decode cL_isLine 285 = .ok (.ifCond .ne 7, 3) := by decide +kernel
theorem dL_isLine_288 : decode cL_isLine 288 = .ok (.iconst 1, 1) := by decide +kernel
theorem dL_isLine_289 : decode cL_isLine 289 = .ok (.goto 4, 3) := by decide +kernel
theorem dL_isLine_292 : decode cL_isLine 292 = .ok (.iconst 0, 1) := by decide +kernel
theorem dL_isLine_293 : decode cL_isLine 293 = .ok (.ireturn, 1) := by decide +kernel
def is_L_isLine (Rt : np_Rt) : List (Nat × np_Op) := [(0, np_ald 2 5), (2, np_push 1 (.int 5)), (3, np_push 2 (.int 6)), (5, np_ild 1 2), (6, np_ib (fun x y => x * y)), (7, np_ib (fun x y => x + y)), (8, nw_ialdT .int), (9, np_push 1 (.int 1)), (10, np_ib (fun x y => x - y)), (11, nw_ist 2 6), (13, np_push 1 (.int 0)), (14, nw_ist 2 7), (16, np_ald 1 0), (17, np_ild 1 2), (18, np_ild 2 6), (20, nw_callVX 11 3 sp_X11_take 6 1 6 501 3006 []), (23, nw_ist 2 8), (25, np_push 1 (.int 1)), (26, nw_ist 2 9), (28, np_push 1 (.int 0)), (29, nw_ist 2 10), (31, np_ild 2 10), (33, np_push 2 (.int 24)), (35, nq_ic (fun x y => y ≤ x) 113), (38, np_ild 2 9), (40, nq_if (fun x => x = 0) 113), (43, np_ald 1 0), (44, np_ild 2 10), (46, np_push 1 (.int 3)), (47, nq_ibn (fun x y => x / y)), (48, np_ild 2 10), (50, np_push 1 (.int 3)), (51, nq_ibn (fun x y => x - x / y * y)), (52, nw_callVX 11 3 sp_X11_get 3 1 6 501 3006 []), (55, np_ald 1 0), (56, np_ild 1 2), (57, np_ild 2 6), (59, np_ild 2 10), (61, np_push 1 (.int 3)), (62, nq_ibn (fun x y => x / y)), (63, np_ild 2 10), (65, np_push 1 (.int 3)), (66, nq_ibn (fun x y => x - x / y * y)), (67, nw_callVX 11 5 sp_X11_cell 6 1 6 501 3006 []), (70, nq_icne 77), (73, np_push 1 (.int 1)), (74, np_goto 78), (77, np_push 1 (.int 0)), (78, nw_ist 2 9), (80, np_ild 2 7), (82, np_ald 1 0), (83, np_ild 2 10), (85, np_push 1 (.int 3)), (86, nq_ibn (fun x y => x / y)), (87, np_ild 2 10), (89, np_push 1 (.int 3)), (90, nq_ibn (fun x y => x - x / y * y)), (91, nw_callVX 11 3 sp_X11_get 3 1 6 501 3006 []), (94, np_push 2 (.int (-2147483648))), (96, nq_icne 103), (99, np_push 1 (.int 0)), (100, np_goto 104), (103, np_push 1 (.int 1)), (104, np_ib (fun x y => x + y)), (105, nw_ist 2 7), (107, nw_iinc 10 1), (110, np_goto 31), (113, np_ald 1 0), (114, np_push 1 (.int 1)), (115, np_ild 1 2), (116, np_ib (fun x y => x - y)), (117, nq_call 2 sp_L_units 3 302 1812 501 3006), (120, nw_ist 2 10), (122, np_ald 1 0), (123, np_push 1 (.int 0)), (124, np_ild 1 1), (125, np_push 1 (.int 1)), (126, np_ild 1 2), (127, np_ib (fun x y => x - y)), (128, np_push 1 (.int 0)), (129, nq_call 5 sp_L_asks 6 1 6 501 3006), (132, nw_ist 2 11), (134, np_ild 2 11), (136, nq_if (fun x => 0 ≤ x) 188), (139, np_ild 2 9), (141, nq_if (fun x => x = 0) 186), (144, np_ild 2 8), (146, np_ild 2 7), (148, nq_icne 186), (151, np_ald 2 5), (153, np_push 2 (.int 8)), (155, np_push 2 (.int 6)), (157, np_push 1 (.int 1)), (158, np_ild 1 2), (159, np_ib (fun x y => x - y)), (160, np_ib (fun x y => x * y)), (161, np_ib (fun x y => x + y)), (162, nw_ialdT .int), (163, np_push 1 (.int 1)), (164, nq_ic (fun x y => x = y) 182), (167, np_ild 2 10), (169, np_ild 2 4), (171, np_ib (fun x y => x + y)), (172, np_ild 1 3), (173, np_ib (fun x y => x - y)), (174, np_push 1 (.int 1)), (175, np_ib (fun x y => x + y)), (176, np_push 3 (.int 300)), (179, nq_ic (fun x y => x ≤ y) 186), (182, np_push 1 (.int 1)), (183, np_goto 187), (186, np_push 1 (.int 0)), (187, np_ret Rt), (188, np_ild 2 9), (190, nq_if (fun x => x = 0) 211), (193, np_ild 2 11), (195, np_ild 2 10), (197, np_ild 2 4), (199, np_ib (fun x y => x + y)), (200, np_ild 1 3), (201, np_ib (fun x y => x - y)), (202, np_push 1 (.int 1)), (203, np_ib (fun x y => x + y)), (204, nq_icne 211), (207, np_push 1 (.int 1)), (208, np_goto 212), (211, np_push 1 (.int 0)), (212, nw_ist 2 9), (214, np_push 1 (.int 0)), (215, nw_ist 2 12), (217, np_ild 2 12), (219, np_ild 2 4), (221, np_ild 1 3), (222, np_ib (fun x y => x - y)), (223, nq_ic (fun x y => y ≤ x) 268), (226, np_ild 2 9), (228, nq_if (fun x => x = 0) 268), (231, np_ald 1 0), (232, np_push 1 (.int 1)), (233, np_ild 1 2), (234, np_ib (fun x y => x - y)), (235, np_ild 2 10), (237, np_ild 2 12), (239, np_ib (fun x y => x + y)), (240, nw_callVX 11 3 sp_X11_unit 5 1 6 501 3006 []), (243, np_ald 1 0), (244, np_ild 1 2), (245, np_ild 1 3), (246, np_ild 2 12), (248, np_ib (fun x y => x + y)), (249, nw_callVX 11 3 sp_X11_unit 5 1 6 501 3006 []), (252, nq_icne 259), (255, np_push 1 (.int 1)), (256, np_goto 260), (259, np_push 1 (.int 0)), (260, nw_ist 2 9), (262, nw_iinc 12 1), (265, np_goto 217), (268, np_ild 2 9), (270, nq_if (fun x => x = 0) 292), (273, np_ild 2 8), (275, np_ild 2 7), (277, nq_icne 292), (280, np_ald 1 0), (281, np_ild 1 1), (282, nw_callVX 11 2 sp_X11_message 3 1 6 501 3006 []), (285, nq_ifne 292), (288, np_push 1 (.int 1)), (289, np_goto 293), (292, np_push 1 (.int 0)), (293, np_ret Rt)]
set_option maxRecDepth 20000 in
theorem so_L_isLine {X : np_Ctx} {Rt : np_Rt} (hX : np_ok RL cL_isLine 13 10 272 501 3006 .ireturn X) (hR : ∀ st w ce sl, Rt st w ce sl → X.2.2.1 st w ce sl) : ∀ q ∈ is_L_isLine Rt, np_S X q.1 q.2 :=
  List.forall_mem_cons.mpr ⟨np_s_aload hX dL_isLine_0, List.forall_mem_cons.mpr ⟨np_s_iconst hX dL_isLine_2 (by decide), List.forall_mem_cons.mpr ⟨np_s_bipush hX dL_isLine_3 (by decide), List.forall_mem_cons.mpr ⟨np_s_iload_n hX dL_isLine_5 rfl, List.forall_mem_cons.mpr ⟨np_s_imul hX dL_isLine_6, List.forall_mem_cons.mpr ⟨np_s_iadd hX dL_isLine_7, List.forall_mem_cons.mpr ⟨np_S.mono (op := np_ialdT .int) (np_s_iald hX dL_isLine_8) nw_ialdT_le, List.forall_mem_cons.mpr ⟨np_s_iconst hX dL_isLine_9 (by decide), List.forall_mem_cons.mpr ⟨np_s_isub hX dL_isLine_10, List.forall_mem_cons.mpr ⟨np_S.mono (op := np_ist 2 6) (np_s_istore hX dL_isLine_11 (by decide)) nw_ist_le, List.forall_mem_cons.mpr ⟨np_s_iconst hX dL_isLine_13 (by decide), List.forall_mem_cons.mpr ⟨np_S.mono (op := np_ist 2 7) (np_s_istore hX dL_isLine_14 (by decide)) nw_ist_le, List.forall_mem_cons.mpr ⟨np_s_aload_n hX dL_isLine_16 rfl, List.forall_mem_cons.mpr ⟨np_s_iload_n hX dL_isLine_17 rfl, List.forall_mem_cons.mpr ⟨np_s_iload hX dL_isLine_18, List.forall_mem_cons.mpr ⟨np_S.mono (op := np_callVX 11 3 sp_X11_take 6 1 6 501 3006 []) (np_s_callVX hX C_X11_take dL_isLine_20 (q := (RX11, TX11, 14)) rfl rfl gw1258 gw63 gw1255 gw1256 gw1257 ⟨by decide, by decide, by decide⟩ (by decide) (by decide) (fun _ h => nomatch h)) (nw_callVX_le2 (ci := 11) (n := 3) (sp := sp_X11_take) (maxL := 6) (mc := 1) (ms := 6) (RC := 501) (RS := 3006) (hs := [])), List.forall_mem_cons.mpr ⟨np_S.mono (op := np_ist 2 8) (np_s_istore hX dL_isLine_23 (by decide)) nw_ist_le, List.forall_mem_cons.mpr ⟨np_s_iconst hX dL_isLine_25 (by decide), List.forall_mem_cons.mpr ⟨np_S.mono (op := np_ist 2 9) (np_s_istore hX dL_isLine_26 (by decide)) nw_ist_le, List.forall_mem_cons.mpr ⟨np_s_iconst hX dL_isLine_28 (by decide), List.forall_mem_cons.mpr ⟨np_S.mono (op := np_ist 2 10) (np_s_istore hX dL_isLine_29 (by decide)) nw_ist_le, List.forall_mem_cons.mpr ⟨np_s_iload hX dL_isLine_31, List.forall_mem_cons.mpr ⟨np_s_bipush hX dL_isLine_33 (by decide), List.forall_mem_cons.mpr ⟨np_S.mono (op := np_ic (fun x y => y ≤ x) 113) (np_s_icmp_ge hX dL_isLine_35 (by decide)) nq_ic_le, List.forall_mem_cons.mpr ⟨np_s_iload hX dL_isLine_38, List.forall_mem_cons.mpr ⟨np_S.mono (op := np_if (fun x => x = 0) 113) (np_s_if_eq hX dL_isLine_40 (by decide)) nq_if_le, List.forall_mem_cons.mpr ⟨np_s_aload_n hX dL_isLine_43 rfl, List.forall_mem_cons.mpr ⟨np_s_iload hX dL_isLine_44, List.forall_mem_cons.mpr ⟨np_s_iconst hX dL_isLine_46 (by decide), List.forall_mem_cons.mpr ⟨np_S.mono (op := np_ibn (fun x y => x / y)) (np_s_idiv hX dL_isLine_47) nq_ibn_le, List.forall_mem_cons.mpr ⟨np_s_iload hX dL_isLine_48, List.forall_mem_cons.mpr ⟨np_s_iconst hX dL_isLine_50 (by decide), List.forall_mem_cons.mpr ⟨np_S.mono (op := np_ibn (fun x y => x - x / y * y)) (np_s_irem hX dL_isLine_51) nq_ibn_le, List.forall_mem_cons.mpr ⟨np_S.mono (op := np_callVX 11 3 sp_X11_get 3 1 6 501 3006 []) (np_s_callVX hX C_X11_get dL_isLine_52 (q := (RX11, TX11, 14)) rfl rfl gw718 gw63 gw715 gw716 gw717 ⟨by decide, by decide, by decide⟩ (by decide) (by decide) (fun _ h => nomatch h)) (nw_callVX_le2 (ci := 11) (n := 3) (sp := sp_X11_get) (maxL := 3) (mc := 1) (ms := 6) (RC := 501) (RS := 3006) (hs := [])), List.forall_mem_cons.mpr ⟨np_s_aload_n hX dL_isLine_55 rfl, List.forall_mem_cons.mpr ⟨np_s_iload_n hX dL_isLine_56 rfl, List.forall_mem_cons.mpr ⟨np_s_iload hX dL_isLine_57, List.forall_mem_cons.mpr ⟨np_s_iload hX dL_isLine_59, List.forall_mem_cons.mpr ⟨np_s_iconst hX dL_isLine_61 (by decide), List.forall_mem_cons.mpr ⟨np_S.mono (op := np_ibn (fun x y => x / y)) (np_s_idiv hX dL_isLine_62) nq_ibn_le, List.forall_mem_cons.mpr ⟨np_s_iload hX dL_isLine_63, List.forall_mem_cons.mpr ⟨np_s_iconst hX dL_isLine_65 (by decide), List.forall_mem_cons.mpr ⟨np_S.mono (op := np_ibn (fun x y => x - x / y * y)) (np_s_irem hX dL_isLine_66) nq_ibn_le, List.forall_mem_cons.mpr ⟨np_S.mono (op := np_callVX 11 5 sp_X11_cell 6 1 6 501 3006 []) (np_s_callVX hX C_X11_cell dL_isLine_67 (q := (RX11, TX11, 14)) rfl rfl gw1264 gw63 gw1261 gw1262 gw1263 ⟨by decide, by decide, by decide⟩ (by decide) (by decide) (fun _ h => nomatch h)) (nw_callVX_le2 (ci := 11) (n := 5) (sp := sp_X11_cell) (maxL := 6) (mc := 1) (ms := 6) (RC := 501) (RS := 3006) (hs := [])), List.forall_mem_cons.mpr ⟨np_S.mono (op := np_icne 77) (np_s_icmp_ne hX dL_isLine_70 (by decide)) nq_icne_le, List.forall_mem_cons.mpr ⟨np_s_iconst hX dL_isLine_73 (by decide), List.forall_mem_cons.mpr ⟨np_s_goto hX dL_isLine_74 (by decide), List.forall_mem_cons.mpr ⟨np_s_iconst hX dL_isLine_77 (by decide), List.forall_mem_cons.mpr ⟨np_S.mono (op := np_ist 2 9) (np_s_istore hX dL_isLine_78 (by decide)) nw_ist_le, List.forall_mem_cons.mpr ⟨np_s_iload hX dL_isLine_80, List.forall_mem_cons.mpr ⟨np_s_aload_n hX dL_isLine_82 rfl, List.forall_mem_cons.mpr ⟨np_s_iload hX dL_isLine_83, List.forall_mem_cons.mpr ⟨np_s_iconst hX dL_isLine_85 (by decide), List.forall_mem_cons.mpr ⟨np_S.mono (op := np_ibn (fun x y => x / y)) (np_s_idiv hX dL_isLine_86) nq_ibn_le, List.forall_mem_cons.mpr ⟨np_s_iload hX dL_isLine_87, List.forall_mem_cons.mpr ⟨np_s_iconst hX dL_isLine_89 (by decide), List.forall_mem_cons.mpr ⟨np_S.mono (op := np_ibn (fun x y => x - x / y * y)) (np_s_irem hX dL_isLine_90) nq_ibn_le, List.forall_mem_cons.mpr ⟨np_S.mono (op := np_callVX 11 3 sp_X11_get 3 1 6 501 3006 []) (np_s_callVX hX C_X11_get dL_isLine_91 (q := (RX11, TX11, 14)) rfl rfl gw718 gw63 gw715 gw716 gw717 ⟨by decide, by decide, by decide⟩ (by decide) (by decide) (fun _ h => nomatch h)) (nw_callVX_le2 (ci := 11) (n := 3) (sp := sp_X11_get) (maxL := 3) (mc := 1) (ms := 6) (RC := 501) (RS := 3006) (hs := [])), List.forall_mem_cons.mpr ⟨np_s_ldc hX dL_isLine_94 gw1266, List.forall_mem_cons.mpr ⟨np_S.mono (op := np_icne 103) (np_s_icmp_ne hX dL_isLine_96 (by decide)) nq_icne_le, List.forall_mem_cons.mpr ⟨np_s_iconst hX dL_isLine_99 (by decide), List.forall_mem_cons.mpr ⟨np_s_goto hX dL_isLine_100 (by decide), List.forall_mem_cons.mpr ⟨np_s_iconst hX dL_isLine_103 (by decide), List.forall_mem_cons.mpr ⟨np_s_iadd hX dL_isLine_104, List.forall_mem_cons.mpr ⟨np_S.mono (op := np_ist 2 7) (np_s_istore hX dL_isLine_105 (by decide)) nw_ist_le, List.forall_mem_cons.mpr ⟨np_S.mono (op := np_iinc 10 1) (np_s_iinc hX dL_isLine_107 (by decide)) nw_iinc_le, List.forall_mem_cons.mpr ⟨np_s_goto hX dL_isLine_110 (by decide), List.forall_mem_cons.mpr ⟨np_s_aload_n hX dL_isLine_113 rfl, List.forall_mem_cons.mpr ⟨np_s_iconst hX dL_isLine_114 (by decide), List.forall_mem_cons.mpr ⟨np_s_iload_n hX dL_isLine_115 rfl, List.forall_mem_cons.mpr ⟨np_s_isub hX dL_isLine_116, List.forall_mem_cons.mpr ⟨np_S.mono (op := np_call 2 sp_L_units 3 302 1812 501 3006) (np_s_callS hX C_L_units dL_isLine_117 gw928 gw62 gw926 gw927 ⟨by decide, by decide, by decide⟩ (by decide) (by decide)) nq_call_le, List.forall_mem_cons.mpr ⟨np_S.mono (op := np_ist 2 10) (np_s_istore hX dL_isLine_120 (by decide)) nw_ist_le, List.forall_mem_cons.mpr ⟨np_s_aload_n hX dL_isLine_122 rfl, List.forall_mem_cons.mpr ⟨np_s_iconst hX dL_isLine_123 (by decide), List.forall_mem_cons.mpr ⟨np_s_iload_n hX dL_isLine_124 rfl, List.forall_mem_cons.mpr ⟨np_s_iconst hX dL_isLine_125 (by decide), List.forall_mem_cons.mpr ⟨np_s_iload_n hX dL_isLine_126 rfl, List.forall_mem_cons.mpr ⟨np_s_isub hX dL_isLine_127, List.forall_mem_cons.mpr ⟨np_s_iconst hX dL_isLine_128 (by decide), List.forall_mem_cons.mpr ⟨np_S.mono (op := np_call 5 sp_L_asks 6 1 6 501 3006) (np_s_callSW hX C_L_asks dL_isLine_129 gw931 gw62 gw929 gw930 ⟨by decide, by decide, by decide⟩ (by decide) (by decide)) nq_call_le, List.forall_mem_cons.mpr ⟨np_S.mono (op := np_ist 2 11) (np_s_istore hX dL_isLine_132 (by decide)) nw_ist_le, List.forall_mem_cons.mpr ⟨np_s_iload hX dL_isLine_134, List.forall_mem_cons.mpr ⟨np_S.mono (op := np_if (fun x => 0 ≤ x) 188) (np_s_if_ge hX dL_isLine_136 (by decide)) nq_if_le, List.forall_mem_cons.mpr ⟨np_s_iload hX dL_isLine_139, List.forall_mem_cons.mpr ⟨np_S.mono (op := np_if (fun x => x = 0) 186) (np_s_if_eq hX dL_isLine_141 (by decide)) nq_if_le, List.forall_mem_cons.mpr ⟨np_s_iload hX dL_isLine_144, List.forall_mem_cons.mpr ⟨np_s_iload hX dL_isLine_146, List.forall_mem_cons.mpr ⟨np_S.mono (op := np_icne 186) (np_s_icmp_ne hX dL_isLine_148 (by decide)) nq_icne_le, List.forall_mem_cons.mpr ⟨np_s_aload hX dL_isLine_151, List.forall_mem_cons.mpr ⟨np_s_bipush hX dL_isLine_153 (by decide), List.forall_mem_cons.mpr ⟨np_s_bipush hX dL_isLine_155 (by decide), List.forall_mem_cons.mpr ⟨np_s_iconst hX dL_isLine_157 (by decide), List.forall_mem_cons.mpr ⟨np_s_iload_n hX dL_isLine_158 rfl, List.forall_mem_cons.mpr ⟨np_s_isub hX dL_isLine_159, List.forall_mem_cons.mpr ⟨np_s_imul hX dL_isLine_160, List.forall_mem_cons.mpr ⟨np_s_iadd hX dL_isLine_161, List.forall_mem_cons.mpr ⟨np_S.mono (op := np_ialdT .int) (np_s_iald hX dL_isLine_162) nw_ialdT_le, List.forall_mem_cons.mpr ⟨np_s_iconst hX dL_isLine_163 (by decide), List.forall_mem_cons.mpr ⟨np_S.mono (op := np_ic (fun x y => x = y) 182) (np_s_icmp_eq hX dL_isLine_164 (by decide)) nq_ic_le, List.forall_mem_cons.mpr ⟨np_s_iload hX dL_isLine_167, List.forall_mem_cons.mpr ⟨np_s_iload hX dL_isLine_169, List.forall_mem_cons.mpr ⟨np_s_iadd hX dL_isLine_171, List.forall_mem_cons.mpr ⟨np_s_iload_n hX dL_isLine_172 rfl, List.forall_mem_cons.mpr ⟨np_s_isub hX dL_isLine_173, List.forall_mem_cons.mpr ⟨np_s_iconst hX dL_isLine_174 (by decide), List.forall_mem_cons.mpr ⟨np_s_iadd hX dL_isLine_175, List.forall_mem_cons.mpr ⟨np_s_sipush hX dL_isLine_176 (by decide), List.forall_mem_cons.mpr ⟨np_S.mono (op := np_ic (fun x y => x ≤ y) 186) (np_s_icmp_le hX dL_isLine_179 (by decide)) nq_ic_le, List.forall_mem_cons.mpr ⟨np_s_iconst hX dL_isLine_182 (by decide), List.forall_mem_cons.mpr ⟨np_s_goto hX dL_isLine_183 (by decide), List.forall_mem_cons.mpr ⟨np_s_iconst hX dL_isLine_186 (by decide), List.forall_mem_cons.mpr ⟨np_S.mono (op := np_ret X.2.2.1) (np_s_ret hX dL_isLine_187) (nq_ret_le hR), List.forall_mem_cons.mpr ⟨np_s_iload hX dL_isLine_188, List.forall_mem_cons.mpr ⟨np_S.mono (op := np_if (fun x => x = 0) 211) (np_s_if_eq hX dL_isLine_190 (by decide)) nq_if_le, List.forall_mem_cons.mpr ⟨np_s_iload hX dL_isLine_193, List.forall_mem_cons.mpr ⟨np_s_iload hX dL_isLine_195, List.forall_mem_cons.mpr ⟨np_s_iload hX dL_isLine_197, List.forall_mem_cons.mpr ⟨np_s_iadd hX dL_isLine_199, List.forall_mem_cons.mpr ⟨np_s_iload_n hX dL_isLine_200 rfl, List.forall_mem_cons.mpr ⟨np_s_isub hX dL_isLine_201, List.forall_mem_cons.mpr ⟨np_s_iconst hX dL_isLine_202 (by decide), List.forall_mem_cons.mpr ⟨np_s_iadd hX dL_isLine_203, List.forall_mem_cons.mpr ⟨np_S.mono (op := np_icne 211) (np_s_icmp_ne hX dL_isLine_204 (by decide)) nq_icne_le, List.forall_mem_cons.mpr ⟨np_s_iconst hX dL_isLine_207 (by decide), List.forall_mem_cons.mpr ⟨np_s_goto hX dL_isLine_208 (by decide), List.forall_mem_cons.mpr ⟨np_s_iconst hX dL_isLine_211 (by decide), List.forall_mem_cons.mpr ⟨np_S.mono (op := np_ist 2 9) (np_s_istore hX dL_isLine_212 (by decide)) nw_ist_le, List.forall_mem_cons.mpr ⟨np_s_iconst hX dL_isLine_214 (by decide), List.forall_mem_cons.mpr ⟨np_S.mono (op := np_ist 2 12) (np_s_istore hX dL_isLine_215 (by decide)) nw_ist_le, List.forall_mem_cons.mpr ⟨np_s_iload hX dL_isLine_217, List.forall_mem_cons.mpr ⟨np_s_iload hX dL_isLine_219, List.forall_mem_cons.mpr ⟨np_s_iload_n hX dL_isLine_221 rfl, List.forall_mem_cons.mpr ⟨np_s_isub hX dL_isLine_222, List.forall_mem_cons.mpr ⟨np_S.mono (op := np_ic (fun x y => y ≤ x) 268) (np_s_icmp_ge hX dL_isLine_223 (by decide)) nq_ic_le, List.forall_mem_cons.mpr ⟨np_s_iload hX dL_isLine_226, List.forall_mem_cons.mpr ⟨np_S.mono (op := np_if (fun x => x = 0) 268) (np_s_if_eq hX dL_isLine_228 (by decide)) nq_if_le, List.forall_mem_cons.mpr ⟨np_s_aload_n hX dL_isLine_231 rfl, List.forall_mem_cons.mpr ⟨np_s_iconst hX dL_isLine_232 (by decide), List.forall_mem_cons.mpr ⟨np_s_iload_n hX dL_isLine_233 rfl, List.forall_mem_cons.mpr ⟨np_s_isub hX dL_isLine_234, List.forall_mem_cons.mpr ⟨np_s_iload hX dL_isLine_235, List.forall_mem_cons.mpr ⟨np_s_iload hX dL_isLine_237, List.forall_mem_cons.mpr ⟨np_s_iadd hX dL_isLine_239, List.forall_mem_cons.mpr ⟨np_S.mono (op := np_callVX 11 3 sp_X11_unit 5 1 6 501 3006 []) (np_s_callVX hX C_X11_unit dL_isLine_240 (q := (RX11, TX11, 14)) rfl rfl gw1181 gw63 gw1178 gw1179 gw1180 ⟨by decide, by decide, by decide⟩ (by decide) (by decide) (fun _ h => nomatch h)) (nw_callVX_le2 (ci := 11) (n := 3) (sp := sp_X11_unit) (maxL := 5) (mc := 1) (ms := 6) (RC := 501) (RS := 3006) (hs := [])), List.forall_mem_cons.mpr ⟨np_s_aload_n hX dL_isLine_243 rfl, List.forall_mem_cons.mpr ⟨np_s_iload_n hX dL_isLine_244 rfl, List.forall_mem_cons.mpr ⟨np_s_iload_n hX dL_isLine_245 rfl, List.forall_mem_cons.mpr ⟨np_s_iload hX dL_isLine_246, List.forall_mem_cons.mpr ⟨np_s_iadd hX dL_isLine_248, List.forall_mem_cons.mpr ⟨np_S.mono (op := np_callVX 11 3 sp_X11_unit 5 1 6 501 3006 []) (np_s_callVX hX C_X11_unit dL_isLine_249 (q := (RX11, TX11, 14)) rfl rfl gw1181 gw63 gw1178 gw1179 gw1180 ⟨by decide, by decide, by decide⟩ (by decide) (by decide) (fun _ h => nomatch h)) (nw_callVX_le2 (ci := 11) (n := 3) (sp := sp_X11_unit) (maxL := 5) (mc := 1) (ms := 6) (RC := 501) (RS := 3006) (hs := [])), List.forall_mem_cons.mpr ⟨np_S.mono (op := np_icne 259) (np_s_icmp_ne hX dL_isLine_252 (by decide)) nq_icne_le, List.forall_mem_cons.mpr ⟨np_s_iconst hX dL_isLine_255 (by decide), List.forall_mem_cons.mpr ⟨np_s_goto hX dL_isLine_256 (by decide), List.forall_mem_cons.mpr ⟨np_s_iconst hX dL_isLine_259 (by decide), List.forall_mem_cons.mpr ⟨np_S.mono (op := np_ist 2 9) (np_s_istore hX dL_isLine_260 (by decide)) nw_ist_le, List.forall_mem_cons.mpr ⟨np_S.mono (op := np_iinc 12 1) (np_s_iinc hX dL_isLine_262 (by decide)) nw_iinc_le, List.forall_mem_cons.mpr ⟨np_s_goto hX dL_isLine_265 (by decide), List.forall_mem_cons.mpr ⟨np_s_iload hX dL_isLine_268, List.forall_mem_cons.mpr ⟨np_S.mono (op := np_if (fun x => x = 0) 292) (np_s_if_eq hX dL_isLine_270 (by decide)) nq_if_le, List.forall_mem_cons.mpr ⟨np_s_iload hX dL_isLine_273, List.forall_mem_cons.mpr ⟨np_s_iload hX dL_isLine_275, List.forall_mem_cons.mpr ⟨np_S.mono (op := np_icne 292) (np_s_icmp_ne hX dL_isLine_277 (by decide)) nq_icne_le, List.forall_mem_cons.mpr ⟨np_s_aload_n hX dL_isLine_280 rfl, List.forall_mem_cons.mpr ⟨np_s_iload_n hX dL_isLine_281 rfl, List.forall_mem_cons.mpr ⟨np_S.mono (op := np_callVX 11 2 sp_X11_message 3 1 6 501 3006 []) (np_s_callVX hX C_X11_message dL_isLine_282 (q := (RX11, TX11, 14)) rfl rfl gw924 gw63 gw921 gw922 gw923 ⟨by decide, by decide, by decide⟩ (by decide) (by decide) (fun _ h => nomatch h)) (nw_callVX_le2 (ci := 11) (n := 2) (sp := sp_X11_message) (maxL := 3) (mc := 1) (ms := 6) (RC := 501) (RS := 3006) (hs := [])), List.forall_mem_cons.mpr ⟨np_S.mono (op := np_ifne 292) (np_s_if_ne hX dL_isLine_285 (by decide)) nq_ifne_le, List.forall_mem_cons.mpr ⟨np_s_iconst hX dL_isLine_288 (by decide), List.forall_mem_cons.mpr ⟨np_s_goto hX dL_isLine_289 (by decide), List.forall_mem_cons.mpr ⟨np_s_iconst hX dL_isLine_292 (by decide), List.forall_mem_cons.mpr ⟨np_S.mono (op := np_ret X.2.2.1) (np_s_ret hX dL_isLine_293) (nq_ret_le hR), fun _ h => nomatch h⟩⟩⟩⟩⟩⟩⟩⟩⟩⟩⟩⟩⟩⟩⟩⟩⟩⟩⟩⟩⟩⟩⟩⟩⟩⟩⟩⟩⟩⟩⟩⟩⟩⟩⟩⟩⟩⟩⟩⟩⟩⟩⟩⟩⟩⟩⟩⟩⟩⟩⟩⟩⟩⟩⟩⟩⟩⟩⟩⟩⟩⟩⟩⟩⟩⟩⟩⟩⟩⟩⟩⟩⟩⟩⟩⟩⟩⟩⟩⟩⟩⟩⟩⟩⟩⟩⟩⟩⟩⟩⟩⟩⟩⟩⟩⟩⟩⟩⟩⟩⟩⟩⟩⟩⟩⟩⟩⟩⟩⟩⟩⟩⟩⟩⟩⟩⟩⟩⟩⟩⟩⟩⟩⟩⟩⟩⟩⟩⟩⟩⟩⟩⟩⟩⟩⟩⟩⟩⟩⟩⟩⟩⟩⟩⟩⟩⟩⟩⟩⟩⟩⟩⟩⟩⟩⟩⟩⟩⟩⟩⟩⟩⟩⟩⟩⟩⟩⟩⟩⟩⟩
noncomputable def m_L_isLine_217  : Nat → pw_S → Nat → Int32 → Int32 → Int32 → Int32 → Int32 → Int32 → Int32 → Int32 → Int32 → pw_R Int32
| 0, _, _, _, _, _, _, _, _, _, _, _ => none
| N + 1, S, v0, v1, v2, v3, v4, v7, v8, v9, v10, v12 =>
 if (v4 - v3) ≤ v12 then
 (if v9 = 0 then
 (some (S, 0))
 else
 (if v8 = v7 then
 (pw_b (m_X11_message S v0 v1) fun S1 r4 =>
 pw_e r4 (fun r6 =>
 (if r6 = 0 then
 (some (S1, 1))
 else
 (some (S1, 0)))) (fun _ => none))
 else
 (some (S, 0))))
 else
 (if v9 = 0 then
 (if v9 = 0 then
 (some (S, 0))
 else
 (if v8 = v7 then
 (pw_b (m_X11_message S v0 v1) fun S8 r11 =>
 pw_e r11 (fun r13 =>
 (if r13 = 0 then
 (some (S8, 1))
 else
 (some (S8, 0)))) (fun _ => none))
 else
 (some (S, 0))))
 else
 (pw_b (m_X11_unit S v0 (1 - v2) (v10 + v12)) fun S15 r18 =>
 pw_e r18 (fun r20 =>
 (pw_b (m_X11_unit S15 v0 v2 (v3 + v12)) fun S22 r25 =>
 pw_e r25 (fun r27 =>
 (if r20 = r27 then
 (pw_l (1 : Int32) fun z29 =>
 pw_l (v12 + 1 : Int32) fun z30 =>
 m_L_isLine_217 N S22 v0 v1 v2 v3 v4 v7 v8 z29 v10 z30)
 else
 (pw_l (0 : Int32) fun z31 =>
 pw_l (v12 + 1 : Int32) fun z32 =>
 m_L_isLine_217 N S22 v0 v1 v2 v3 v4 v7 v8 z31 v10 z32))) (fun _ => none))) (fun _ => none)))
set_option maxRecDepth 100000 in
set_option maxHeartbeats 8000000 in
theorem L_L_isLine_217 {X : np_Ctx} (hX : np_ok RL cL_isLine 13 10 272 501 3006 .ireturn X) {Q : Option Value → np_W → Prop} {q : Nat} {n dc ds : Nat} (hR : ∀ st w ce sl, np_rt (some .boolean) 501 3006 Q st w ce sl → X.2.2.1 st w ce sl) : ∀ (N : Nat) (S : pw_S) (v0 : Nat) (v1 : Int32) (v2 : Int32) (v3 : Int32) (v4 : Int32) (v7 : Int32) (v8 : Int32) (v9 : Int32) (v10 : Int32) (v12 : Int32) (f : Nat → Option np_E) (ce sl : Nat) (hv0 : pw_ok q 61 v0 = true), ce + N * 2 + dc ≤ 501 → sl + N * 12 + ds ≤ 3006 → pw_W q (n, f) S → pw_p (m_L_isLine_217 N S v0 v1 v2 v3 v4 v7 v8 v9 v10 v12) (fun S' r => ∀ f', pw_W q (n, f') S' → Q (some (.int r)) (n, f')) → np_G X 217 [(0, .ref (pw_pl 61 v0)), (1, .int v1), (2, .int v2), (3, .int v3), (4, .int v4), (7, .int v7), (8, .int v8), (9, .int v9), (10, .int v10), (12, .int v12)] [] (n, f) ce sl := by
  intro N
  induction N with
  | zero =>
    intro S v0 v1 v2 v3 v4 v7 v8 v9 v10 v12 f ce sl hv0 hc hs hW h
    exact (pw_pn h).elim
  | succ N ih =>
    intro S v0 v1 v2 v3 v4 v7 v8 v9 v10 v12 f ce sl hv0 hc hs hW h
    unfold m_L_isLine_217 at h
    refine np_soundW (so_L_isLine hX hR) [31, 113, 217] 400 217 _ _ _ _ _ ?_
    conv => whnf
    refine pw_br h (fun _ h => ?_) (fun _ h => ?_)
    · conv => whnf
      refine pw_br h (fun _ h => ?_) (fun _ h => ?_)
      · conv => whnf
        exact ⟨(by omega), (by omega), ⟨_, rfl, by decide⟩, _, fun _ _ h9 => h9, pw_ps h _ hW⟩
      · conv => whnf
        refine pw_br h (fun _ h => ?_) (fun _ h => ?_)
        · conv => whnf
          refine np_rd_i (hW.g hv0) ?_
          conv => whnf
          refine np_chk_i (pw_and rfl (pw_and rfl (pw_and rfl (pw_and rfl ((pw_and (pw_le (by omega)) (pw_le (by omega)))))))) ?_
          conv => whnf
          refine ⟨q, S, v0, v1, rfl, hv0, hW, pw_bd h (fun S1 r4 h f2 hW3 => ?_)⟩
          rcases r4 with r6 | e7
          · replace h := pw_ei h
            conv => whnf
            refine pw_br h (fun _ h => ?_) (fun _ h => ?_)
            · conv => whnf
              exact ⟨(by omega), (by omega), ⟨_, rfl, by decide⟩, _, fun _ _ h9 => h9, pw_ps h _ hW3⟩
            · conv => whnf
              exact ⟨(by omega), (by omega), ⟨_, rfl, by decide⟩, _, fun _ _ h9 => h9, pw_ps h _ hW3⟩
          · exact (pw_pn h).elim
        · conv => whnf
          exact ⟨(by omega), (by omega), ⟨_, rfl, by decide⟩, _, fun _ _ h9 => h9, pw_ps h _ hW⟩
    · conv => whnf
      refine pw_br h (fun _ h => ?_) (fun _ h => ?_)
      · conv => whnf
        refine pw_br h (fun _ h => ?_) (fun _ h => ?_)
        · conv => whnf
          exact ⟨(by omega), (by omega), ⟨_, rfl, by decide⟩, _, fun _ _ h9 => h9, pw_ps h _ hW⟩
        · conv => whnf
          refine pw_br h (fun _ h => ?_) (fun _ h => ?_)
          · conv => whnf
            refine np_rd_i (hW.g hv0) ?_
            conv => whnf
            refine np_chk_i (pw_and rfl (pw_and rfl (pw_and rfl (pw_and rfl ((pw_and (pw_le (by omega)) (pw_le (by omega)))))))) ?_
            conv => whnf
            refine ⟨q, S, v0, v1, rfl, hv0, hW, pw_bd h (fun S8 r11 h f9 hW10 => ?_)⟩
            rcases r11 with r13 | e14
            · replace h := pw_ei h
              conv => whnf
              refine pw_br h (fun _ h => ?_) (fun _ h => ?_)
              · conv => whnf
                exact ⟨(by omega), (by omega), ⟨_, rfl, by decide⟩, _, fun _ _ h9 => h9, pw_ps h _ hW10⟩
              · conv => whnf
                exact ⟨(by omega), (by omega), ⟨_, rfl, by decide⟩, _, fun _ _ h9 => h9, pw_ps h _ hW10⟩
            · exact (pw_pn h).elim
          · conv => whnf
            exact ⟨(by omega), (by omega), ⟨_, rfl, by decide⟩, _, fun _ _ h9 => h9, pw_ps h _ hW⟩
      · conv => whnf
        refine np_rd_i (hW.g hv0) ?_
        conv => whnf
        refine np_chk_i (pw_and rfl (pw_and rfl (pw_and rfl (pw_and rfl ((pw_and (pw_le (by omega)) (pw_le (by omega)))))))) ?_
        conv => whnf
        refine ⟨q, S, v0, (1 - v2), (v10 + v12), rfl, hv0, hW, pw_bd h (fun S15 r18 h f16 hW17 => ?_)⟩
        rcases r18 with r20 | e21
        · replace h := pw_ei h
          conv => whnf
          refine np_rd_i (hW17.g hv0) ?_
          conv => whnf
          refine np_chk_i (pw_and rfl (pw_and rfl (pw_and rfl (pw_and rfl ((pw_and (pw_le (by omega)) (pw_le (by omega)))))))) ?_
          conv => whnf
          refine ⟨q, S15, v0, v2, (v3 + v12), rfl, hv0, hW17, pw_bd h (fun S22 r25 h f23 hW24 => ?_)⟩
          rcases r25 with r27 | e28
          · replace h := pw_ei h
            conv => whnf
            refine pw_br h (fun _ h => ?_) (fun _ h => ?_)
            · conv => whnf
              refine pw_st h (fun z29 h => ?_)
              conv => whnf
              refine pw_st h (fun z30 h => ?_)
              conv => whnf
              exact np_gl (ih S22 v0 v1 v2 v3 v4 v7 v8 z29 v10 z30 f23 _ _ hv0 (by omega) (by omega) hW24 h) ⟨rfl, rfl, rfl, rfl, rfl, rfl, rfl, rfl, rfl, rfl, trivial⟩
            · conv => whnf
              refine pw_st h (fun z31 h => ?_)
              conv => whnf
              refine pw_st h (fun z32 h => ?_)
              conv => whnf
              exact np_gl (ih S22 v0 v1 v2 v3 v4 v7 v8 z31 v10 z32 f23 _ _ hv0 (by omega) (by omega) hW24 h) ⟨rfl, rfl, rfl, rfl, rfl, rfl, rfl, rfl, rfl, rfl, trivial⟩
          · exact (pw_pn h).elim
        · exact (pw_pn h).elim
noncomputable def m_L_isLine_31 (k113 : pw_S → Nat → Int32 → Int32 → Int32 → Int32 → Nat → Nat → Int32 → Int32 → Int32 → pw_R Int32) : Nat → pw_S → Nat → Int32 → Int32 → Int32 → Int32 → Nat → Nat → Int32 → Int32 → Int32 → Int32 → Int32 → pw_R Int32
| 0, _, _, _, _, _, _, _, _, _, _, _, _, _ => none
| N + 1, S, v0, v1, v2, v3, v4, va5, vi5, v6, v7, v8, v9, v10 =>
 if 24 ≤ v10 then
 (k113 S v0 v1 v2 v3 v4 va5 vi5 v7 v8 v9)
 else
 (if v9 = 0 then
 (k113 S v0 v1 v2 v3 v4 va5 vi5 v7 v8 v9)
 else
 (pw_b (m_X11_get S v0 (v10 / 3) (v10 - v10 / 3 * 3)) fun S33 r36 =>
 pw_e r36 (fun r38 =>
 (pw_b (m_X11_cell S33 v0 v2 v6 (v10 / 3) (v10 - v10 / 3 * 3)) fun S40 r43 =>
 pw_e r43 (fun r45 =>
 (if r38 = r45 then
 (pw_l (1 : Int32) fun z47 =>
 pw_b (m_X11_get S40 v0 (v10 / 3) (v10 - v10 / 3 * 3)) fun S48 r51 =>
 pw_e r51 (fun r53 =>
 (if r53 = (-2147483648) then
 (pw_l ((v7 + 0) : Int32) fun z55 =>
 pw_l (v10 + 1 : Int32) fun z56 =>
 m_L_isLine_31 k113 N S48 v0 v1 v2 v3 v4 va5 vi5 v6 z55 v8 z47 z56)
 else
 (pw_l ((v7 + 1) : Int32) fun z57 =>
 pw_l (v10 + 1 : Int32) fun z58 =>
 m_L_isLine_31 k113 N S48 v0 v1 v2 v3 v4 va5 vi5 v6 z57 v8 z47 z58))) (fun _ => none))
 else
 (pw_l (0 : Int32) fun z59 =>
 pw_b (m_X11_get S40 v0 (v10 / 3) (v10 - v10 / 3 * 3)) fun S60 r63 =>
 pw_e r63 (fun r65 =>
 (if r65 = (-2147483648) then
 (pw_l ((v7 + 0) : Int32) fun z67 =>
 pw_l (v10 + 1 : Int32) fun z68 =>
 m_L_isLine_31 k113 N S60 v0 v1 v2 v3 v4 va5 vi5 v6 z67 v8 z59 z68)
 else
 (pw_l ((v7 + 1) : Int32) fun z69 =>
 pw_l (v10 + 1 : Int32) fun z70 =>
 m_L_isLine_31 k113 N S60 v0 v1 v2 v3 v4 va5 vi5 v6 z69 v8 z59 z70))) (fun _ => none)))) (fun _ => none))) (fun _ => none)))
set_option maxRecDepth 100000 in
set_option maxHeartbeats 8000000 in
theorem L_L_isLine_31 {X : np_Ctx} (hX : np_ok RL cL_isLine 13 10 272 501 3006 .ireturn X) {Q : Option Value → np_W → Prop} {q : Nat} {n dc ds : Nat} (hR : ∀ st w ce sl, np_rt (some .boolean) 501 3006 Q st w ce sl → X.2.2.1 st w ce sl) {k113 : pw_S → Nat → Int32 → Int32 → Int32 → Int32 → Nat → Nat → Int32 → Int32 → Int32 → pw_R Int32} (hk113 : ∀ (S : pw_S) (v0 : Nat) (v1 : Int32) (v2 : Int32) (v3 : Int32) (v4 : Int32) (va5 : Nat) (vi5 : Nat) (v7 : Int32) (v8 : Int32) (v9 : Int32) (f : Nat → Option np_E) (ce sl : Nat) (hv0 : pw_ok q 61 v0 = true) (ha5 : pw_arr va5 = true) (hi5 : pw_ok q va5 vi5 = true), ce + dc ≤ 501 → sl + ds ≤ 3006 → pw_W q (n, f) S → pw_p (k113 S v0 v1 v2 v3 v4 va5 vi5 v7 v8 v9) (fun S' r => ∀ f', pw_W q (n, f') S' → Q (some (.int r)) (n, f')) → np_G X 113 [(0, .ref (pw_pl 61 v0)), (1, .int v1), (2, .int v2), (3, .int v3), (4, .int v4), (5, .ref (pw_pl va5 vi5)), (7, .int v7), (8, .int v8), (9, .int v9)] [] (n, f) ce sl) : ∀ (N : Nat) (S : pw_S) (v0 : Nat) (v1 : Int32) (v2 : Int32) (v3 : Int32) (v4 : Int32) (va5 : Nat) (vi5 : Nat) (v6 : Int32) (v7 : Int32) (v8 : Int32) (v9 : Int32) (v10 : Int32) (f : Nat → Option np_E) (ce sl : Nat) (hv0 : pw_ok q 61 v0 = true) (ha5 : pw_arr va5 = true) (hi5 : pw_ok q va5 vi5 = true), ce + N * 3 + dc ≤ 501 → sl + N * 18 + ds ≤ 3006 → pw_W q (n, f) S → pw_p (m_L_isLine_31 k113 N S v0 v1 v2 v3 v4 va5 vi5 v6 v7 v8 v9 v10) (fun S' r => ∀ f', pw_W q (n, f') S' → Q (some (.int r)) (n, f')) → np_G X 31 [(0, .ref (pw_pl 61 v0)), (1, .int v1), (2, .int v2), (3, .int v3), (4, .int v4), (5, .ref (pw_pl va5 vi5)), (6, .int v6), (7, .int v7), (8, .int v8), (9, .int v9), (10, .int v10)] [] (n, f) ce sl := by
  intro N
  induction N with
  | zero =>
    intro S v0 v1 v2 v3 v4 va5 vi5 v6 v7 v8 v9 v10 f ce sl hv0 ha5 hi5 hc hs hW h
    exact (pw_pn h).elim
  | succ N ih =>
    intro S v0 v1 v2 v3 v4 va5 vi5 v6 v7 v8 v9 v10 f ce sl hv0 ha5 hi5 hc hs hW h
    unfold m_L_isLine_31 at h
    refine np_soundW (so_L_isLine hX hR) [31, 113, 217] 400 31 _ _ _ _ _ ?_
    conv => whnf
    refine pw_br h (fun _ h => ?_) (fun _ h => ?_)
    · conv => whnf
      exact np_gl (hk113 S v0 v1 v2 v3 v4 va5 vi5 v7 v8 v9 f _ _ hv0 ha5 hi5 (by omega) (by omega) hW h) ⟨rfl, rfl, rfl, rfl, rfl, rfl, rfl, rfl, rfl, trivial⟩
    · conv => whnf
      refine pw_br h (fun _ h => ?_) (fun _ h => ?_)
      · conv => whnf
        exact np_gl (hk113 S v0 v1 v2 v3 v4 va5 vi5 v7 v8 v9 f _ _ hv0 ha5 hi5 (by omega) (by omega) hW h) ⟨rfl, rfl, rfl, rfl, rfl, rfl, rfl, rfl, rfl, trivial⟩
      · conv => whnf
        refine np_rd_i (hW.g hv0) ?_
        conv => whnf
        refine np_chk_i (pw_and rfl (pw_and rfl (pw_and rfl (pw_and rfl ((pw_and (pw_le (by omega)) (pw_le (by omega)))))))) ?_
        conv => whnf
        refine ⟨q, S, v0, (v10 / 3), (v10 - v10 / 3 * 3), rfl, hv0, hW, pw_bd h (fun S33 r36 h f34 hW35 => ?_)⟩
        rcases r36 with r38 | e39
        · replace h := pw_ei h
          conv => whnf
          refine np_rd_i (hW35.g hv0) ?_
          conv => whnf
          refine np_chk_i (pw_and rfl (pw_and rfl (pw_and rfl (pw_and rfl ((pw_and (pw_le (by omega)) (pw_le (by omega)))))))) ?_
          conv => whnf
          refine ⟨q, S33, v0, v2, v6, (v10 / 3), (v10 - v10 / 3 * 3), rfl, hv0, hW35, pw_bd h (fun S40 r43 h f41 hW42 => ?_)⟩
          rcases r43 with r45 | e46
          · replace h := pw_ei h
            conv => whnf
            refine pw_br h (fun _ h => ?_) (fun _ h => ?_)
            · conv => whnf
              refine pw_st h (fun z47 h => ?_)
              conv => whnf
              refine np_rd_i (hW42.g hv0) ?_
              conv => whnf
              refine np_chk_i (pw_and rfl (pw_and rfl (pw_and rfl (pw_and rfl ((pw_and (pw_le (by omega)) (pw_le (by omega)))))))) ?_
              conv => whnf
              refine ⟨q, S40, v0, (v10 / 3), (v10 - v10 / 3 * 3), rfl, hv0, hW42, pw_bd h (fun S48 r51 h f49 hW50 => ?_)⟩
              rcases r51 with r53 | e54
              · replace h := pw_ei h
                conv => whnf
                refine pw_br h (fun _ h => ?_) (fun _ h => ?_)
                · conv => whnf
                  refine pw_st h (fun z55 h => ?_)
                  conv => whnf
                  refine pw_st h (fun z56 h => ?_)
                  conv => whnf
                  exact np_gl (ih S48 v0 v1 v2 v3 v4 va5 vi5 v6 z55 v8 z47 z56 f49 _ _ hv0 ha5 hi5 (by omega) (by omega) hW50 h) ⟨rfl, rfl, rfl, rfl, rfl, rfl, rfl, rfl, rfl, rfl, rfl, trivial⟩
                · conv => whnf
                  refine pw_st h (fun z57 h => ?_)
                  conv => whnf
                  refine pw_st h (fun z58 h => ?_)
                  conv => whnf
                  exact np_gl (ih S48 v0 v1 v2 v3 v4 va5 vi5 v6 z57 v8 z47 z58 f49 _ _ hv0 ha5 hi5 (by omega) (by omega) hW50 h) ⟨rfl, rfl, rfl, rfl, rfl, rfl, rfl, rfl, rfl, rfl, rfl, trivial⟩
              · exact (pw_pn h).elim
            · conv => whnf
              refine pw_st h (fun z59 h => ?_)
              conv => whnf
              refine np_rd_i (hW42.g hv0) ?_
              conv => whnf
              refine np_chk_i (pw_and rfl (pw_and rfl (pw_and rfl (pw_and rfl ((pw_and (pw_le (by omega)) (pw_le (by omega)))))))) ?_
              conv => whnf
              refine ⟨q, S40, v0, (v10 / 3), (v10 - v10 / 3 * 3), rfl, hv0, hW42, pw_bd h (fun S60 r63 h f61 hW62 => ?_)⟩
              rcases r63 with r65 | e66
              · replace h := pw_ei h
                conv => whnf
                refine pw_br h (fun _ h => ?_) (fun _ h => ?_)
                · conv => whnf
                  refine pw_st h (fun z67 h => ?_)
                  conv => whnf
                  refine pw_st h (fun z68 h => ?_)
                  conv => whnf
                  exact np_gl (ih S60 v0 v1 v2 v3 v4 va5 vi5 v6 z67 v8 z59 z68 f61 _ _ hv0 ha5 hi5 (by omega) (by omega) hW62 h) ⟨rfl, rfl, rfl, rfl, rfl, rfl, rfl, rfl, rfl, rfl, rfl, trivial⟩
                · conv => whnf
                  refine pw_st h (fun z69 h => ?_)
                  conv => whnf
                  refine pw_st h (fun z70 h => ?_)
                  conv => whnf
                  exact np_gl (ih S60 v0 v1 v2 v3 v4 va5 vi5 v6 z69 v8 z59 z70 f61 _ _ hv0 ha5 hi5 (by omega) (by omega) hW62 h) ⟨rfl, rfl, rfl, rfl, rfl, rfl, rfl, rfl, rfl, rfl, rfl, trivial⟩
              · exact (pw_pn h).elim
          · exact (pw_pn h).elim
        · exact (pw_pn h).elim
noncomputable def m_L_isLine_j113  (S : pw_S) (v0 : Nat) (v1 : Int32) (v2 : Int32) (v3 : Int32) (v4 : Int32) (va5 : Nat) (vi5 : Nat) (v7 : Int32) (v8 : Int32) (v9 : Int32) : pw_R Int32 :=
 pw_b (m_L_units S v0 (1 - v2)) fun S71 r74 =>
 pw_l (r74 : Int32) fun z76 =>
 pw_b (m_L_asks S71 v0 0 v1 (1 - v2) 0) fun S77 r80 =>
 pw_l (r80 : Int32) fun z82 =>
 if 0 ≤ z82 then
 (if v9 = 0 then
 (pw_l (0 : Int32) fun z83 =>
 pw_l (0 : Int32) fun z84 =>
 m_L_isLine_217 (pw_F 61) S77 v0 v1 v2 v3 v4 v7 v8 z83 z76 z84)
 else
 (if z82 = (((z76 + v4) - v3) + 1) then
 (pw_l (1 : Int32) fun z85 =>
 pw_l (0 : Int32) fun z86 =>
 m_L_isLine_217 (pw_F 61) S77 v0 v1 v2 v3 v4 v7 v8 z85 z76 z86)
 else
 (pw_l (0 : Int32) fun z87 =>
 pw_l (0 : Int32) fun z88 =>
 m_L_isLine_217 (pw_F 61) S77 v0 v1 v2 v3 v4 v7 v8 z87 z76 z88)))
 else
 (if v9 = 0 then
 (some (S77, 0))
 else
 (if v8 = v7 then
 (pw_c (np_inb (8 + (6 * (1 - v2))) (pw_len va5)) <|
 if (S77 va5 vi5 ((8 + (6 * (1 - v2))) : Int32).toNatClampNeg) = 1 then
 (some (S77, 1))
 else
 (if (((z76 + v4) - v3) + 1) ≤ 300 then
 (some (S77, 0))
 else
 (some (S77, 1))))
 else
 (some (S77, 0))))
set_option maxRecDepth 100000 in
set_option maxHeartbeats 8000000 in
theorem J_L_isLine_113 {X : np_Ctx} (hX : np_ok RL cL_isLine 13 10 272 501 3006 .ireturn X) {Q : Option Value → np_W → Prop} {q : Nat} {n dc ds : Nat} (hR : ∀ st w ce sl, np_rt (some .boolean) 501 3006 Q st w ce sl → X.2.2.1 st w ce sl) (S : pw_S) (v0 : Nat) (v1 : Int32) (v2 : Int32) (v3 : Int32) (v4 : Int32) (va5 : Nat) (vi5 : Nat) (v7 : Int32) (v8 : Int32) (v9 : Int32) (f : Nat → Option np_E) (ce sl : Nat) (hv0 : pw_ok q 61 v0 = true) (ha5 : pw_arr va5 = true) (hi5 : pw_ok q va5 vi5 = true) (hc : ce + 425 + dc ≤ 501) (hs : sl + 2550 + ds ≤ 3006) (hW : pw_W q (n, f) S) (h : pw_p (m_L_isLine_j113 S v0 v1 v2 v3 v4 va5 vi5 v7 v8 v9) (fun S' r => ∀ f', pw_W q (n, f') S' → Q (some (.int r)) (n, f'))) : np_G X 113 [(0, .ref (pw_pl 61 v0)), (1, .int v1), (2, .int v2), (3, .int v3), (4, .int v4), (5, .ref (pw_pl va5 vi5)), (7, .int v7), (8, .int v8), (9, .int v9)] [] (n, f) ce sl := by
  unfold m_L_isLine_j113 at h
  refine np_soundW (so_L_isLine hX hR) [31, 113, 217] 400 113 _ _ _ _ _ ?_
  conv => whnf
  refine np_chk_i (pw_and rfl (pw_and rfl (pw_and rfl ((pw_and (pw_le (by omega)) (pw_le (by omega))))))) ?_
  conv => whnf
  refine ⟨q, S, v0, (1 - v2), rfl, hv0, hW, pw_bd h (fun S71 r74 h f72 hW73 => ?_)⟩
  conv => whnf
  refine pw_st h (fun z76 h => ?_)
  conv => whnf
  refine np_chk_i (pw_and rfl (pw_and rfl (pw_and rfl ((pw_and (pw_le (by omega)) (pw_le (by omega))))))) ?_
  conv => whnf
  refine ⟨q, S71, v0, 0, v1, (1 - v2), 0, rfl, hv0, hW73, pw_bd h (fun S77 r80 h f78 hW79 => ?_)⟩
  conv => whnf
  refine pw_st h (fun z82 h => ?_)
  conv => whnf
  refine pw_br h (fun _ h => ?_) (fun _ h => ?_)
  · conv => whnf
    refine pw_br h (fun _ h => ?_) (fun _ h => ?_)
    · conv => whnf
      refine pw_st h (fun z83 h => ?_)
      conv => whnf
      refine pw_st h (fun z84 h => ?_)
      conv => whnf
      refine np_gl (L_L_isLine_217 (dc := dc + 0) (ds := ds + 0) hX hR (pw_F 61) S77 v0 v1 v2 v3 v4 v7 v8 z83 z76 z84 f78 _ _ hv0 (by rw [pw_F_eq]; omega) (by rw [pw_F_eq]; omega) hW79 h) ⟨rfl, rfl, rfl, rfl, rfl, rfl, rfl, rfl, rfl, rfl, trivial⟩
    · conv => whnf
      refine pw_br h (fun _ h => ?_) (fun _ h => ?_)
      · conv => whnf
        refine pw_st h (fun z85 h => ?_)
        conv => whnf
        refine pw_st h (fun z86 h => ?_)
        conv => whnf
        refine np_gl (L_L_isLine_217 (dc := dc + 0) (ds := ds + 0) hX hR (pw_F 61) S77 v0 v1 v2 v3 v4 v7 v8 z85 z76 z86 f78 _ _ hv0 (by rw [pw_F_eq]; omega) (by rw [pw_F_eq]; omega) hW79 h) ⟨rfl, rfl, rfl, rfl, rfl, rfl, rfl, rfl, rfl, rfl, trivial⟩
      · conv => whnf
        refine pw_st h (fun z87 h => ?_)
        conv => whnf
        refine pw_st h (fun z88 h => ?_)
        conv => whnf
        refine np_gl (L_L_isLine_217 (dc := dc + 0) (ds := ds + 0) hX hR (pw_F 61) S77 v0 v1 v2 v3 v4 v7 v8 z87 z76 z88 f78 _ _ hv0 (by rw [pw_F_eq]; omega) (by rw [pw_F_eq]; omega) hW79 h) ⟨rfl, rfl, rfl, rfl, rfl, rfl, rfl, rfl, rfl, rfl, trivial⟩
  · conv => whnf
    refine pw_br h (fun _ h => ?_) (fun _ h => ?_)
    · conv => whnf
      exact ⟨(by omega), (by omega), ⟨_, rfl, by decide⟩, _, fun _ _ h9 => h9, pw_ps h _ hW79⟩
    · conv => whnf
      refine pw_br h (fun _ h => ?_) (fun _ h => ?_)
      · conv => whnf
        refine np_rd_i (hW79.ga ha5 hi5) ?_
        conv => whnf
        refine pw_ck h (fun _ h => ?_)
        conv => whnf
        refine pw_br h (fun _ h => ?_) (fun _ h => ?_)
        · conv => whnf
          exact ⟨(by omega), (by omega), ⟨_, rfl, by decide⟩, _, fun _ _ h9 => h9, pw_ps h _ hW79⟩
        · conv => whnf
          refine pw_br h (fun _ h => ?_) (fun _ h => ?_)
          · conv => whnf
            exact ⟨(by omega), (by omega), ⟨_, rfl, by decide⟩, _, fun _ _ h9 => h9, pw_ps h _ hW79⟩
          · conv => whnf
            exact ⟨(by omega), (by omega), ⟨_, rfl, by decide⟩, _, fun _ _ h9 => h9, pw_ps h _ hW79⟩
      · conv => whnf
        exact ⟨(by omega), (by omega), ⟨_, rfl, by decide⟩, _, fun _ _ h9 => h9, pw_ps h _ hW79⟩
noncomputable def m_L_isLine (S : pw_S) (i0 : Nat) (x1 : Int32) (x2 : Int32) (x3 : Int32) (x4 : Int32) (a5 : Nat) (i5 : Nat) : pw_R Int32 :=
 pw_c (np_inb (5 + (6 * x2)) (pw_len a5)) <|
 pw_l (((S a5 i5 ((5 + (6 * x2)) : Int32).toNatClampNeg) - 1) : Int32) fun z89 =>
 pw_l (0 : Int32) fun z90 =>
 pw_b (m_X11_take S i0 x2 z89) fun S91 r94 =>
 pw_e r94 (fun r96 =>
 (pw_l (r96 : Int32) fun z98 =>
 pw_l (1 : Int32) fun z99 =>
 pw_l (0 : Int32) fun z100 =>
 m_L_isLine_31
 (fun S114 u101 u103 u104 u105 u106 u107 u108 u111 u112 u113 =>
 (pw_b (m_L_units S114 u101 (1 - u104)) fun S117 r120 =>
 pw_l (r120 : Int32) fun z122 =>
 pw_b (m_L_asks S117 u101 0 u103 (1 - u104) 0) fun S123 r126 =>
 pw_l (r126 : Int32) fun z128 =>
 if 0 ≤ z128 then
 (if u113 = 0 then
 (pw_l (0 : Int32) fun z129 =>
 pw_l (0 : Int32) fun z130 =>
 m_L_isLine_217 (pw_F 61) S123 u101 u103 u104 u105 u106 u111 u112 z129 z122 z130)
 else
 (if z128 = (((z122 + u106) - u105) + 1) then
 (pw_l (1 : Int32) fun z131 =>
 pw_l (0 : Int32) fun z132 =>
 m_L_isLine_217 (pw_F 61) S123 u101 u103 u104 u105 u106 u111 u112 z131 z122 z132)
 else
 (pw_l (0 : Int32) fun z133 =>
 pw_l (0 : Int32) fun z134 =>
 m_L_isLine_217 (pw_F 61) S123 u101 u103 u104 u105 u106 u111 u112 z133 z122 z134)))
 else
 (if u113 = 0 then
 (some (S123, 0))
 else
 (if u112 = u111 then
 (pw_c (np_inb (8 + (6 * (1 - u104))) (pw_len u107)) <|
 if (S123 u107 u108 ((8 + (6 * (1 - u104))) : Int32).toNatClampNeg) = 1 then
 (some (S123, 1))
 else
 (if (((z122 + u106) - u105) + 1) ≤ 300 then
 (some (S123, 0))
 else
 (some (S123, 1))))
 else
 (some (S123, 0)))))) (pw_F 25) S91 i0 x1 x2 x3 x4 a5 i5 z89 z90 z98 z99 z100)) (fun _ => none)
def sp_L_isLine : np_Sp := fun vs w Q => ∃ (q : Nat) (S : pw_S) (i0 : Nat) (x1 : Int32) (x2 : Int32) (x3 : Int32) (x4 : Int32) (a5 : Nat) (i5 : Nat), vs = [.ref (pw_pl 61 i0), .int x1, .int x2, .int x3, .int x4, .ref (pw_pl a5 i5)] ∧ pw_ok q 61 i0 = true ∧ pw_arr a5 = true ∧ pw_ok q a5 i5 = true ∧ pw_W q w S ∧ pw_p (m_L_isLine S i0 x1 x2 x3 x4 a5 i5) (fun S' r => ∀ f', pw_W q (w.1, f') S' → Q (some (.int r)) (w.1, f'))
set_option maxRecDepth 100000 in
set_option maxHeartbeats 8000000 in
theorem C_L_isLine : np_C yL_isLine cL_isLine 13 (some .boolean) 10 272 501 3006 (sp_L_isLine) := by
  refine np_of (by decide) ?_
  intro X vs w Q hsp hX hmn hRt hlt
  obtain ⟨q, S, i0, x1, x2, x3, x4, a5, i5, rfl, hi0, ha5, hi5, hW, h⟩ := hsp
  obtain ⟨n, f⟩ := w
  unfold m_L_isLine at h
  have hR : ∀ st w ce sl, np_rt (some .boolean) 501 3006 Q st w ce sl → X.2.2.1 st w ce sl := fun _ _ _ _ h => by rw [hRt]; exact h
  refine np_soundW (so_L_isLine hX hR) [31, 113, 217] 400 0 _ _ _ _ _ ?_
  conv => whnf
  refine np_rd_i (hW.ga ha5 hi5) ?_
  conv => whnf
  refine pw_ck h (fun _ h => ?_)
  conv => whnf
  refine pw_st h (fun z89 h => ?_)
  conv => whnf
  refine pw_st h (fun z90 h => ?_)
  conv => whnf
  refine np_rd_i (hW.g hi0) ?_
  conv => whnf
  refine ⟨q, S, i0, x2, z89, rfl, hi0, hW, pw_bd h (fun S91 r94 h f92 hW93 => ?_)⟩
  rcases r94 with r96 | e97
  · replace h := pw_ei h
    conv => whnf
    refine pw_st h (fun z98 h => ?_)
    conv => whnf
    refine pw_st h (fun z99 h => ?_)
    conv => whnf
    refine pw_st h (fun z100 h => ?_)
    conv => whnf
    refine np_gl (L_L_isLine_31 (dc := 425) (ds := 2550) hX hR (fun S114 u101 u103 u104 u105 u106 u107 u108 u111 u112 u113 f115 ce135 sl136 ho102 ho109 ho110 hc137 hs138 hW116 h => ?_) (pw_F 25) S91 i0 x1 x2 x3 x4 a5 i5 z89 z90 z98 z99 z100 f92 _ _ hi0 ha5 hi5 (by rw [pw_F_eq]; omega) (by rw [pw_F_eq]; omega) hW93 h) ⟨rfl, rfl, rfl, rfl, rfl, rfl, rfl, rfl, rfl, rfl, rfl, trivial⟩
    · refine np_soundW (so_L_isLine hX hR) [31, 113, 217] 400 113 _ _ _ _ _ ?_
      conv => whnf
      refine np_chk_i (pw_and rfl (pw_and rfl (pw_and rfl ((pw_and (pw_le (by omega)) (pw_le (by omega))))))) ?_
      conv => whnf
      refine ⟨q, S114, u101, (1 - u104), rfl, ho102, hW116, pw_bd h (fun S117 r120 h f118 hW119 => ?_)⟩
      conv => whnf
      refine pw_st h (fun z122 h => ?_)
      conv => whnf
      refine np_chk_i (pw_and rfl (pw_and rfl (pw_and rfl ((pw_and (pw_le (by omega)) (pw_le (by omega))))))) ?_
      conv => whnf
      refine ⟨q, S117, u101, 0, u103, (1 - u104), 0, rfl, ho102, hW119, pw_bd h (fun S123 r126 h f124 hW125 => ?_)⟩
      conv => whnf
      refine pw_st h (fun z128 h => ?_)
      conv => whnf
      refine pw_br h (fun _ h => ?_) (fun _ h => ?_)
      · conv => whnf
        refine pw_br h (fun _ h => ?_) (fun _ h => ?_)
        · conv => whnf
          refine pw_st h (fun z129 h => ?_)
          conv => whnf
          refine pw_st h (fun z130 h => ?_)
          conv => whnf
          refine np_gl (L_L_isLine_217 (dc := 0) (ds := 0) hX hR (pw_F 61) S123 u101 u103 u104 u105 u106 u111 u112 z129 z122 z130 f124 _ _ ho102 (by rw [pw_F_eq]; omega) (by rw [pw_F_eq]; omega) hW125 h) ⟨rfl, rfl, rfl, rfl, rfl, rfl, rfl, rfl, rfl, rfl, trivial⟩
        · conv => whnf
          refine pw_br h (fun _ h => ?_) (fun _ h => ?_)
          · conv => whnf
            refine pw_st h (fun z131 h => ?_)
            conv => whnf
            refine pw_st h (fun z132 h => ?_)
            conv => whnf
            refine np_gl (L_L_isLine_217 (dc := 0) (ds := 0) hX hR (pw_F 61) S123 u101 u103 u104 u105 u106 u111 u112 z131 z122 z132 f124 _ _ ho102 (by rw [pw_F_eq]; omega) (by rw [pw_F_eq]; omega) hW125 h) ⟨rfl, rfl, rfl, rfl, rfl, rfl, rfl, rfl, rfl, rfl, trivial⟩
          · conv => whnf
            refine pw_st h (fun z133 h => ?_)
            conv => whnf
            refine pw_st h (fun z134 h => ?_)
            conv => whnf
            refine np_gl (L_L_isLine_217 (dc := 0) (ds := 0) hX hR (pw_F 61) S123 u101 u103 u104 u105 u106 u111 u112 z133 z122 z134 f124 _ _ ho102 (by rw [pw_F_eq]; omega) (by rw [pw_F_eq]; omega) hW125 h) ⟨rfl, rfl, rfl, rfl, rfl, rfl, rfl, rfl, rfl, rfl, trivial⟩
      · conv => whnf
        refine pw_br h (fun _ h => ?_) (fun _ h => ?_)
        · conv => whnf
          exact ⟨(by omega), (by omega), ⟨_, rfl, by decide⟩, _, fun _ _ h9 => h9, pw_ps h _ hW125⟩
        · conv => whnf
          refine pw_br h (fun _ h => ?_) (fun _ h => ?_)
          · conv => whnf
            refine np_rd_i (hW125.ga ho109 ho110) ?_
            conv => whnf
            refine pw_ck h (fun _ h => ?_)
            conv => whnf
            refine pw_br h (fun _ h => ?_) (fun _ h => ?_)
            · conv => whnf
              exact ⟨(by omega), (by omega), ⟨_, rfl, by decide⟩, _, fun _ _ h9 => h9, pw_ps h _ hW125⟩
            · conv => whnf
              refine pw_br h (fun _ h => ?_) (fun _ h => ?_)
              · conv => whnf
                exact ⟨(by omega), (by omega), ⟨_, rfl, by decide⟩, _, fun _ _ h9 => h9, pw_ps h _ hW125⟩
              · conv => whnf
                exact ⟨(by omega), (by omega), ⟨_, rfl, by decide⟩, _, fun _ _ h9 => h9, pw_ps h _ hW125⟩
          · conv => whnf
            exact ⟨(by omega), (by omega), ⟨_, rfl, by decide⟩, _, fun _ _ h9 => h9, pw_ps h _ hW125⟩
  · exact (pw_pn h).elim
