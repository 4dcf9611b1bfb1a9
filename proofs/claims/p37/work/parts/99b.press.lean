/-! The law's press: its loop. -/
theorem gw88 : (Jvm.Cond.methodLink "NotationPressLaw" (174 : Nat) ({ cls := "NotationPress", name := "<init>", desc := "()V" } : Jvm.MethodName)) ∈ np_gw := np_gwi 88 (by decide +kernel) rfl
theorem gw89 : (Jvm.Cond.instanceMethod ({ cls := "NotationPress", name := "<init>", desc := "()V" } : Jvm.MethodName)) ∈ np_gw := np_gwi 89 (by decide +kernel) rfl
theorem gw90 : (Jvm.Cond.code ({ cls := "NotationPress", name := "<init>", desc := "()V" } : Jvm.MethodName) prog_1_method_1_code (2 : Nat) (Option.none : Option Jvm.ClassFile.FieldType)) ∈ np_gw := np_gwi 90 (by decide +kernel) rfl
def is_L_press (Rt : np_Rt) (Ls : Nat) (xs : Nat → Int32) : List (Nat × np_Op) := [(0, nq_new 11 14 [.null, .null, .int 0, .null, .null, .null, .null, .null, .null, .null, .int 0, .null, .null, .int 0] 188083 1145773), (3, nq_dup), (4, nq_callI 1 sp_X11_init 2 1495 26209 188083 1145773), (7, np_ast 1 2), (8, np_push 2 (.int 18)), (10, nq_newa .int 18 (18, .inl fun _ => 0) 188083 1145773), (12, np_ast 1 3), (13, np_push 2 (.int 6)), (15, nq_newa .int 6 (6, .inl fun _ => 0) 188083 1145773), (17, np_ast 2 4), (19, np_push 2 (.int 24)), (21, nq_newa .int 24 (24, .inl fun _ => 0) 188083 1145773), (23, np_ast 2 5), (25, np_push 2 (.int 8)), (27, nq_newa .int 8 (8, .inl fun _ => 0) 188083 1145773), (29, np_ast 2 6), (31, np_push 1 (.int 0)), (32, nw_ist 2 7), (34, np_ild 2 7), (36, np_push 2 (.int 54)), (38, nq_ic (fun x y => y ≤ x) 749), (41, np_ald 1 0), (42, np_ild 1 1), (43, np_push 1 (.int 3)), (44, np_ild 2 7), (46, np_ib (fun x y => x * y)), (47, np_ib (fun x y => x + y)), (48, np_push 1 (.int 1)), (49, np_ib (fun x y => x + y)), (50, np_push 2 (.int 1073741824)), (52, nq_call 3 (sp_L_draw Ls xs) 4 0 0 188083 1145773), (55, nw_ist 2 8), (57, np_ald 1 0), (58, np_ild 1 1), (59, np_push 1 (.int 3)), (60, np_ild 2 7), (62, np_ib (fun x y => x * y)), (63, np_ib (fun x y => x + y)), (64, np_push 1 (.int 2)), (65, np_ib (fun x y => x + y)), (66, np_push 2 (.int 1073741824)), (68, nq_call 3 (sp_L_draw Ls xs) 4 0 0 188083 1145773), (71, nw_ist 2 9), (73, np_ild 2 7), (75, np_push 1 (.int 4)), (76, nq_ic (fun x y => y ≤ x) 83), (79, np_push 1 (.int 0)), (80, np_goto 107), (83, np_ild 2 7), (85, np_push 2 (.int 6)), (87, nq_ic (fun x y => y ≤ x) 95), (90, np_push 2 (.int 9)), (92, np_goto 107), (95, np_ald 1 0), (96, np_ild 1 1), (97, np_push 1 (.int 3)), (98, np_ild 2 7), (100, np_ib (fun x y => x * y)), (101, np_ib (fun x y => x + y)), (102, np_push 2 (.int 22)), (104, nq_call 3 (sp_L_draw Ls xs) 4 0 0 188083 1145773), (107, nw_ist 2 10), (109, np_ild 2 8), (111, np_push 1 (.int 3)), (112, nq_ibn (fun x y => x / y)), (113, np_push 1 (.int 2)), (114, nq_ibn (fun x y => x - x / y * y)), (115, nw_ist 2 11), (117, np_push 1 (.int 1)), (118, nw_ist 2 12), (120, np_ild 2 10), (122, np_push 1 (.int 2)), (123, nq_ic (fun x y => y ≤ x) 140), (126, np_ald 1 2), (127, np_ild 2 8), (129, np_ild 2 9), (131, np_ald 1 3), (132, nq_call 4 sp_L_describes 11 9 54 188083 1145773), (135, nw_ist 2 12), (137, np_goto 717), (140, np_ild 2 10), (142, np_push 2 (.int 8)), (144, nq_ic (fun x y => y ≤ x) 163), (147, np_ald 1 2), (148, np_ild 2 8), (150, np_ild 2 9), (152, np_ald 2 5), (154, np_ald 1 3), (155, nq_call 5 sp_L_samples 11 792 4752 188083 1145773), (158, nw_ist 2 12), (160, np_goto 717), (163, np_ild 2 10), (165, np_push 2 (.int 8)), (167, nq_icne 184), (170, np_ald 1 2), (171, np_ild 2 8), (173, np_ild 2 9), (175, np_ald 1 3), (176, nq_call 4 sp_L_constrains 8 1 6 188083 1145773), (179, nw_ist 2 12), (181, np_goto 717), (184, np_ild 2 10), (186, np_push 2 (.int 9)), (188, nq_icne 294), (191, np_ald 1 3), (192, np_push 1 (.int 0)), (193, nw_ialdT .int), (194, nq_if (fun x => x ≤ 0) 717), (197, np_ald 1 2), (198, np_ild 2 11), (200, np_ild 2 9), (202, np_ald 1 3), (203, np_push 1 (.int 0)), (204, nw_ialdT .int), (205, nq_ibn (fun x y => x - x / y * y)), (206, nw_callVX 11 3 sp_X11_stream 6 1 6 188083 1145773 []), (209, nw_ist 2 13), (211, np_ild 2 13), (213, np_ald 1 3), (214, np_push 1 (.int 4)), (215, np_push 2 (.int 6)), (217, np_ild 2 11), (219, np_ib (fun x y => x * y)), (220, np_ib (fun x y => x + y)), (221, nw_ialdT .int), (222, nq_icne 229), (225, np_push 1 (.int 1)), (226, np_goto 230), (229, np_push 1 (.int 0)), (230, nw_ist 2 12), (232, np_ald 1 3), (233, np_push 1 (.int 3)), (234, np_push 2 (.int 6)), (236, np_ild 2 11), (238, np_ib (fun x y => x * y)), (239, np_ib (fun x y => x + y)), (240, np_ild 2 9), (242, np_ald 1 3), (243, np_push 1 (.int 0)), (244, nw_ialdT .int), (245, nq_ibn (fun x y => x - x / y * y)), (246, np_push 1 (.int 1)), (247, np_ib (fun x y => x + y)), (248, nw_iastT .int), (249, np_ald 1 3), (250, np_push 1 (.int 4)), (251, np_push 2 (.int 6)), (253, np_ild 2 11), (255, np_ib (fun x y => x * y)), (256, np_ib (fun x y => x + y)), (257, np_push 1 (.int 0)), (258, nw_iastT .int), (259, np_ald 1 3), (260, np_push 1 (.int 5)), (261, np_push 2 (.int 6)), (263, np_ild 2 11), (265, np_ib (fun x y => x * y)), (266, np_ib (fun x y => x + y)), (267, np_push 1 (.int 0)), (268, nw_iastT .int), (269, np_ald 1 3), (270, np_push 2 (.int 6)), (272, np_push 2 (.int 6)), (274, np_ild 2 11), (276, np_ib (fun x y => x * y)), (277, np_ib (fun x y => x + y)), (278, np_push 1 (.int 0)), (279, nw_iastT .int), (280, np_ald 1 3), (281, np_push 2 (.int 7)), (283, np_push 2 (.int 6)), (285, np_ild 2 11), (287, np_ib (fun x y => x * y)), (288, np_ib (fun x y => x + y)), (289, np_push 1 (.int 0)), (290, nw_iastT .int), (291, np_goto 717), (294, np_ild 2 10), (296, np_push 2 (.int 17)), (298, nq_ic (fun x y => y ≤ x) 338), (301, np_ald 1 3), (302, np_push 2 (.int 17)), (304, nq_dup2), (305, nw_ialdT .int), (306, np_push 1 (.int 1)), (307, np_ib (fun x y => x + y)), (308, nw_iastT .int), (309, np_ald 1 3), (310, np_push 2 (.int 17)), (312, nw_ialdT .int), (313, np_push 2 (.int 10)), (315, nq_ic (fun x y => y < x) 328), (318, np_ald 1 2), (319, np_ild 2 11), (321, np_ald 1 3), (322, nq_call 3 sp_L_steps 11 1109 6654 188083 1145773), (325, nq_if (fun x => x = 0) 332), (328, np_push 1 (.int 1)), (329, np_goto 333), (332, np_push 1 (.int 0)), (333, nw_ist 2 12), (335, np_goto 717), (338, np_ild 2 10), (340, np_push 2 (.int 17)), (342, nq_icne 517), (345, np_ild 2 9), (347, np_push 1 (.int 3)), (348, nq_ibn (fun x y => x - x / y * y)), (349, nq_ifne 357), (352, np_push 2 (.int 10)), (354, np_goto 387), (357, np_ild 2 9), (359, np_push 1 (.int 3)), (360, nq_ibn (fun x y => x - x / y * y)), (361, np_push 1 (.int 1)), (362, nq_icne 377), (365, np_push 2 (.int 97)), (367, np_ild 2 9), (369, np_push 1 (.int 3)), (370, nq_ibn (fun x y => x / y)), (371, np_push 1 (.int 4)), (372, nq_ibn (fun x y => x - x / y * y)), (373, np_ib (fun x y => x + y)), (374, np_goto 387), (377, np_push 2 (.int 32)), (379, np_ild 2 9), (381, np_push 1 (.int 3)), (382, nq_ibn (fun x y => x / y)), (383, np_push 2 (.int 95)), (385, nq_ibn (fun x y => x - x / y * y)), (386, np_ib (fun x y => x + y)), (387, nw_ist 2 13), (389, np_ild 2 9), (391, np_push 3 (.int 400)), (394, nq_ibn (fun x y => x / y)), (395, np_push 1 (.int 2)), (396, nq_ibn (fun x y => x - x / y * y)), (397, nq_ifne 404), (400, np_push 1 (.int 0)), (401, np_goto 407), (404, np_push 3 (.int 2560)), (407, nw_ist 2 14), (409, np_ald 1 2), (410, np_ild 2 11), (412, nq_call 2 sp_L_units 3 302 1812 188083 1145773), (415, nw_ist 2 15), (417, np_ald 1 2), (418, np_push 1 (.int 1)), (419, np_ild 2 11), (421, np_ild 2 13), (423, np_ild 2 14), (425, np_ib (fun x y => x ||| y)), (426, np_push 1 (.int 0)), (427, nq_call 5 sp_L_asks 6 1 6 188083 1145773), (430, nw_ist 2 16), (432, np_ild 2 14), (434, nq_if (fun x => x ≤ 0) 441), (437, np_push 1 (.int 2)), (438, np_goto 442), (441, np_push 1 (.int 1)), (442, nw_ist 2 17), (444, np_ald 1 3), (445, np_push 2 (.int 8)), (447, np_push 2 (.int 6)), (449, np_ild 2 11), (451, np_ib (fun x y => x * y)), (452, np_ib (fun x y => x + y)), (453, nw_ialdT .int), (454, np_push 1 (.int 1)), (455, nq_ic (fun x y => x = y) 469), (458, np_ild 2 15), (460, np_ild 2 17), (462, np_ib (fun x y => x + y)), (463, np_push 3 (.int 300)), (466, nq_ic (fun x y => x ≤ y) 484), (469, np_ild 2 16), (471, np_push 2 (.int (-70008))), (473, nq_icne 480), (476, np_push 1 (.int 1)), (477, np_goto 512), (480, np_push 1 (.int 0)), (481, np_goto 512), (484, np_ild 2 16), (486, np_ild 2 15), (488, np_ild 2 17), (490, np_ib (fun x y => x + y)), (491, nq_icne 511), (494, np_ald 1 2), (495, np_ild 2 11), (497, np_ild 2 15), (499, nw_callVX 11 3 sp_X11_unit 5 1 6 188083 1145773 []), (502, np_ild 2 13), (504, nq_icne 511), (507, np_push 1 (.int 1)), (508, np_goto 512), (511, np_push 1 (.int 0)), (512, nw_ist 2 12), (514, np_goto 717), (517, np_ild 2 10), (519, np_push 2 (.int 18)), (521, nq_icne 580), (524, np_ild 2 9), (526, np_push 2 (.int 6)), (528, nq_ibn (fun x y => x - x / y * y)), (529, nq_ifne 717), (532, np_ald 1 2), (533, np_ild 2 11), (535, nw_callVX 11 2 sp_X11_close 4 1 6 188083 1145773 []), (538, np_ald 1 3), (539, np_push 2 (.int 8)), (541, np_push 2 (.int 6)), (543, np_ild 2 11), (545, np_ib (fun x y => x * y)), (546, np_ib (fun x y => x + y)), (547, nw_ialdT .int), (548, nq_ifne 555), (551, np_push 1 (.int 1)), (552, np_goto 556), (555, np_push 1 (.int 0)), (556, nq_icne 563), (559, np_push 1 (.int 1)), (560, np_goto 564), (563, np_push 1 (.int 0)), (564, nw_ist 2 12), (566, np_ald 1 3), (567, np_push 2 (.int 8)), (569, np_push 2 (.int 6)), (571, np_ild 2 11), (573, np_ib (fun x y => x * y)), (574, np_ib (fun x y => x + y)), (575, np_push 1 (.int 1)), (576, nw_iastT .int), (577, np_goto 717), (580, np_ild 2 10), (582, np_push 2 (.int 19)), (584, nq_icne 684), (587, np_ald 1 3), (588, np_push 1 (.int 1)), (589, nw_ialdT .int), (590, np_push 2 (.int 6)), (592, nq_ic (fun x y => y ≤ x) 717), (595, np_ald 2 4), (597, np_ald 1 3), (598, np_push 1 (.int 1)), (599, nw_ialdT .int), (600, np_ild 2 11), (602, np_ild 2 9), (604, np_push 1 (.int 4)), (605, nq_ibn (fun x y => x - x / y * y)), (606, np_push 1 (.int 1)), (607, np_ib (fun x y => x <<< (y &&& 31))), (608, np_ib (fun x y => x ||| y)), (609, np_ild 2 9), (611, np_push 1 (.int 4)), (612, nq_ibn (fun x y => x / y)), (613, np_push 2 (.int 6)), (615, nq_ibn (fun x y => x - x / y * y)), (616, np_push 1 (.int 3)), (617, np_ib (fun x y => x <<< (y &&& 31))), (618, np_ib (fun x y => x ||| y)), (619, np_push 1 (.int 1)), (620, np_ild 2 9), (622, np_push 2 (.int 32)), (624, nq_ibn (fun x y => x / y)), (625, np_push 1 (.int 5)), (626, nq_ibn (fun x y => x - x / y * y)), (627, np_ib (fun x y => x + y)), (628, np_push 2 (.int 6)), (630, np_ib (fun x y => x <<< (y &&& 31))), (631, np_ib (fun x y => x ||| y)), (632, nw_iastT .int), (633, np_ald 1 3), (634, np_push 1 (.int 1)), (635, nq_dup2), (636, nw_ialdT .int), (637, np_push 1 (.int 1)), (638, np_ib (fun x y => x + y)), (639, nw_iastT .int), (640, np_ald 1 2), (641, np_ild 2 11), (643, np_ild 2 9), (645, np_push 1 (.int 4)), (646, nq_ibn (fun x y => x - x / y * y)), (647, np_ild 2 9), (649, np_push 1 (.int 4)), (650, nq_ibn (fun x y => x / y)), (651, np_push 2 (.int 6)), (653, nq_ibn (fun x y => x - x / y * y)), (654, np_push 1 (.int 1)), (655, np_ild 2 9), (657, np_push 2 (.int 32)), (659, nq_ibn (fun x y => x / y)), (660, np_push 1 (.int 5)), (661, nq_ibn (fun x y => x - x / y * y)), (662, np_ib (fun x y => x + y)), (663, nw_callVX 11 5 sp_X11_column 7 1 6 188083 1145773 []), (666, np_ald 1 3), (667, np_push 1 (.int 1)), (668, nw_ialdT .int), (669, np_push 1 (.int 1)), (670, np_ib (fun x y => x - y)), (671, nq_icne 678), (674, np_push 1 (.int 1)), (675, np_goto 679), (678, np_push 1 (.int 0)), (679, nw_ist 2 12), (681, np_goto 717), (684, np_ild 2 10), (686, np_push 2 (.int 20)), (688, nq_icne 705), (691, np_ald 1 2), (692, np_ild 2 8), (694, np_ild 2 9), (696, np_ald 2 6), (698, np_ald 1 3), (699, nq_call 5 sp_L_upgrades 17 106 640 188083 1145773), (702, np_goto 715), (705, np_ald 1 2), (706, np_ild 2 9), (708, np_push 2 (.int 6)), (710, nq_ibn (fun x y => x - x / y * y)), (711, np_ald 1 3), (712, nq_call 3 sp_L_areKeys 13 2510 15060 188083 1145773), (715, nw_ist 2 12), (717, np_ild 2 12), (719, nq_if (fun x => x = 0) 741), (722, np_ild 2 7), (724, np_push 2 (.int 6)), (726, nq_ibn (fun x y => x - x / y * y)), (727, np_push 1 (.int 5)), (728, nq_icne 743), (731, np_ald 1 2), (732, np_ald 2 4), (734, np_ald 1 3), (735, nq_call 3 sp_L_areColumns 15 777 4662 188083 1145773), (738, nq_ifne 743), (741, np_push 1 (.int 0)), (742, np_ret Rt), (743, nw_iinc 7 1), (746, np_goto 34), (749, np_ald 1 2), (750, np_ald 2 4), (752, np_ald 1 3), (753, nq_call 3 sp_L_areColumns 15 777 4662 188083 1145773), (756, nq_if (fun x => x = 0) 781), (759, np_ald 1 2), (760, np_push 1 (.int 0)), (761, np_ald 1 3), (762, nq_call 3 sp_L_areKeys 13 2510 15060 188083 1145773), (765, nq_if (fun x => x = 0) 781), (768, np_ald 1 2), (769, np_push 1 (.int 1)), (770, np_ald 1 3), (771, nq_call 3 sp_L_areKeys 13 2510 15060 188083 1145773), (774, nq_if (fun x => x = 0) 781), (777, np_push 1 (.int 1)), (778, np_goto 782), (781, np_push 1 (.int 0)), (782, np_ret Rt)]
set_option maxRecDepth 20000 in
theorem so_L_press {X : np_Ctx} {Rt : np_Rt} {Ls : Nat} {xs : Nat → Int32} (hX : np_ok RL cL_press 18 12 334 188083 1145773 .ireturn X) (hf : np_lf Ls xs X) (hR : ∀ st w ce sl, Rt st w ce sl → X.2.2.1 st w ce sl) : ∀ q ∈ is_L_press Rt Ls xs, np_S X q.1 q.2 :=
  List.forall_mem_cons.mpr ⟨np_S.mono (op := np_new 11 14 [.null, .null, .int 0, .null, .null, .null, .null, .null, .null, .null, .int 0, .null, .null, .int 0] 188083 1145773) (np_s_new hX dL_press_0 (C := RX11) (T := TX11) (ty0 := tyX11) rfl guX11 tyX11_ok gw86 gw87 gw63 ndX11 nfX11) nq_new_le, List.forall_mem_cons.mpr ⟨np_S.mono (op := np_dup) (np_s_dup hX dL_press_3) nq_dup_le, List.forall_mem_cons.mpr ⟨np_S.mono (op := np_callI 1 sp_X11_init 2 1495 26209 188083 1145773) (np_s_callI hX C_X11_init dL_press_4 rfl gw90 gw63 gw88 gw89 ⟨by decide, by decide, by decide⟩ (by decide) (by decide)) nq_callI_le, List.forall_mem_cons.mpr ⟨np_s_astore_n hX dL_press_7 rfl (by decide), List.forall_mem_cons.mpr ⟨np_s_bipush hX dL_press_8 (by decide), List.forall_mem_cons.mpr ⟨np_S.mono (op := np_newa .int 18 (18, .inl fun _ => 0) 188083 1145773) (np_s_newa hX dL_press_10 rfl gw118 (by decide) (by intro C h; cases h) (by decide) (fun _ => vp_cell_i _ _ _) (by decide) (fun _ _ => rfl) (fun _ => trivial)) nq_newa_le, List.forall_mem_cons.mpr ⟨np_s_astore_n hX dL_press_12 rfl (by decide), List.forall_mem_cons.mpr ⟨np_s_bipush hX dL_press_13 (by decide), List.forall_mem_cons.mpr ⟨np_S.mono (op := np_newa .int 6 (6, .inl fun _ => 0) 188083 1145773) (np_s_newa hX dL_press_15 rfl gw118 (by decide) (by intro C h; cases h) (by decide) (fun _ => vp_cell_i _ _ _) (by decide) (fun _ _ => rfl) (fun _ => trivial)) nq_newa_le, List.forall_mem_cons.mpr ⟨np_s_astore hX dL_press_17 (by decide), List.forall_mem_cons.mpr ⟨np_s_bipush hX dL_press_19 (by decide), List.forall_mem_cons.mpr ⟨np_S.mono (op := np_newa .int 24 (24, .inl fun _ => 0) 188083 1145773) (np_s_newa hX dL_press_21 rfl gw118 (by decide) (by intro C h; cases h) (by decide) (fun _ => vp_cell_i _ _ _) (by decide) (fun _ _ => rfl) (fun _ => trivial)) nq_newa_le, List.forall_mem_cons.mpr ⟨np_s_astore hX dL_press_23 (by decide), List.forall_mem_cons.mpr ⟨np_s_bipush hX dL_press_25 (by decide), List.forall_mem_cons.mpr ⟨np_S.mono (op := np_newa .int 8 (8, .inl fun _ => 0) 188083 1145773) (np_s_newa hX dL_press_27 rfl gw118 (by decide) (by intro C h; cases h) (by decide) (fun _ => vp_cell_i _ _ _) (by decide) (fun _ _ => rfl) (fun _ => trivial)) nq_newa_le, List.forall_mem_cons.mpr ⟨np_s_astore hX dL_press_29 (by decide), List.forall_mem_cons.mpr ⟨np_s_iconst hX dL_press_31 (by decide), List.forall_mem_cons.mpr ⟨np_S.mono (op := np_ist 2 7) (np_s_istore hX dL_press_32 (by decide)) nw_ist_le, List.forall_mem_cons.mpr ⟨np_s_iload hX dL_press_34, List.forall_mem_cons.mpr ⟨np_s_bipush hX dL_press_36 (by decide), List.forall_mem_cons.mpr ⟨np_S.mono (op := np_ic (fun x y => y ≤ x) 749) (np_s_icmp_ge hX dL_press_38 (by decide)) nq_ic_le, List.forall_mem_cons.mpr ⟨np_s_aload_n hX dL_press_41 rfl, List.forall_mem_cons.mpr ⟨np_s_iload_n hX dL_press_42 rfl, List.forall_mem_cons.mpr ⟨np_s_iconst hX dL_press_43 (by decide), List.forall_mem_cons.mpr ⟨np_s_iload hX dL_press_44, List.forall_mem_cons.mpr ⟨np_s_imul hX dL_press_46, List.forall_mem_cons.mpr ⟨np_s_iadd hX dL_press_47, List.forall_mem_cons.mpr ⟨np_s_iconst hX dL_press_48 (by decide), List.forall_mem_cons.mpr ⟨np_s_iadd hX dL_press_49, List.forall_mem_cons.mpr ⟨np_s_ldc hX dL_press_50 gw484, List.forall_mem_cons.mpr ⟨np_S.mono (op := np_call 3 (sp_L_draw Ls xs) 4 0 0 188083 1145773) (np_s_callSs hX hf (C_L_draw (Ls := Ls) (xs := xs)) dL_press_52 gw487 gw62 gw485 gw486 ⟨by decide, by decide, by decide⟩ (by decide) (by decide)) nq_call_le, List.forall_mem_cons.mpr ⟨np_S.mono (op := np_ist 2 8) (np_s_istore hX dL_press_55 (by decide)) nw_ist_le, List.forall_mem_cons.mpr ⟨np_s_aload_n hX dL_press_57 rfl, List.forall_mem_cons.mpr ⟨np_s_iload_n hX dL_press_58 rfl, List.forall_mem_cons.mpr ⟨np_s_iconst hX dL_press_59 (by decide), List.forall_mem_cons.mpr ⟨np_s_iload hX dL_press_60, List.forall_mem_cons.mpr ⟨np_s_imul hX dL_press_62, List.forall_mem_cons.mpr ⟨np_s_iadd hX dL_press_63, List.forall_mem_cons.mpr ⟨np_s_iconst hX dL_press_64 (by decide), List.forall_mem_cons.mpr ⟨np_s_iadd hX dL_press_65, List.forall_mem_cons.mpr ⟨np_s_ldc hX dL_press_66 gw484, List.forall_mem_cons.mpr ⟨np_S.mono (op := np_call 3 (sp_L_draw Ls xs) 4 0 0 188083 1145773) (np_s_callSs hX hf (C_L_draw (Ls := Ls) (xs := xs)) dL_press_68 gw487 gw62 gw485 gw486 ⟨by decide, by decide, by decide⟩ (by decide) (by decide)) nq_call_le, List.forall_mem_cons.mpr ⟨np_S.mono (op := np_ist 2 9) (np_s_istore hX dL_press_71 (by decide)) nw_ist_le, List.forall_mem_cons.mpr ⟨np_s_iload hX dL_press_73, List.forall_mem_cons.mpr ⟨np_s_iconst hX dL_press_75 (by decide), List.forall_mem_cons.mpr ⟨np_S.mono (op := np_ic (fun x y => y ≤ x) 83) (np_s_icmp_ge hX dL_press_76 (by decide)) nq_ic_le, List.forall_mem_cons.mpr ⟨np_s_iconst hX dL_press_79 (by decide), List.forall_mem_cons.mpr ⟨np_s_goto hX dL_press_80 (by decide), List.forall_mem_cons.mpr ⟨np_s_iload hX dL_press_83, List.forall_mem_cons.mpr ⟨np_s_bipush hX dL_press_85 (by decide), List.forall_mem_cons.mpr ⟨np_S.mono (op := np_ic (fun x y => y ≤ x) 95) (np_s_icmp_ge hX dL_press_87 (by decide)) nq_ic_le, List.forall_mem_cons.mpr ⟨np_s_bipush hX dL_press_90 (by decide), List.forall_mem_cons.mpr ⟨np_s_goto hX dL_press_92 (by decide), List.forall_mem_cons.mpr ⟨np_s_aload_n hX dL_press_95 rfl, List.forall_mem_cons.mpr ⟨np_s_iload_n hX dL_press_96 rfl, List.forall_mem_cons.mpr ⟨np_s_iconst hX dL_press_97 (by decide), List.forall_mem_cons.mpr ⟨np_s_iload hX dL_press_98, List.forall_mem_cons.mpr ⟨np_s_imul hX dL_press_100, List.forall_mem_cons.mpr ⟨np_s_iadd hX dL_press_101, List.forall_mem_cons.mpr ⟨np_s_bipush hX dL_press_102 (by decide), List.forall_mem_cons.mpr ⟨np_S.mono (op := np_call 3 (sp_L_draw Ls xs) 4 0 0 188083 1145773) (np_s_callSs hX hf (C_L_draw (Ls := Ls) (xs := xs)) dL_press_104 gw487 gw62 gw485 gw486 ⟨by decide, by decide, by decide⟩ (by decide) (by decide)) nq_call_le, List.forall_mem_cons.mpr ⟨np_S.mono (op := np_ist 2 10) (np_s_istore hX dL_press_107 (by decide)) nw_ist_le, List.forall_mem_cons.mpr ⟨np_s_iload hX dL_press_109, List.forall_mem_cons.mpr ⟨np_s_iconst hX dL_press_111 (by decide), List.forall_mem_cons.mpr ⟨np_S.mono (op := np_ibn (fun x y => x / y)) (np_s_idiv hX dL_press_112) nq_ibn_le, List.forall_mem_cons.mpr ⟨np_s_iconst hX dL_press_113 (by decide), List.forall_mem_cons.mpr ⟨np_S.mono (op := np_ibn (fun x y => x - x / y * y)) (np_s_irem hX dL_press_114) nq_ibn_le, List.forall_mem_cons.mpr ⟨np_S.mono (op := np_ist 2 11) (np_s_istore hX dL_press_115 (by decide)) nw_ist_le, List.forall_mem_cons.mpr ⟨np_s_iconst hX dL_press_117 (by decide), List.forall_mem_cons.mpr ⟨np_S.mono (op := np_ist 2 12) (np_s_istore hX dL_press_118 (by decide)) nw_ist_le, List.forall_mem_cons.mpr ⟨np_s_iload hX dL_press_120, List.forall_mem_cons.mpr ⟨np_s_iconst hX dL_press_122 (by decide), List.forall_mem_cons.mpr ⟨np_S.mono (op := np_ic (fun x y => y ≤ x) 140) (np_s_icmp_ge hX dL_press_123 (by decide)) nq_ic_le, List.forall_mem_cons.mpr ⟨np_s_aload_n hX dL_press_126 rfl, List.forall_mem_cons.mpr ⟨np_s_iload hX dL_press_127, List.forall_mem_cons.mpr ⟨np_s_iload hX dL_press_129, List.forall_mem_cons.mpr ⟨np_s_aload_n hX dL_press_131 rfl, List.forall_mem_cons.mpr ⟨np_S.mono (op := np_call 4 sp_L_describes 11 9 54 188083 1145773) (np_s_callS hX C_L_describes dL_press_132 gw493 gw62 gw491 gw492 ⟨by decide, by decide, by decide⟩ (by decide) (by decide)) nq_call_le, List.forall_mem_cons.mpr ⟨np_S.mono (op := np_ist 2 12) (np_s_istore hX dL_press_135 (by decide)) nw_ist_le, List.forall_mem_cons.mpr ⟨np_s_goto hX dL_press_137 (by decide), List.forall_mem_cons.mpr ⟨np_s_iload hX dL_press_140, List.forall_mem_cons.mpr ⟨np_s_bipush hX dL_press_142 (by decide), List.forall_mem_cons.mpr ⟨np_S.mono (op := np_ic (fun x y => y ≤ x) 163) (np_s_icmp_ge hX dL_press_144 (by decide)) nq_ic_le, List.forall_mem_cons.mpr ⟨np_s_aload_n hX dL_press_147 rfl, List.forall_mem_cons.mpr ⟨np_s_iload hX dL_press_148, List.forall_mem_cons.mpr ⟨np_s_iload hX dL_press_150, List.forall_mem_cons.mpr ⟨np_s_aload hX dL_press_152, List.forall_mem_cons.mpr ⟨np_s_aload_n hX dL_press_154 rfl, List.forall_mem_cons.mpr ⟨np_S.mono (op := np_call 5 sp_L_samples 11 792 4752 188083 1145773) (np_s_callS hX C_L_samples dL_press_155 gw710 gw62 gw708 gw709 ⟨by decide, by decide, by decide⟩ (by decide) (by decide)) nq_call_le, List.forall_mem_cons.mpr ⟨np_S.mono (op := np_ist 2 12) (np_s_istore hX dL_press_158 (by decide)) nw_ist_le, List.forall_mem_cons.mpr ⟨np_s_goto hX dL_press_160 (by decide), List.forall_mem_cons.mpr ⟨np_s_iload hX dL_press_163, List.forall_mem_cons.mpr ⟨np_s_bipush hX dL_press_165 (by decide), List.forall_mem_cons.mpr ⟨np_S.mono (op := np_icne 184) (np_s_icmp_ne hX dL_press_167 (by decide)) nq_icne_le, List.forall_mem_cons.mpr ⟨np_s_aload_n hX dL_press_170 rfl, List.forall_mem_cons.mpr ⟨np_s_iload hX dL_press_171, List.forall_mem_cons.mpr ⟨np_s_iload hX dL_press_173, List.forall_mem_cons.mpr ⟨np_s_aload_n hX dL_press_175 rfl, List.forall_mem_cons.mpr ⟨np_S.mono (op := np_call 4 sp_L_constrains 8 1 6 188083 1145773) (np_s_callS hX C_L_constrains dL_press_176 gw1206 gw62 gw1204 gw1205 ⟨by decide, by decide, by decide⟩ (by decide) (by decide)) nq_call_le, List.forall_mem_cons.mpr ⟨np_S.mono (op := np_ist 2 12) (np_s_istore hX dL_press_179 (by decide)) nw_ist_le, List.forall_mem_cons.mpr ⟨np_s_goto hX dL_press_181 (by decide), List.forall_mem_cons.mpr ⟨np_s_iload hX dL_press_184, List.forall_mem_cons.mpr ⟨np_s_bipush hX dL_press_186 (by decide), List.forall_mem_cons.mpr ⟨np_S.mono (op := np_icne 294) (np_s_icmp_ne hX dL_press_188 (by decide)) nq_icne_le, List.forall_mem_cons.mpr ⟨np_s_aload_n hX dL_press_191 rfl, List.forall_mem_cons.mpr ⟨np_s_iconst hX dL_press_192 (by decide), List.forall_mem_cons.mpr ⟨np_S.mono (op := np_ialdT .int) (np_s_iald hX dL_press_193) nw_ialdT_le, List.forall_mem_cons.mpr ⟨np_S.mono (op := np_if (fun x => x ≤ 0) 717) (np_s_if_le hX dL_press_194 (by decide)) nq_if_le, List.forall_mem_cons.mpr ⟨np_s_aload_n hX dL_press_197 rfl, List.forall_mem_cons.mpr ⟨np_s_iload hX dL_press_198, List.forall_mem_cons.mpr ⟨np_s_iload hX dL_press_200, List.forall_mem_cons.mpr ⟨np_s_aload_n hX dL_press_202 rfl, List.forall_mem_cons.mpr ⟨np_s_iconst hX dL_press_203 (by decide), List.forall_mem_cons.mpr ⟨np_S.mono (op := np_ialdT .int) (np_s_iald hX dL_press_204) nw_ialdT_le, List.forall_mem_cons.mpr ⟨np_S.mono (op := np_ibn (fun x y => x - x / y * y)) (np_s_irem hX dL_press_205) nq_ibn_le, List.forall_mem_cons.mpr ⟨np_S.mono (op := np_callVX 11 3 sp_X11_stream 6 1 6 188083 1145773 []) (np_s_callVX hX C_X11_stream dL_press_206 (q := (RX11, TX11, 14)) rfl rfl gw1240 gw63 gw1237 gw1238 gw1239 ⟨by decide, by decide, by decide⟩ (by decide) (by decide) (fun _ h => nomatch h)) (nw_callVX_le2 (ci := 11) (n := 3) (sp := sp_X11_stream) (maxL := 6) (mc := 1) (ms := 6) (RC := 188083) (RS := 1145773) (hs := [])), List.forall_mem_cons.mpr ⟨np_S.mono (op := np_ist 2 13) (np_s_istore hX dL_press_209 (by decide)) nw_ist_le, List.forall_mem_cons.mpr ⟨np_s_iload hX dL_press_211, List.forall_mem_cons.mpr ⟨np_s_aload_n hX dL_press_213 rfl, List.forall_mem_cons.mpr ⟨np_s_iconst hX dL_press_214 (by decide), List.forall_mem_cons.mpr ⟨np_s_bipush hX dL_press_215 (by decide), List.forall_mem_cons.mpr ⟨np_s_iload hX dL_press_217, List.forall_mem_cons.mpr ⟨np_s_imul hX dL_press_219, List.forall_mem_cons.mpr ⟨np_s_iadd hX dL_press_220, List.forall_mem_cons.mpr ⟨np_S.mono (op := np_ialdT .int) (np_s_iald hX dL_press_221) nw_ialdT_le, List.forall_mem_cons.mpr ⟨np_S.mono (op := np_icne 229) (np_s_icmp_ne hX dL_press_222 (by decide)) nq_icne_le, List.forall_mem_cons.mpr ⟨np_s_iconst hX dL_press_225 (by decide), List.forall_mem_cons.mpr ⟨np_s_goto hX dL_press_226 (by decide), List.forall_mem_cons.mpr ⟨np_s_iconst hX dL_press_229 (by decide), List.forall_mem_cons.mpr ⟨np_S.mono (op := np_ist 2 12) (np_s_istore hX dL_press_230 (by decide)) nw_ist_le, List.forall_mem_cons.mpr ⟨np_s_aload_n hX dL_press_232 rfl, List.forall_mem_cons.mpr ⟨np_s_iconst hX dL_press_233 (by decide), List.forall_mem_cons.mpr ⟨np_s_bipush hX dL_press_234 (by decide), List.forall_mem_cons.mpr ⟨np_s_iload hX dL_press_236, List.forall_mem_cons.mpr ⟨np_s_imul hX dL_press_238, List.forall_mem_cons.mpr ⟨np_s_iadd hX dL_press_239, List.forall_mem_cons.mpr ⟨np_s_iload hX dL_press_240, List.forall_mem_cons.mpr ⟨np_s_aload_n hX dL_press_242 rfl, List.forall_mem_cons.mpr ⟨np_s_iconst hX dL_press_243 (by decide), List.forall_mem_cons.mpr ⟨np_S.mono (op := np_ialdT .int) (np_s_iald hX dL_press_244) nw_ialdT_le, List.forall_mem_cons.mpr ⟨np_S.mono (op := np_ibn (fun x y => x - x / y * y)) (np_s_irem hX dL_press_245) nq_ibn_le, List.forall_mem_cons.mpr ⟨np_s_iconst hX dL_press_246 (by decide), List.forall_mem_cons.mpr ⟨np_s_iadd hX dL_press_247, List.forall_mem_cons.mpr ⟨np_S.mono (op := np_iastT .int) (np_s_iast hX dL_press_248) nw_iastT_le, List.forall_mem_cons.mpr ⟨np_s_aload_n hX dL_press_249 rfl, List.forall_mem_cons.mpr ⟨np_s_iconst hX dL_press_250 (by decide), List.forall_mem_cons.mpr ⟨np_s_bipush hX dL_press_251 (by decide), List.forall_mem_cons.mpr ⟨np_s_iload hX dL_press_253, List.forall_mem_cons.mpr ⟨np_s_imul hX dL_press_255, List.forall_mem_cons.mpr ⟨np_s_iadd hX dL_press_256, List.forall_mem_cons.mpr ⟨np_s_iconst hX dL_press_257 (by decide), List.forall_mem_cons.mpr ⟨np_S.mono (op := np_iastT .int) (np_s_iast hX dL_press_258) nw_iastT_le, List.forall_mem_cons.mpr ⟨np_s_aload_n hX dL_press_259 rfl, List.forall_mem_cons.mpr ⟨np_s_iconst hX dL_press_260 (by decide), List.forall_mem_cons.mpr ⟨np_s_bipush hX dL_press_261 (by decide), List.forall_mem_cons.mpr ⟨np_s_iload hX dL_press_263, List.forall_mem_cons.mpr ⟨np_s_imul hX dL_press_265, List.forall_mem_cons.mpr ⟨np_s_iadd hX dL_press_266, List.forall_mem_cons.mpr ⟨np_s_iconst hX dL_press_267 (by decide), List.forall_mem_cons.mpr ⟨np_S.mono (op := np_iastT .int) (np_s_iast hX dL_press_268) nw_iastT_le, List.forall_mem_cons.mpr ⟨np_s_aload_n hX dL_press_269 rfl, List.forall_mem_cons.mpr ⟨np_s_bipush hX dL_press_270 (by decide), List.forall_mem_cons.mpr ⟨np_s_bipush hX dL_press_272 (by decide), List.forall_mem_cons.mpr ⟨np_s_iload hX dL_press_274, List.forall_mem_cons.mpr ⟨np_s_imul hX dL_press_276, List.forall_mem_cons.mpr ⟨np_s_iadd hX dL_press_277, List.forall_mem_cons.mpr ⟨np_s_iconst hX dL_press_278 (by decide), List.forall_mem_cons.mpr ⟨np_S.mono (op := np_iastT .int) (np_s_iast hX dL_press_279) nw_iastT_le, List.forall_mem_cons.mpr ⟨np_s_aload_n hX dL_press_280 rfl, List.forall_mem_cons.mpr ⟨np_s_bipush hX dL_press_281 (by decide), List.forall_mem_cons.mpr ⟨np_s_bipush hX dL_press_283 (by decide), List.forall_mem_cons.mpr ⟨np_s_iload hX dL_press_285, List.forall_mem_cons.mpr ⟨np_s_imul hX dL_press_287, List.forall_mem_cons.mpr ⟨np_s_iadd hX dL_press_288, List.forall_mem_cons.mpr ⟨np_s_iconst hX dL_press_289 (by decide), List.forall_mem_cons.mpr ⟨np_S.mono (op := np_iastT .int) (np_s_iast hX dL_press_290) nw_iastT_le, List.forall_mem_cons.mpr ⟨np_s_goto hX dL_press_291 (by decide), List.forall_mem_cons.mpr ⟨np_s_iload hX dL_press_294, List.forall_mem_cons.mpr ⟨np_s_bipush hX dL_press_296 (by decide), List.forall_mem_cons.mpr ⟨np_S.mono (op := np_ic (fun x y => y ≤ x) 338) (np_s_icmp_ge hX dL_press_298 (by decide)) nq_ic_le, List.forall_mem_cons.mpr ⟨np_s_aload_n hX dL_press_301 rfl, List.forall_mem_cons.mpr ⟨np_s_bipush hX dL_press_302 (by decide), List.forall_mem_cons.mpr ⟨np_S.mono (op := np_dup2) (np_s_dup2 hX dL_press_304) nq_dup2_le, List.forall_mem_cons.mpr ⟨np_S.mono (op := np_ialdT .int) (np_s_iald hX dL_press_305) nw_ialdT_le, List.forall_mem_cons.mpr ⟨np_s_iconst hX dL_press_306 (by decide), List.forall_mem_cons.mpr ⟨np_s_iadd hX dL_press_307, List.forall_mem_cons.mpr ⟨np_S.mono (op := np_iastT .int) (np_s_iast hX dL_press_308) nw_iastT_le, List.forall_mem_cons.mpr ⟨np_s_aload_n hX dL_press_309 rfl, List.forall_mem_cons.mpr ⟨np_s_bipush hX dL_press_310 (by decide), List.forall_mem_cons.mpr ⟨np_S.mono (op := np_ialdT .int) (np_s_iald hX dL_press_312) nw_ialdT_le, List.forall_mem_cons.mpr ⟨np_s_bipush hX dL_press_313 (by decide), List.forall_mem_cons.mpr ⟨np_S.mono (op := np_ic (fun x y => y < x) 328) (np_s_icmp_gt hX dL_press_315 (by decide)) nq_ic_le, List.forall_mem_cons.mpr ⟨np_s_aload_n hX dL_press_318 rfl, List.forall_mem_cons.mpr ⟨np_s_iload hX dL_press_319, List.forall_mem_cons.mpr ⟨np_s_aload_n hX dL_press_321 rfl, List.forall_mem_cons.mpr ⟨np_S.mono (op := np_call 3 sp_L_steps 11 1109 6654 188083 1145773) (np_s_callS hX C_L_steps dL_press_322 gw1247 gw62 gw1245 gw1246 ⟨by decide, by decide, by decide⟩ (by decide) (by decide)) nq_call_le, List.forall_mem_cons.mpr ⟨np_S.mono (op := np_if (fun x => x = 0) 332) (np_s_if_eq hX dL_press_325 (by decide)) nq_if_le, List.forall_mem_cons.mpr ⟨np_s_iconst hX dL_press_328 (by decide), List.forall_mem_cons.mpr ⟨np_s_goto hX dL_press_329 (by decide), List.forall_mem_cons.mpr ⟨np_s_iconst hX dL_press_332 (by decide), List.forall_mem_cons.mpr ⟨np_S.mono (op := np_ist 2 12) (np_s_istore hX dL_press_333 (by decide)) nw_ist_le, List.forall_mem_cons.mpr ⟨np_s_goto hX dL_press_335 (by decide), List.forall_mem_cons.mpr ⟨np_s_iload hX dL_press_338, List.forall_mem_cons.mpr ⟨np_s_bipush hX dL_press_340 (by decide), List.forall_mem_cons.mpr ⟨np_S.mono (op := np_icne 517) (np_s_icmp_ne hX dL_press_342 (by decide)) nq_icne_le, List.forall_mem_cons.mpr ⟨np_s_iload hX dL_press_345, List.forall_mem_cons.mpr ⟨np_s_iconst hX dL_press_347 (by decide), List.forall_mem_cons.mpr ⟨np_S.mono (op := np_ibn (fun x y => x - x / y * y)) (np_s_irem hX dL_press_348) nq_ibn_le, List.forall_mem_cons.mpr ⟨np_S.mono (op := np_ifne 357) (np_s_if_ne hX dL_press_349 (by decide)) nq_ifne_le, List.forall_mem_cons.mpr ⟨np_s_bipush hX dL_press_352 (by decide), List.forall_mem_cons.mpr ⟨np_s_goto hX dL_press_354 (by decide), List.forall_mem_cons.mpr ⟨np_s_iload hX dL_press_357, List.forall_mem_cons.mpr ⟨np_s_iconst hX dL_press_359 (by decide), List.forall_mem_cons.mpr ⟨np_S.mono (op := np_ibn (fun x y => x - x / y * y)) (np_s_irem hX dL_press_360) nq_ibn_le, List.forall_mem_cons.mpr ⟨np_s_iconst hX dL_press_361 (by decide), List.forall_mem_cons.mpr ⟨np_S.mono (op := np_icne 377) (np_s_icmp_ne hX dL_press_362 (by decide)) nq_icne_le, List.forall_mem_cons.mpr ⟨np_s_bipush hX dL_press_365 (by decide), List.forall_mem_cons.mpr ⟨np_s_iload hX dL_press_367, List.forall_mem_cons.mpr ⟨np_s_iconst hX dL_press_369 (by decide), List.forall_mem_cons.mpr ⟨np_S.mono (op := np_ibn (fun x y => x / y)) (np_s_idiv hX dL_press_370) nq_ibn_le, List.forall_mem_cons.mpr ⟨np_s_iconst hX dL_press_371 (by decide), List.forall_mem_cons.mpr ⟨np_S.mono (op := np_ibn (fun x y => x - x / y * y)) (np_s_irem hX dL_press_372) nq_ibn_le, List.forall_mem_cons.mpr ⟨np_s_iadd hX dL_press_373, List.forall_mem_cons.mpr ⟨np_s_goto hX dL_press_374 (by decide), List.forall_mem_cons.mpr ⟨np_s_bipush hX dL_press_377 (by decide), List.forall_mem_cons.mpr ⟨np_s_iload hX dL_press_379, List.forall_mem_cons.mpr ⟨np_s_iconst hX dL_press_381 (by decide), List.forall_mem_cons.mpr ⟨np_S.mono (op := np_ibn (fun x y => x / y)) (np_s_idiv hX dL_press_382) nq_ibn_le, List.forall_mem_cons.mpr ⟨np_s_bipush hX dL_press_383 (by decide), List.forall_mem_cons.mpr ⟨np_S.mono (op := np_ibn (fun x y => x - x / y * y)) (np_s_irem hX dL_press_385) nq_ibn_le, List.forall_mem_cons.mpr ⟨np_s_iadd hX dL_press_386, List.forall_mem_cons.mpr ⟨np_S.mono (op := np_ist 2 13) (np_s_istore hX dL_press_387 (by decide)) nw_ist_le, List.forall_mem_cons.mpr ⟨np_s_iload hX dL_press_389, List.forall_mem_cons.mpr ⟨np_s_sipush hX dL_press_391 (by decide), List.forall_mem_cons.mpr ⟨np_S.mono (op := np_ibn (fun x y => x / y)) (np_s_idiv hX dL_press_394) nq_ibn_le, List.forall_mem_cons.mpr ⟨np_s_iconst hX dL_press_395 (by decide), List.forall_mem_cons.mpr ⟨np_S.mono (op := np_ibn (fun x y => x - x / y * y)) (np_s_irem hX dL_press_396) nq_ibn_le, List.forall_mem_cons.mpr ⟨np_S.mono (op := np_ifne 404) (np_s_if_ne hX dL_press_397 (by decide)) nq_ifne_le, List.forall_mem_cons.mpr ⟨np_s_iconst hX dL_press_400 (by decide), List.forall_mem_cons.mpr ⟨np_s_goto hX dL_press_401 (by decide), List.forall_mem_cons.mpr ⟨np_s_sipush hX dL_press_404 (by decide), List.forall_mem_cons.mpr ⟨np_S.mono (op := np_ist 2 14) (np_s_istore hX dL_press_407 (by decide)) nw_ist_le, List.forall_mem_cons.mpr ⟨np_s_aload_n hX dL_press_409 rfl, List.forall_mem_cons.mpr ⟨np_s_iload hX dL_press_410, List.forall_mem_cons.mpr ⟨np_S.mono (op := np_call 2 sp_L_units 3 302 1812 188083 1145773) (np_s_callS hX C_L_units dL_press_412 gw928 gw62 gw926 gw927 ⟨by decide, by decide, by decide⟩ (by decide) (by decide)) nq_call_le, List.forall_mem_cons.mpr ⟨np_S.mono (op := np_ist 2 15) (np_s_istore hX dL_press_415 (by decide)) nw_ist_le, List.forall_mem_cons.mpr ⟨np_s_aload_n hX dL_press_417 rfl, List.forall_mem_cons.mpr ⟨np_s_iconst hX dL_press_418 (by decide), List.forall_mem_cons.mpr ⟨np_s_iload hX dL_press_419, List.forall_mem_cons.mpr ⟨np_s_iload hX dL_press_421, List.forall_mem_cons.mpr ⟨np_s_iload hX dL_press_423, List.forall_mem_cons.mpr ⟨np_s_ior hX dL_press_425, List.forall_mem_cons.mpr ⟨np_s_iconst hX dL_press_426 (by decide), List.forall_mem_cons.mpr ⟨np_S.mono (op := np_call 5 sp_L_asks 6 1 6 188083 1145773) (np_s_callSW hX C_L_asks dL_press_427 gw931 gw62 gw929 gw930 ⟨by decide, by decide, by decide⟩ (by decide) (by decide)) nq_call_le, List.forall_mem_cons.mpr ⟨np_S.mono (op := np_ist 2 16) (np_s_istore hX dL_press_430 (by decide)) nw_ist_le, List.forall_mem_cons.mpr ⟨np_s_iload hX dL_press_432, List.forall_mem_cons.mpr ⟨np_S.mono (op := np_if (fun x => x ≤ 0) 441) (np_s_if_le hX dL_press_434 (by decide)) nq_if_le, List.forall_mem_cons.mpr ⟨np_s_iconst hX dL_press_437 (by decide), List.forall_mem_cons.mpr ⟨np_s_goto hX dL_press_438 (by decide), List.forall_mem_cons.mpr ⟨np_s_iconst hX dL_press_441 (by decide), List.forall_mem_cons.mpr ⟨np_S.mono (op := np_ist 2 17) (np_s_istore hX dL_press_442 (by decide)) nw_ist_le, List.forall_mem_cons.mpr ⟨np_s_aload_n hX dL_press_444 rfl, List.forall_mem_cons.mpr ⟨np_s_bipush hX dL_press_445 (by decide), List.forall_mem_cons.mpr ⟨np_s_bipush hX dL_press_447 (by decide), List.forall_mem_cons.mpr ⟨np_s_iload hX dL_press_449, List.forall_mem_cons.mpr ⟨np_s_imul hX dL_press_451, List.forall_mem_cons.mpr ⟨np_s_iadd hX dL_press_452, List.forall_mem_cons.mpr ⟨np_S.mono (op := np_ialdT .int) (np_s_iald hX dL_press_453) nw_ialdT_le, List.forall_mem_cons.mpr ⟨np_s_iconst hX dL_press_454 (by decide), List.forall_mem_cons.mpr ⟨np_S.mono (op := np_ic (fun x y => x = y) 469) (np_s_icmp_eq hX dL_press_455 (by decide)) nq_ic_le, List.forall_mem_cons.mpr ⟨np_s_iload hX dL_press_458, List.forall_mem_cons.mpr ⟨np_s_iload hX dL_press_460, List.forall_mem_cons.mpr ⟨np_s_iadd hX dL_press_462, List.forall_mem_cons.mpr ⟨np_s_sipush hX dL_press_463 (by decide), List.forall_mem_cons.mpr ⟨np_S.mono (op := np_ic (fun x y => x ≤ y) 484) (np_s_icmp_le hX dL_press_466 (by decide)) nq_ic_le, List.forall_mem_cons.mpr ⟨np_s_iload hX dL_press_469, List.forall_mem_cons.mpr ⟨np_s_ldc hX dL_press_471 gw1185, List.forall_mem_cons.mpr ⟨np_S.mono (op := np_icne 480) (np_s_icmp_ne hX dL_press_473 (by decide)) nq_icne_le, List.forall_mem_cons.mpr ⟨np_s_iconst hX dL_press_476 (by decide), List.forall_mem_cons.mpr ⟨np_s_goto hX dL_press_477 (by decide), List.forall_mem_cons.mpr ⟨np_s_iconst hX dL_press_480 (by decide), List.forall_mem_cons.mpr ⟨np_s_goto hX dL_press_481 (by decide), List.forall_mem_cons.mpr ⟨np_s_iload hX dL_press_484, List.forall_mem_cons.mpr ⟨np_s_iload hX dL_press_486, List.forall_mem_cons.mpr ⟨np_s_iload hX dL_press_488, List.forall_mem_cons.mpr ⟨np_s_iadd hX dL_press_490, List.forall_mem_cons.mpr ⟨np_S.mono (op := np_icne 511) (np_s_icmp_ne hX dL_press_491 (by decide)) nq_icne_le, List.forall_mem_cons.mpr ⟨np_s_aload_n hX dL_press_494 rfl, List.forall_mem_cons.mpr ⟨np_s_iload hX dL_press_495, List.forall_mem_cons.mpr ⟨np_s_iload hX dL_press_497, List.forall_mem_cons.mpr ⟨np_S.mono (op := np_callVX 11 3 sp_X11_unit 5 1 6 188083 1145773 []) (np_s_callVX hX C_X11_unit dL_press_499 (q := (RX11, TX11, 14)) rfl rfl gw1181 gw63 gw1178 gw1179 gw1180 ⟨by decide, by decide, by decide⟩ (by decide) (by decide) (fun _ h => nomatch h)) (nw_callVX_le2 (ci := 11) (n := 3) (sp := sp_X11_unit) (maxL := 5) (mc := 1) (ms := 6) (RC := 188083) (RS := 1145773) (hs := [])), List.forall_mem_cons.mpr ⟨np_s_iload hX dL_press_502, List.forall_mem_cons.mpr ⟨np_S.mono (op := np_icne 511) (np_s_icmp_ne hX dL_press_504 (by decide)) nq_icne_le, List.forall_mem_cons.mpr ⟨np_s_iconst hX dL_press_507 (by decide), List.forall_mem_cons.mpr ⟨np_s_goto hX dL_press_508 (by decide), List.forall_mem_cons.mpr ⟨np_s_iconst hX dL_press_511 (by decide), List.forall_mem_cons.mpr ⟨np_S.mono (op := np_ist 2 12) (np_s_istore hX dL_press_512 (by decide)) nw_ist_le, List.forall_mem_cons.mpr ⟨np_s_goto hX dL_press_514 (by decide), List.forall_mem_cons.mpr ⟨np_s_iload hX dL_press_517, List.forall_mem_cons.mpr ⟨np_s_bipush hX dL_press_519 (by decide), List.forall_mem_cons.mpr ⟨np_S.mono (op := np_icne 580) (np_s_icmp_ne hX dL_press_521 (by decide)) nq_icne_le, List.forall_mem_cons.mpr ⟨np_s_iload hX dL_press_524, List.forall_mem_cons.mpr ⟨np_s_bipush hX dL_press_526 (by decide), List.forall_mem_cons.mpr ⟨np_S.mono (op := np_ibn (fun x y => x - x / y * y)) (np_s_irem hX dL_press_528) nq_ibn_le, List.forall_mem_cons.mpr ⟨np_S.mono (op := np_ifne 717) (np_s_if_ne hX dL_press_529 (by decide)) nq_ifne_le, List.forall_mem_cons.mpr ⟨np_s_aload_n hX dL_press_532 rfl, List.forall_mem_cons.mpr ⟨np_s_iload hX dL_press_533, List.forall_mem_cons.mpr ⟨np_S.mono (op := np_callVX 11 2 sp_X11_close 4 1 6 188083 1145773 []) (np_s_callVX hX C_X11_close dL_press_535 (q := (RX11, TX11, 14)) rfl rfl gw1271 gw63 gw1268 gw1269 gw1270 ⟨by decide, by decide, by decide⟩ (by decide) (by decide) (fun _ h => nomatch h)) (nw_callVX_le2 (ci := 11) (n := 2) (sp := sp_X11_close) (maxL := 4) (mc := 1) (ms := 6) (RC := 188083) (RS := 1145773) (hs := [])), List.forall_mem_cons.mpr ⟨np_s_aload_n hX dL_press_538 rfl, List.forall_mem_cons.mpr ⟨np_s_bipush hX dL_press_539 (by decide), List.forall_mem_cons.mpr ⟨np_s_bipush hX dL_press_541 (by decide), List.forall_mem_cons.mpr ⟨np_s_iload hX dL_press_543, List.forall_mem_cons.mpr ⟨np_s_imul hX dL_press_545, List.forall_mem_cons.mpr ⟨np_s_iadd hX dL_press_546, List.forall_mem_cons.mpr ⟨np_S.mono (op := np_ialdT .int) (np_s_iald hX dL_press_547) nw_ialdT_le, List.forall_mem_cons.mpr ⟨np_S.mono (op := np_ifne 555) (np_s_if_ne hX dL_press_548 (by decide)) nq_ifne_le, List.forall_mem_cons.mpr ⟨np_s_iconst hX dL_press_551 (by decide), List.forall_mem_cons.mpr ⟨np_s_goto hX dL_press_552 (by decide), List.forall_mem_cons.mpr ⟨np_s_iconst hX dL_press_555 (by decide), List.forall_mem_cons.mpr ⟨np_S.mono (op := np_icne 563) (np_s_icmp_ne hX dL_press_556 (by decide)) nq_icne_le, List.forall_mem_cons.mpr ⟨np_s_iconst hX dL_press_559 (by decide), List.forall_mem_cons.mpr ⟨np_s_goto hX dL_press_560 (by decide), List.forall_mem_cons.mpr ⟨np_s_iconst hX dL_press_563 (by decide), List.forall_mem_cons.mpr ⟨np_S.mono (op := np_ist 2 12) (np_s_istore hX dL_press_564 (by decide)) nw_ist_le, List.forall_mem_cons.mpr ⟨np_s_aload_n hX dL_press_566 rfl, List.forall_mem_cons.mpr ⟨np_s_bipush hX dL_press_567 (by decide), List.forall_mem_cons.mpr ⟨np_s_bipush hX dL_press_569 (by decide), List.forall_mem_cons.mpr ⟨np_s_iload hX dL_press_571, List.forall_mem_cons.mpr ⟨np_s_imul hX dL_press_573, List.forall_mem_cons.mpr ⟨np_s_iadd hX dL_press_574, List.forall_mem_cons.mpr ⟨np_s_iconst hX dL_press_575 (by decide), List.forall_mem_cons.mpr ⟨np_S.mono (op := np_iastT .int) (np_s_iast hX dL_press_576) nw_iastT_le, List.forall_mem_cons.mpr ⟨np_s_goto hX dL_press_577 (by decide), List.forall_mem_cons.mpr ⟨np_s_iload hX dL_press_580, List.forall_mem_cons.mpr ⟨np_s_bipush hX dL_press_582 (by decide), List.forall_mem_cons.mpr ⟨np_S.mono (op := np_icne 684) (np_s_icmp_ne hX dL_press_584 (by decide)) nq_icne_le, List.forall_mem_cons.mpr ⟨np_s_aload_n hX dL_press_587 rfl, List.forall_mem_cons.mpr ⟨np_s_iconst hX dL_press_588 (by decide), List.forall_mem_cons.mpr ⟨np_S.mono (op := np_ialdT .int) (np_s_iald hX dL_press_589) nw_ialdT_le, List.forall_mem_cons.mpr ⟨np_s_bipush hX dL_press_590 (by decide), List.forall_mem_cons.mpr ⟨np_S.mono (op := np_ic (fun x y => y ≤ x) 717) (np_s_icmp_ge hX dL_press_592 (by decide)) nq_ic_le, List.forall_mem_cons.mpr ⟨np_s_aload hX dL_press_595, List.forall_mem_cons.mpr ⟨np_s_aload_n hX dL_press_597 rfl, List.forall_mem_cons.mpr ⟨np_s_iconst hX dL_press_598 (by decide), List.forall_mem_cons.mpr ⟨np_S.mono (op := np_ialdT .int) (np_s_iald hX dL_press_599) nw_ialdT_le, List.forall_mem_cons.mpr ⟨np_s_iload hX dL_press_600, List.forall_mem_cons.mpr ⟨np_s_iload hX dL_press_602, List.forall_mem_cons.mpr ⟨np_s_iconst hX dL_press_604 (by decide), List.forall_mem_cons.mpr ⟨np_S.mono (op := np_ibn (fun x y => x - x / y * y)) (np_s_irem hX dL_press_605) nq_ibn_le, List.forall_mem_cons.mpr ⟨np_s_iconst hX dL_press_606 (by decide), List.forall_mem_cons.mpr ⟨np_s_ishl hX dL_press_607, List.forall_mem_cons.mpr ⟨np_s_ior hX dL_press_608, List.forall_mem_cons.mpr ⟨np_s_iload hX dL_press_609, List.forall_mem_cons.mpr ⟨np_s_iconst hX dL_press_611 (by decide), List.forall_mem_cons.mpr ⟨np_S.mono (op := np_ibn (fun x y => x / y)) (np_s_idiv hX dL_press_612) nq_ibn_le, List.forall_mem_cons.mpr ⟨np_s_bipush hX dL_press_613 (by decide), List.forall_mem_cons.mpr ⟨np_S.mono (op := np_ibn (fun x y => x - x / y * y)) (np_s_irem hX dL_press_615) nq_ibn_le, List.forall_mem_cons.mpr ⟨np_s_iconst hX dL_press_616 (by decide), List.forall_mem_cons.mpr ⟨np_s_ishl hX dL_press_617, List.forall_mem_cons.mpr ⟨np_s_ior hX dL_press_618, List.forall_mem_cons.mpr ⟨np_s_iconst hX dL_press_619 (by decide), List.forall_mem_cons.mpr ⟨np_s_iload hX dL_press_620, List.forall_mem_cons.mpr ⟨np_s_bipush hX dL_press_622 (by decide), List.forall_mem_cons.mpr ⟨np_S.mono (op := np_ibn (fun x y => x / y)) (np_s_idiv hX dL_press_624) nq_ibn_le, List.forall_mem_cons.mpr ⟨np_s_iconst hX dL_press_625 (by decide), List.forall_mem_cons.mpr ⟨np_S.mono (op := np_ibn (fun x y => x - x / y * y)) (np_s_irem hX dL_press_626) nq_ibn_le, List.forall_mem_cons.mpr ⟨np_s_iadd hX dL_press_627, List.forall_mem_cons.mpr ⟨np_s_bipush hX dL_press_628 (by decide), List.forall_mem_cons.mpr ⟨np_s_ishl hX dL_press_630, List.forall_mem_cons.mpr ⟨np_s_ior hX dL_press_631, List.forall_mem_cons.mpr ⟨np_S.mono (op := np_iastT .int) (np_s_iast hX dL_press_632) nw_iastT_le, List.forall_mem_cons.mpr ⟨np_s_aload_n hX dL_press_633 rfl, List.forall_mem_cons.mpr ⟨np_s_iconst hX dL_press_634 (by decide), List.forall_mem_cons.mpr ⟨np_S.mono (op := np_dup2) (np_s_dup2 hX dL_press_635) nq_dup2_le, List.forall_mem_cons.mpr ⟨np_S.mono (op := np_ialdT .int) (np_s_iald hX dL_press_636) nw_ialdT_le, List.forall_mem_cons.mpr ⟨np_s_iconst hX dL_press_637 (by decide), List.forall_mem_cons.mpr ⟨np_s_iadd hX dL_press_638, List.forall_mem_cons.mpr ⟨np_S.mono (op := np_iastT .int) (np_s_iast hX dL_press_639) nw_iastT_le, List.forall_mem_cons.mpr ⟨np_s_aload_n hX dL_press_640 rfl, List.forall_mem_cons.mpr ⟨np_s_iload hX dL_press_641, List.forall_mem_cons.mpr ⟨np_s_iload hX dL_press_643, List.forall_mem_cons.mpr ⟨np_s_iconst hX dL_press_645 (by decide), List.forall_mem_cons.mpr ⟨np_S.mono (op := np_ibn (fun x y => x - x / y * y)) (np_s_irem hX dL_press_646) nq_ibn_le, List.forall_mem_cons.mpr ⟨np_s_iload hX dL_press_647, List.forall_mem_cons.mpr ⟨np_s_iconst hX dL_press_649 (by decide), List.forall_mem_cons.mpr ⟨np_S.mono (op := np_ibn (fun x y => x / y)) (np_s_idiv hX dL_press_650) nq_ibn_le, List.forall_mem_cons.mpr ⟨np_s_bipush hX dL_press_651 (by decide), List.forall_mem_cons.mpr ⟨np_S.mono (op := np_ibn (fun x y => x - x / y * y)) (np_s_irem hX dL_press_653) nq_ibn_le, List.forall_mem_cons.mpr ⟨np_s_iconst hX dL_press_654 (by decide), List.forall_mem_cons.mpr ⟨np_s_iload hX dL_press_655, List.forall_mem_cons.mpr ⟨np_s_bipush hX dL_press_657 (by decide), List.forall_mem_cons.mpr ⟨np_S.mono (op := np_ibn (fun x y => x / y)) (np_s_idiv hX dL_press_659) nq_ibn_le, List.forall_mem_cons.mpr ⟨np_s_iconst hX dL_press_660 (by decide), List.forall_mem_cons.mpr ⟨np_S.mono (op := np_ibn (fun x y => x - x / y * y)) (np_s_irem hX dL_press_661) nq_ibn_le, List.forall_mem_cons.mpr ⟨np_s_iadd hX dL_press_662, List.forall_mem_cons.mpr ⟨np_S.mono (op := np_callVX 11 5 sp_X11_column 7 1 6 188083 1145773 []) (np_s_callVX hX C_X11_column dL_press_663 (q := (RX11, TX11, 14)) rfl rfl gw1275 gw63 gw1272 gw1273 gw1274 ⟨by decide, by decide, by decide⟩ (by decide) (by decide) (fun _ h => nomatch h)) (nw_callVX_le2 (ci := 11) (n := 5) (sp := sp_X11_column) (maxL := 7) (mc := 1) (ms := 6) (RC := 188083) (RS := 1145773) (hs := [])), List.forall_mem_cons.mpr ⟨np_s_aload_n hX dL_press_666 rfl, List.forall_mem_cons.mpr ⟨np_s_iconst hX dL_press_667 (by decide), List.forall_mem_cons.mpr ⟨np_S.mono (op := np_ialdT .int) (np_s_iald hX dL_press_668) nw_ialdT_le, List.forall_mem_cons.mpr ⟨np_s_iconst hX dL_press_669 (by decide), List.forall_mem_cons.mpr ⟨np_s_isub hX dL_press_670, List.forall_mem_cons.mpr ⟨np_S.mono (op := np_icne 678) (np_s_icmp_ne hX dL_press_671 (by decide)) nq_icne_le, List.forall_mem_cons.mpr ⟨np_s_iconst hX dL_press_674 (by decide), List.forall_mem_cons.mpr ⟨np_s_goto hX dL_press_675 (by decide), List.forall_mem_cons.mpr ⟨np_s_iconst hX dL_press_678 (by decide), List.forall_mem_cons.mpr ⟨np_S.mono (op := np_ist 2 12) (np_s_istore hX dL_press_679 (by decide)) nw_ist_le, List.forall_mem_cons.mpr ⟨np_s_goto hX dL_press_681 (by decide), List.forall_mem_cons.mpr ⟨np_s_iload hX dL_press_684, List.forall_mem_cons.mpr ⟨np_s_bipush hX dL_press_686 (by decide), List.forall_mem_cons.mpr ⟨np_S.mono (op := np_icne 705) (np_s_icmp_ne hX dL_press_688 (by decide)) nq_icne_le, List.forall_mem_cons.mpr ⟨np_s_aload_n hX dL_press_691 rfl, List.forall_mem_cons.mpr ⟨np_s_iload hX dL_press_692, List.forall_mem_cons.mpr ⟨np_s_iload hX dL_press_694, List.forall_mem_cons.mpr ⟨np_s_aload hX dL_press_696, List.forall_mem_cons.mpr ⟨np_s_aload_n hX dL_press_698 rfl, List.forall_mem_cons.mpr ⟨np_S.mono (op := np_call 5 sp_L_upgrades 17 106 640 188083 1145773) (np_s_callS hX C_L_upgrades dL_press_699 gw1286 gw62 gw1284 gw1285 ⟨by decide, by decide, by decide⟩ (by decide) (by decide)) nq_call_le, List.forall_mem_cons.mpr ⟨np_s_goto hX dL_press_702 (by decide), List.forall_mem_cons.mpr ⟨np_s_aload_n hX dL_press_705 rfl, List.forall_mem_cons.mpr ⟨np_s_iload hX dL_press_706, List.forall_mem_cons.mpr ⟨np_s_bipush hX dL_press_708 (by decide), List.forall_mem_cons.mpr ⟨np_S.mono (op := np_ibn (fun x y => x - x / y * y)) (np_s_irem hX dL_press_710) nq_ibn_le, List.forall_mem_cons.mpr ⟨np_s_aload_n hX dL_press_711 rfl, List.forall_mem_cons.mpr ⟨np_S.mono (op := np_call 3 sp_L_areKeys 13 2510 15060 188083 1145773) (np_s_callS hX C_L_areKeys dL_press_712 gw1452 gw62 gw1450 gw1451 ⟨by decide, by decide, by decide⟩ (by decide) (by decide)) nq_call_le, List.forall_mem_cons.mpr ⟨np_S.mono (op := np_ist 2 12) (np_s_istore hX dL_press_715 (by decide)) nw_ist_le, List.forall_mem_cons.mpr ⟨np_s_iload hX dL_press_717, List.forall_mem_cons.mpr ⟨np_S.mono (op := np_if (fun x => x = 0) 741) (np_s_if_eq hX dL_press_719 (by decide)) nq_if_le, List.forall_mem_cons.mpr ⟨np_s_iload hX dL_press_722, List.forall_mem_cons.mpr ⟨np_s_bipush hX dL_press_724 (by decide), List.forall_mem_cons.mpr ⟨np_S.mono (op := np_ibn (fun x y => x - x / y * y)) (np_s_irem hX dL_press_726) nq_ibn_le, List.forall_mem_cons.mpr ⟨np_s_iconst hX dL_press_727 (by decide), List.forall_mem_cons.mpr ⟨np_S.mono (op := np_icne 743) (np_s_icmp_ne hX dL_press_728 (by decide)) nq_icne_le, List.forall_mem_cons.mpr ⟨np_s_aload_n hX dL_press_731 rfl, List.forall_mem_cons.mpr ⟨np_s_aload hX dL_press_732, List.forall_mem_cons.mpr ⟨np_s_aload_n hX dL_press_734 rfl, List.forall_mem_cons.mpr ⟨np_S.mono (op := np_call 3 sp_L_areColumns 15 777 4662 188083 1145773) (np_s_callS hX C_L_areColumns dL_press_735 gw1496 gw62 gw1494 gw1495 ⟨by decide, by decide, by decide⟩ (by decide) (by decide)) nq_call_le, List.forall_mem_cons.mpr ⟨np_S.mono (op := np_ifne 743) (np_s_if_ne hX dL_press_738 (by decide)) nq_ifne_le, List.forall_mem_cons.mpr ⟨np_s_iconst hX dL_press_741 (by decide), List.forall_mem_cons.mpr ⟨np_S.mono (op := np_ret X.2.2.1) (np_s_ret hX dL_press_742) (nq_ret_le hR), List.forall_mem_cons.mpr ⟨np_S.mono (op := np_iinc 7 1) (np_s_iinc hX dL_press_743 (by decide)) nw_iinc_le, List.forall_mem_cons.mpr ⟨np_s_goto hX dL_press_746 (by decide), List.forall_mem_cons.mpr ⟨np_s_aload_n hX dL_press_749 rfl, List.forall_mem_cons.mpr ⟨np_s_aload hX dL_press_750, List.forall_mem_cons.mpr ⟨np_s_aload_n hX dL_press_752 rfl, List.forall_mem_cons.mpr ⟨np_S.mono (op := np_call 3 sp_L_areColumns 15 777 4662 188083 1145773) (np_s_callS hX C_L_areColumns dL_press_753 gw1496 gw62 gw1494 gw1495 ⟨by decide, by decide, by decide⟩ (by decide) (by decide)) nq_call_le, List.forall_mem_cons.mpr ⟨np_S.mono (op := np_if (fun x => x = 0) 781) (np_s_if_eq hX dL_press_756 (by decide)) nq_if_le, List.forall_mem_cons.mpr ⟨np_s_aload_n hX dL_press_759 rfl, List.forall_mem_cons.mpr ⟨np_s_iconst hX dL_press_760 (by decide), List.forall_mem_cons.mpr ⟨np_s_aload_n hX dL_press_761 rfl, List.forall_mem_cons.mpr ⟨np_S.mono (op := np_call 3 sp_L_areKeys 13 2510 15060 188083 1145773) (np_s_callS hX C_L_areKeys dL_press_762 gw1452 gw62 gw1450 gw1451 ⟨by decide, by decide, by decide⟩ (by decide) (by decide)) nq_call_le, List.forall_mem_cons.mpr ⟨np_S.mono (op := np_if (fun x => x = 0) 781) (np_s_if_eq hX dL_press_765 (by decide)) nq_if_le, List.forall_mem_cons.mpr ⟨np_s_aload_n hX dL_press_768 rfl, List.forall_mem_cons.mpr ⟨np_s_iconst hX dL_press_769 (by decide), List.forall_mem_cons.mpr ⟨np_s_aload_n hX dL_press_770 rfl, List.forall_mem_cons.mpr ⟨np_S.mono (op := np_call 3 sp_L_areKeys 13 2510 15060 188083 1145773) (np_s_callS hX C_L_areKeys dL_press_771 gw1452 gw62 gw1450 gw1451 ⟨by decide, by decide, by decide⟩ (by decide) (by decide)) nq_call_le, List.forall_mem_cons.mpr ⟨np_S.mono (op := np_if (fun x => x = 0) 781) (np_s_if_eq hX dL_press_774 (by decide)) nq_if_le, List.forall_mem_cons.mpr ⟨np_s_iconst hX dL_press_777 (by decide), List.forall_mem_cons.mpr ⟨np_s_goto hX dL_press_778 (by decide), List.forall_mem_cons.mpr ⟨np_s_iconst hX dL_press_781 (by decide), List.forall_mem_cons.mpr ⟨np_S.mono (op := np_ret X.2.2.1) (np_s_ret hX dL_press_782) (nq_ret_le hR), fun _ h => nomatch h⟩⟩⟩⟩⟩⟩⟩⟩⟩⟩⟩⟩⟩⟩⟩⟩⟩⟩⟩⟩⟩⟩⟩⟩⟩⟩⟩⟩⟩⟩⟩⟩⟩⟩⟩⟩⟩⟩⟩⟩⟩⟩⟩⟩⟩⟩⟩⟩⟩⟩⟩⟩⟩⟩⟩⟩⟩⟩⟩⟩⟩⟩⟩⟩⟩⟩⟩⟩⟩⟩⟩⟩⟩⟩⟩⟩⟩⟩⟩⟩⟩⟩⟩⟩⟩⟩⟩⟩⟩⟩⟩⟩⟩⟩⟩⟩⟩⟩⟩⟩⟩⟩⟩⟩⟩⟩⟩⟩⟩⟩⟩⟩⟩⟩⟩⟩⟩⟩⟩⟩⟩⟩⟩⟩⟩⟩⟩⟩⟩⟩⟩⟩⟩⟩⟩⟩⟩⟩⟩⟩⟩⟩⟩⟩⟩⟩⟩⟩⟩⟩⟩⟩⟩⟩⟩⟩⟩⟩⟩⟩⟩⟩⟩⟩⟩⟩⟩⟩⟩⟩⟩⟩⟩⟩⟩⟩⟩⟩⟩⟩⟩⟩⟩⟩⟩⟩⟩⟩⟩⟩⟩⟩⟩⟩⟩⟩⟩⟩⟩⟩⟩⟩⟩⟩⟩⟩⟩⟩⟩⟩⟩⟩⟩⟩⟩⟩⟩⟩⟩⟩⟩⟩⟩⟩⟩⟩⟩⟩⟩⟩⟩⟩⟩⟩⟩⟩⟩⟩⟩⟩⟩⟩⟩⟩⟩⟩⟩⟩⟩⟩⟩⟩⟩⟩⟩⟩⟩⟩⟩⟩⟩⟩⟩⟩⟩⟩⟩⟩⟩⟩⟩⟩⟩⟩⟩⟩⟩⟩⟩⟩⟩⟩⟩⟩⟩⟩⟩⟩⟩⟩⟩⟩⟩⟩⟩⟩⟩⟩⟩⟩⟩⟩⟩⟩⟩⟩⟩⟩⟩⟩⟩⟩⟩⟩⟩⟩⟩⟩⟩⟩⟩⟩⟩⟩⟩⟩⟩⟩⟩⟩⟩⟩⟩⟩⟩⟩⟩⟩⟩⟩⟩⟩⟩⟩⟩⟩⟩⟩⟩⟩⟩⟩⟩⟩⟩⟩⟩⟩⟩⟩⟩⟩⟩⟩⟩⟩⟩⟩⟩⟩⟩⟩⟩⟩⟩⟩⟩⟩⟩⟩⟩⟩⟩⟩⟩⟩⟩⟩⟩⟩⟩⟩⟩⟩⟩⟩⟩⟩⟩⟩⟩⟩⟩⟩⟩⟩⟩⟩⟩⟩⟩⟩⟩⟩⟩⟩⟩⟩⟩⟩⟩⟩⟩⟩⟩⟩⟩⟩⟩⟩⟩⟩⟩⟩⟩⟩⟩⟩⟩⟩⟩⟩⟩⟩⟩⟩⟩⟩⟩⟩⟩⟩⟩⟩⟩⟩⟩⟩⟩
noncomputable def m_L_press_j717 (Ls : Nat) (xs : Nat → Int32) (k34 : pw_S → Int32 → Int32 → pw_R Int32) (k749 : pw_S → pw_R Int32) (S : pw_S) (v1 : Int32) (v7 : Int32) (v12 : Int32) : pw_R Int32 :=
 if v12 = 0 then
 (some (S, 0))
 else
 (if (v7 - v7 / 6 * 6) = 5 then
 (pw_b (m_L_areColumns S 0 37 0 36 0) fun S1 r4 =>
 if r4 = 0 then
 (some (S1, 0))
 else
 (pw_l (v7 + 1 : Int32) fun z6 =>
 k34 S1 v1 z6))
 else
 (pw_l (v7 + 1 : Int32) fun z7 =>
 k34 S v1 z7))
set_option maxRecDepth 100000 in
set_option maxHeartbeats 8000000 in
theorem J_L_press_717 {X : np_Ctx} (hX : np_ok RL cL_press 18 12 334 188083 1145773 .ireturn X) {Ls : Nat} {xs : Nat → Int32} (hf : np_lf Ls xs X) {n dc ds : Nat} (hR : ∀ st w ce sl, (fun st _ ce sl => ce ≤ 188083 ∧ sl ≤ 1145773 ∧ ∃ r, st = [.int r] ∧ narrow .boolean (.int r) = .int r ∧ r = 1) st w ce sl → X.2.2.1 st w ce sl) {k34 : pw_S → Int32 → Int32 → pw_R Int32} {k749 : pw_S → pw_R Int32} (hk34 : ∀ (S : pw_S) (v1 : Int32) (v7 : Int32) (f : Nat → Option np_E) (ce sl : Nat), ce + dc ≤ 188083 → sl + ds ≤ 1145773 → pw_W 0 (n, f) S → pw_p (k34 S v1 v7) (fun _ r => r = 1) → np_G X 34 [(0, .ref 0), (1, .int v1), (2, .ref (pw_pl 61 0)), (3, .ref (pw_pl 36 0)), (4, .ref (pw_pl 37 0)), (5, .ref (pw_pl 38 0)), (6, .ref (pw_pl 39 0)), (7, .int v7)] [] (n, f) ce sl) (hk749 : ∀ (S : pw_S) (f : Nat → Option np_E) (ce sl : Nat), ce + dc ≤ 188083 → sl + ds ≤ 1145773 → pw_W 0 (n, f) S → pw_p (k749 S) (fun _ r => r = 1) → np_G X 749 [(2, .ref (pw_pl 61 0)), (3, .ref (pw_pl 36 0)), (4, .ref (pw_pl 37 0))] [] (n, f) ce sl) (S : pw_S) (v1 : Int32) (v7 : Int32) (v12 : Int32) (f : Nat → Option np_E) (ce sl : Nat) (hc : ce + 777 + dc ≤ 188083) (hs : sl + 4662 + ds ≤ 1145773) (hW : pw_W 0 (n, f) S) (h : pw_p (m_L_press_j717 Ls xs k34 k749 S v1 v7 v12) (fun _ r => r = 1)) : np_G X 717 [(0, .ref 0), (1, .int v1), (2, .ref (pw_pl 61 0)), (3, .ref (pw_pl 36 0)), (4, .ref (pw_pl 37 0)), (5, .ref (pw_pl 38 0)), (6, .ref (pw_pl 39 0)), (7, .int v7), (12, .int v12)] [] (n, f) ce sl := by
  unfold m_L_press_j717 at h
  refine np_soundW (so_L_press hX hf hR) [34, 107, 230, 407, 442, 556, 717, 749] 400 717 _ _ _ _ _ ?_
  conv => whnf
  refine pw_br h (fun _ h => ?_) (fun _ h => ?_)
  · conv => whnf
    exact ⟨(by omega), (by omega), _, rfl, by decide, pw_ps h⟩
  · conv => whnf
    refine pw_br h (fun _ h => ?_) (fun _ h => ?_)
    · conv => whnf
      refine np_chk_i (pw_and rfl (pw_and rfl (pw_and rfl ((pw_and (pw_le (by omega)) (pw_le (by omega))))))) ?_
      conv => whnf
      refine ⟨0, S, 0, 37, 0, 36, 0, rfl, rfl, rfl, rfl, rfl, rfl, hW, pw_bd h (fun S1 r4 h f2 hW3 => ?_)⟩
      conv => whnf
      refine pw_br h (fun _ h => ?_) (fun _ h => ?_)
      · conv => whnf
        exact ⟨(by omega), (by omega), _, rfl, by decide, pw_ps h⟩
      · conv => whnf
        refine pw_st h (fun z6 h => ?_)
        conv => whnf
        exact np_gl (hk34 S1 v1 z6 f2 _ _ (by omega) (by omega) hW3 h) ⟨rfl, rfl, rfl, rfl, rfl, rfl, rfl, rfl, trivial⟩
    · conv => whnf
      refine pw_st h (fun z7 h => ?_)
      conv => whnf
      exact np_gl (hk34 S v1 z7 f _ _ (by omega) (by omega) hW h) ⟨rfl, rfl, rfl, rfl, rfl, rfl, rfl, rfl, trivial⟩
noncomputable def m_L_press_j556 (Ls : Nat) (xs : Nat → Int32) (k34 : pw_S → Int32 → Int32 → pw_R Int32) (k749 : pw_S → pw_R Int32) (S : pw_S) (v1 : Int32) (v7 : Int32) (v11 : Int32) (s0 : Int32) (s1 : Int32) : pw_R Int32 :=
 if s0 = s1 then
 (pw_l (1 : Int32) fun z8 =>
 pw_c (np_inb (8 + (6 * v11)) 18) <|
 pw_l (pw_up S 36 0 (upd (S 36 0) ((8 + (6 * v11)) : Int32).toNatClampNeg 1)) fun S9 =>
 m_L_press_j717 Ls xs (fun S14 u12 u13 => k34 S14 u12 u13) (fun S21 => k749 S21) S9 v1 v7 z8)
 else
 (pw_l (0 : Int32) fun z28 =>
 pw_c (np_inb (8 + (6 * v11)) 18) <|
 pw_l (pw_up S 36 0 (upd (S 36 0) ((8 + (6 * v11)) : Int32).toNatClampNeg 1)) fun S29 =>
 m_L_press_j717 Ls xs (fun S34 u32 u33 => k34 S34 u32 u33) (fun S41 => k749 S41) S29 v1 v7 z28)
set_option maxRecDepth 100000 in
set_option maxHeartbeats 8000000 in
theorem J_L_press_556 {X : np_Ctx} (hX : np_ok RL cL_press 18 12 334 188083 1145773 .ireturn X) {Ls : Nat} {xs : Nat → Int32} (hf : np_lf Ls xs X) {n dc ds : Nat} (hR : ∀ st w ce sl, (fun st _ ce sl => ce ≤ 188083 ∧ sl ≤ 1145773 ∧ ∃ r, st = [.int r] ∧ narrow .boolean (.int r) = .int r ∧ r = 1) st w ce sl → X.2.2.1 st w ce sl) {k34 : pw_S → Int32 → Int32 → pw_R Int32} {k749 : pw_S → pw_R Int32} (hk34 : ∀ (S : pw_S) (v1 : Int32) (v7 : Int32) (f : Nat → Option np_E) (ce sl : Nat), ce + dc ≤ 188083 → sl + ds ≤ 1145773 → pw_W 0 (n, f) S → pw_p (k34 S v1 v7) (fun _ r => r = 1) → np_G X 34 [(0, .ref 0), (1, .int v1), (2, .ref (pw_pl 61 0)), (3, .ref (pw_pl 36 0)), (4, .ref (pw_pl 37 0)), (5, .ref (pw_pl 38 0)), (6, .ref (pw_pl 39 0)), (7, .int v7)] [] (n, f) ce sl) (hk749 : ∀ (S : pw_S) (f : Nat → Option np_E) (ce sl : Nat), ce + dc ≤ 188083 → sl + ds ≤ 1145773 → pw_W 0 (n, f) S → pw_p (k749 S) (fun _ r => r = 1) → np_G X 749 [(2, .ref (pw_pl 61 0)), (3, .ref (pw_pl 36 0)), (4, .ref (pw_pl 37 0))] [] (n, f) ce sl) (S : pw_S) (v1 : Int32) (v7 : Int32) (v11 : Int32) (s0 : Int32) (s1 : Int32) (f : Nat → Option np_E) (ce sl : Nat) (hc : ce + 777 + dc ≤ 188083) (hs : sl + 4662 + ds ≤ 1145773) (hW : pw_W 0 (n, f) S) (h : pw_p (m_L_press_j556 Ls xs k34 k749 S v1 v7 v11 s0 s1) (fun _ r => r = 1)) : np_G X 556 [(0, .ref 0), (1, .int v1), (2, .ref (pw_pl 61 0)), (3, .ref (pw_pl 36 0)), (4, .ref (pw_pl 37 0)), (5, .ref (pw_pl 38 0)), (6, .ref (pw_pl 39 0)), (7, .int v7), (11, .int v11)] [.int s1, .int s0] (n, f) ce sl := by
  unfold m_L_press_j556 at h
  refine np_soundW (so_L_press hX hf hR) [34, 107, 230, 407, 442, 556, 717, 749] 400 556 _ _ _ _ _ ?_
  conv => whnf
  refine pw_br h (fun _ h => ?_) (fun _ h => ?_)
  · conv => whnf
    refine pw_st h (fun z8 h => ?_)
    conv => whnf
    refine np_rd_i (hW.g rfl) ?_
    conv => whnf
    refine pw_ck h (fun _ h => ?_)
    conv => whnf
    refine pw_wr (a := 36) (i := 0) (d := upd (S 36 0) ((8 + (6 * v11)) : Int32).toNatClampNeg 1) hW rfl rfl h (fun S9 f10 hW11 h => ?_)
    conv => whnf
    refine np_gl (J_L_press_717 (dc := dc) (ds := ds) hX hf hR (fun S14 u12 u13 f15 ce17 sl18 hc19 hs20 hW16 h => np_gl (hk34 S14 u12 u13 f15 _ _ (by omega) (by omega) hW16 h) ⟨rfl, rfl, rfl, rfl, rfl, rfl, rfl, rfl, trivial⟩) (fun S21 f22 ce24 sl25 hc26 hs27 hW23 h => np_gl (hk749 S21 f22 _ _ (by omega) (by omega) hW23 h) ⟨rfl, rfl, rfl, trivial⟩) S9 v1 v7 z8 f10 _ _ (by omega) (by omega) hW11 h) ?_
    exact ⟨rfl, rfl, rfl, rfl, rfl, rfl, rfl, rfl, rfl, trivial⟩
  · conv => whnf
    refine pw_st h (fun z28 h => ?_)
    conv => whnf
    refine np_rd_i (hW.g rfl) ?_
    conv => whnf
    refine pw_ck h (fun _ h => ?_)
    conv => whnf
    refine pw_wr (a := 36) (i := 0) (d := upd (S 36 0) ((8 + (6 * v11)) : Int32).toNatClampNeg 1) hW rfl rfl h (fun S29 f30 hW31 h => ?_)
    conv => whnf
    refine np_gl (J_L_press_717 (dc := dc) (ds := ds) hX hf hR (fun S34 u32 u33 f35 ce37 sl38 hc39 hs40 hW36 h => np_gl (hk34 S34 u32 u33 f35 _ _ (by omega) (by omega) hW36 h) ⟨rfl, rfl, rfl, rfl, rfl, rfl, rfl, rfl, trivial⟩) (fun S41 f42 ce44 sl45 hc46 hs47 hW43 h => np_gl (hk749 S41 f42 _ _ (by omega) (by omega) hW43 h) ⟨rfl, rfl, rfl, trivial⟩) S29 v1 v7 z28 f30 _ _ (by omega) (by omega) hW31 h) ?_
    exact ⟨rfl, rfl, rfl, rfl, rfl, rfl, rfl, rfl, rfl, trivial⟩
noncomputable def m_L_press_j442 (Ls : Nat) (xs : Nat → Int32) (k34 : pw_S → Int32 → Int32 → pw_R Int32) (k749 : pw_S → pw_R Int32) (S : pw_S) (v1 : Int32) (v7 : Int32) (v11 : Int32) (v13 : Int32) (v15 : Int32) (v16 : Int32) (s0 : Int32) : pw_R Int32 :=
 pw_l (s0 : Int32) fun z48 =>
 pw_c (np_inb (8 + (6 * v11)) 18) <|
 if (S 36 0 ((8 + (6 * v11)) : Int32).toNatClampNeg) = 1 then
 (if v16 = (-70008) then
 (pw_l (1 : Int32) fun z49 =>
 m_L_press_j717 Ls xs (fun S52 u50 u51 => k34 S52 u50 u51) (fun S59 => k749 S59) S v1 v7 z49)
 else
 (pw_l (0 : Int32) fun z66 =>
 m_L_press_j717 Ls xs (fun S69 u67 u68 => k34 S69 u67 u68) (fun S76 => k749 S76) S v1 v7 z66))
 else
 (if (v15 + z48) ≤ 300 then
 (if v16 = (v15 + z48) then
 (pw_b (m_X11_unit S 0 v11 v15) fun S83 r86 =>
 pw_e r86 (fun r88 =>
 (if r88 = v13 then
 (pw_l (1 : Int32) fun z90 =>
 m_L_press_j717 Ls xs (fun S93 u91 u92 => k34 S93 u91 u92) (fun S100 => k749 S100) S83 v1 v7 z90)
 else
 (pw_l (0 : Int32) fun z107 =>
 m_L_press_j717 Ls xs (fun S110 u108 u109 => k34 S110 u108 u109) (fun S117 => k749 S117) S83 v1 v7 z107))) (fun _ => none))
 else
 (pw_l (0 : Int32) fun z124 =>
 m_L_press_j717 Ls xs (fun S127 u125 u126 => k34 S127 u125 u126) (fun S134 => k749 S134) S v1 v7 z124))
 else
 (if v16 = (-70008) then
 (pw_l (1 : Int32) fun z141 =>
 m_L_press_j717 Ls xs (fun S144 u142 u143 => k34 S144 u142 u143) (fun S151 => k749 S151) S v1 v7 z141)
 else
 (pw_l (0 : Int32) fun z158 =>
 m_L_press_j717 Ls xs (fun S161 u159 u160 => k34 S161 u159 u160) (fun S168 => k749 S168) S v1 v7 z158)))
set_option maxRecDepth 100000 in
set_option maxHeartbeats 8000000 in
theorem J_L_press_442 {X : np_Ctx} (hX : np_ok RL cL_press 18 12 334 188083 1145773 .ireturn X) {Ls : Nat} {xs : Nat → Int32} (hf : np_lf Ls xs X) {n dc ds : Nat} (hR : ∀ st w ce sl, (fun st _ ce sl => ce ≤ 188083 ∧ sl ≤ 1145773 ∧ ∃ r, st = [.int r] ∧ narrow .boolean (.int r) = .int r ∧ r = 1) st w ce sl → X.2.2.1 st w ce sl) {k34 : pw_S → Int32 → Int32 → pw_R Int32} {k749 : pw_S → pw_R Int32} (hk34 : ∀ (S : pw_S) (v1 : Int32) (v7 : Int32) (f : Nat → Option np_E) (ce sl : Nat), ce + dc ≤ 188083 → sl + ds ≤ 1145773 → pw_W 0 (n, f) S → pw_p (k34 S v1 v7) (fun _ r => r = 1) → np_G X 34 [(0, .ref 0), (1, .int v1), (2, .ref (pw_pl 61 0)), (3, .ref (pw_pl 36 0)), (4, .ref (pw_pl 37 0)), (5, .ref (pw_pl 38 0)), (6, .ref (pw_pl 39 0)), (7, .int v7)] [] (n, f) ce sl) (hk749 : ∀ (S : pw_S) (f : Nat → Option np_E) (ce sl : Nat), ce + dc ≤ 188083 → sl + ds ≤ 1145773 → pw_W 0 (n, f) S → pw_p (k749 S) (fun _ r => r = 1) → np_G X 749 [(2, .ref (pw_pl 61 0)), (3, .ref (pw_pl 36 0)), (4, .ref (pw_pl 37 0))] [] (n, f) ce sl) (S : pw_S) (v1 : Int32) (v7 : Int32) (v11 : Int32) (v13 : Int32) (v15 : Int32) (v16 : Int32) (s0 : Int32) (f : Nat → Option np_E) (ce sl : Nat) (hc : ce + 778 + dc ≤ 188083) (hs : sl + 4668 + ds ≤ 1145773) (hW : pw_W 0 (n, f) S) (h : pw_p (m_L_press_j442 Ls xs k34 k749 S v1 v7 v11 v13 v15 v16 s0) (fun _ r => r = 1)) : np_G X 442 [(0, .ref 0), (1, .int v1), (2, .ref (pw_pl 61 0)), (3, .ref (pw_pl 36 0)), (4, .ref (pw_pl 37 0)), (5, .ref (pw_pl 38 0)), (6, .ref (pw_pl 39 0)), (7, .int v7), (11, .int v11), (13, .int v13), (15, .int v15), (16, .int v16)] [.int s0] (n, f) ce sl := by
  unfold m_L_press_j442 at h
  refine np_soundW (so_L_press hX hf hR) [34, 107, 230, 407, 442, 556, 717, 749] 400 442 _ _ _ _ _ ?_
  conv => whnf
  refine pw_st h (fun z48 h => ?_)
  conv => whnf
  refine np_rd_i (hW.g rfl) ?_
  conv => whnf
  refine pw_ck h (fun _ h => ?_)
  conv => whnf
  refine pw_br h (fun _ h => ?_) (fun _ h => ?_)
  · conv => whnf
    refine pw_br h (fun _ h => ?_) (fun _ h => ?_)
    · conv => whnf
      refine pw_st h (fun z49 h => ?_)
      conv => whnf
      refine np_gl (J_L_press_717 (dc := dc) (ds := ds) hX hf hR (fun S52 u50 u51 f53 ce55 sl56 hc57 hs58 hW54 h => np_gl (hk34 S52 u50 u51 f53 _ _ (by omega) (by omega) hW54 h) ⟨rfl, rfl, rfl, rfl, rfl, rfl, rfl, rfl, trivial⟩) (fun S59 f60 ce62 sl63 hc64 hs65 hW61 h => np_gl (hk749 S59 f60 _ _ (by omega) (by omega) hW61 h) ⟨rfl, rfl, rfl, trivial⟩) S v1 v7 z49 f _ _ (by omega) (by omega) hW h) ?_
      exact ⟨rfl, rfl, rfl, rfl, rfl, rfl, rfl, rfl, rfl, trivial⟩
    · conv => whnf
      refine pw_st h (fun z66 h => ?_)
      conv => whnf
      refine np_gl (J_L_press_717 (dc := dc) (ds := ds) hX hf hR (fun S69 u67 u68 f70 ce72 sl73 hc74 hs75 hW71 h => np_gl (hk34 S69 u67 u68 f70 _ _ (by omega) (by omega) hW71 h) ⟨rfl, rfl, rfl, rfl, rfl, rfl, rfl, rfl, trivial⟩) (fun S76 f77 ce79 sl80 hc81 hs82 hW78 h => np_gl (hk749 S76 f77 _ _ (by omega) (by omega) hW78 h) ⟨rfl, rfl, rfl, trivial⟩) S v1 v7 z66 f _ _ (by omega) (by omega) hW h) ?_
      exact ⟨rfl, rfl, rfl, rfl, rfl, rfl, rfl, rfl, rfl, trivial⟩
  · conv => whnf
    refine pw_br h (fun _ h => ?_) (fun _ h => ?_)
    · conv => whnf
      refine pw_br h (fun _ h => ?_) (fun _ h => ?_)
      · conv => whnf
        refine np_rd_i (hW.g rfl) ?_
        conv => whnf
        refine np_chk_i (pw_and rfl (pw_and rfl (pw_and rfl (pw_and rfl ((pw_and (pw_le (by omega)) (pw_le (by omega)))))))) ?_
        conv => whnf
        refine ⟨0, S, 0, v11, v15, rfl, rfl, hW, pw_bd h (fun S83 r86 h f84 hW85 => ?_)⟩
        rcases r86 with r88 | e89
        · replace h := pw_ei h
          conv => whnf
          refine pw_br h (fun _ h => ?_) (fun _ h => ?_)
          · conv => whnf
            refine pw_st h (fun z90 h => ?_)
            conv => whnf
            refine np_gl (J_L_press_717 (dc := dc) (ds := ds) hX hf hR (fun S93 u91 u92 f94 ce96 sl97 hc98 hs99 hW95 h => np_gl (hk34 S93 u91 u92 f94 _ _ (by omega) (by omega) hW95 h) ⟨rfl, rfl, rfl, rfl, rfl, rfl, rfl, rfl, trivial⟩) (fun S100 f101 ce103 sl104 hc105 hs106 hW102 h => np_gl (hk749 S100 f101 _ _ (by omega) (by omega) hW102 h) ⟨rfl, rfl, rfl, trivial⟩) S83 v1 v7 z90 f84 _ _ (by omega) (by omega) hW85 h) ?_
            exact ⟨rfl, rfl, rfl, rfl, rfl, rfl, rfl, rfl, rfl, trivial⟩
          · conv => whnf
            refine pw_st h (fun z107 h => ?_)
            conv => whnf
            refine np_gl (J_L_press_717 (dc := dc) (ds := ds) hX hf hR (fun S110 u108 u109 f111 ce113 sl114 hc115 hs116 hW112 h => np_gl (hk34 S110 u108 u109 f111 _ _ (by omega) (by omega) hW112 h) ⟨rfl, rfl, rfl, rfl, rfl, rfl, rfl, rfl, trivial⟩) (fun S117 f118 ce120 sl121 hc122 hs123 hW119 h => np_gl (hk749 S117 f118 _ _ (by omega) (by omega) hW119 h) ⟨rfl, rfl, rfl, trivial⟩) S83 v1 v7 z107 f84 _ _ (by omega) (by omega) hW85 h) ?_
            exact ⟨rfl, rfl, rfl, rfl, rfl, rfl, rfl, rfl, rfl, trivial⟩
        · exact (pw_pn h).elim
      · conv => whnf
        refine pw_st h (fun z124 h => ?_)
        conv => whnf
        refine np_gl (J_L_press_717 (dc := dc) (ds := ds) hX hf hR (fun S127 u125 u126 f128 ce130 sl131 hc132 hs133 hW129 h => np_gl (hk34 S127 u125 u126 f128 _ _ (by omega) (by omega) hW129 h) ⟨rfl, rfl, rfl, rfl, rfl, rfl, rfl, rfl, trivial⟩) (fun S134 f135 ce137 sl138 hc139 hs140 hW136 h => np_gl (hk749 S134 f135 _ _ (by omega) (by omega) hW136 h) ⟨rfl, rfl, rfl, trivial⟩) S v1 v7 z124 f _ _ (by omega) (by omega) hW h) ?_
        exact ⟨rfl, rfl, rfl, rfl, rfl, rfl, rfl, rfl, rfl, trivial⟩
    · conv => whnf
      refine pw_br h (fun _ h => ?_) (fun _ h => ?_)
      · conv => whnf
        refine pw_st h (fun z141 h => ?_)
        conv => whnf
        refine np_gl (J_L_press_717 (dc := dc) (ds := ds) hX hf hR (fun S144 u142 u143 f145 ce147 sl148 hc149 hs150 hW146 h => np_gl (hk34 S144 u142 u143 f145 _ _ (by omega) (by omega) hW146 h) ⟨rfl, rfl, rfl, rfl, rfl, rfl, rfl, rfl, trivial⟩) (fun S151 f152 ce154 sl155 hc156 hs157 hW153 h => np_gl (hk749 S151 f152 _ _ (by omega) (by omega) hW153 h) ⟨rfl, rfl, rfl, trivial⟩) S v1 v7 z141 f _ _ (by omega) (by omega) hW h) ?_
        exact ⟨rfl, rfl, rfl, rfl, rfl, rfl, rfl, rfl, rfl, trivial⟩
      · conv => whnf
        refine pw_st h (fun z158 h => ?_)
        conv => whnf
        refine np_gl (J_L_press_717 (dc := dc) (ds := ds) hX hf hR (fun S161 u159 u160 f162 ce164 sl165 hc166 hs167 hW163 h => np_gl (hk34 S161 u159 u160 f162 _ _ (by omega) (by omega) hW163 h) ⟨rfl, rfl, rfl, rfl, rfl, rfl, rfl, rfl, trivial⟩) (fun S168 f169 ce171 sl172 hc173 hs174 hW170 h => np_gl (hk749 S168 f169 _ _ (by omega) (by omega) hW170 h) ⟨rfl, rfl, rfl, trivial⟩) S v1 v7 z158 f _ _ (by omega) (by omega) hW h) ?_
        exact ⟨rfl, rfl, rfl, rfl, rfl, rfl, rfl, rfl, rfl, trivial⟩
noncomputable def m_L_press_j407 (Ls : Nat) (xs : Nat → Int32) (k34 : pw_S → Int32 → Int32 → pw_R Int32) (k749 : pw_S → pw_R Int32) (S : pw_S) (v1 : Int32) (v7 : Int32) (v11 : Int32) (v13 : Int32) (s0 : Int32) : pw_R Int32 :=
 pw_l (s0 : Int32) fun z175 =>
 pw_b (m_L_units S 0 v11) fun S176 r179 =>
 pw_l (r179 : Int32) fun z181 =>
 pw_b (m_L_asks S176 0 1 v11 (v13 ||| z175) 0) fun S182 r185 =>
 pw_l (r185 : Int32) fun z187 =>
 if z175 ≤ 0 then
 (m_L_press_j442 Ls xs (fun S190 u188 u189 => k34 S190 u188 u189) (fun S197 => k749 S197) S182 v1 v7 v11 v13 z181 z187 1)
 else
 (m_L_press_j442 Ls xs (fun S206 u204 u205 => k34 S206 u204 u205) (fun S213 => k749 S213) S182 v1 v7 v11 v13 z181 z187 2)
set_option maxRecDepth 100000 in
set_option maxHeartbeats 8000000 in
theorem J_L_press_407 {X : np_Ctx} (hX : np_ok RL cL_press 18 12 334 188083 1145773 .ireturn X) {Ls : Nat} {xs : Nat → Int32} (hf : np_lf Ls xs X) {n dc ds : Nat} (hR : ∀ st w ce sl, (fun st _ ce sl => ce ≤ 188083 ∧ sl ≤ 1145773 ∧ ∃ r, st = [.int r] ∧ narrow .boolean (.int r) = .int r ∧ r = 1) st w ce sl → X.2.2.1 st w ce sl) {k34 : pw_S → Int32 → Int32 → pw_R Int32} {k749 : pw_S → pw_R Int32} (hk34 : ∀ (S : pw_S) (v1 : Int32) (v7 : Int32) (f : Nat → Option np_E) (ce sl : Nat), ce + dc ≤ 188083 → sl + ds ≤ 1145773 → pw_W 0 (n, f) S → pw_p (k34 S v1 v7) (fun _ r => r = 1) → np_G X 34 [(0, .ref 0), (1, .int v1), (2, .ref (pw_pl 61 0)), (3, .ref (pw_pl 36 0)), (4, .ref (pw_pl 37 0)), (5, .ref (pw_pl 38 0)), (6, .ref (pw_pl 39 0)), (7, .int v7)] [] (n, f) ce sl) (hk749 : ∀ (S : pw_S) (f : Nat → Option np_E) (ce sl : Nat), ce + dc ≤ 188083 → sl + ds ≤ 1145773 → pw_W 0 (n, f) S → pw_p (k749 S) (fun _ r => r = 1) → np_G X 749 [(2, .ref (pw_pl 61 0)), (3, .ref (pw_pl 36 0)), (4, .ref (pw_pl 37 0))] [] (n, f) ce sl) (S : pw_S) (v1 : Int32) (v7 : Int32) (v11 : Int32) (v13 : Int32) (s0 : Int32) (f : Nat → Option np_E) (ce sl : Nat) (hc : ce + 1081 + dc ≤ 188083) (hs : sl + 6486 + ds ≤ 1145773) (hW : pw_W 0 (n, f) S) (h : pw_p (m_L_press_j407 Ls xs k34 k749 S v1 v7 v11 v13 s0) (fun _ r => r = 1)) : np_G X 407 [(0, .ref 0), (1, .int v1), (2, .ref (pw_pl 61 0)), (3, .ref (pw_pl 36 0)), (4, .ref (pw_pl 37 0)), (5, .ref (pw_pl 38 0)), (6, .ref (pw_pl 39 0)), (7, .int v7), (11, .int v11), (13, .int v13)] [.int s0] (n, f) ce sl := by
  unfold m_L_press_j407 at h
  refine np_soundW (so_L_press hX hf hR) [34, 107, 230, 407, 442, 556, 717, 749] 400 407 _ _ _ _ _ ?_
  conv => whnf
  refine pw_st h (fun z175 h => ?_)
  conv => whnf
  refine np_chk_i (pw_and rfl (pw_and rfl (pw_and rfl ((pw_and (pw_le (by omega)) (pw_le (by omega))))))) ?_
  conv => whnf
  refine ⟨0, S, 0, v11, rfl, rfl, hW, pw_bd h (fun S176 r179 h f177 hW178 => ?_)⟩
  conv => whnf
  refine pw_st h (fun z181 h => ?_)
  conv => whnf
  refine np_chk_i (pw_and rfl (pw_and rfl (pw_and rfl ((pw_and (pw_le (by omega)) (pw_le (by omega))))))) ?_
  conv => whnf
  refine ⟨0, S176, 0, 1, v11, (v13 ||| z175), 0, rfl, rfl, hW178, pw_bd h (fun S182 r185 h f183 hW184 => ?_)⟩
  conv => whnf
  refine pw_st h (fun z187 h => ?_)
  conv => whnf
  refine pw_br h (fun _ h => ?_) (fun _ h => ?_)
  · conv => whnf
    refine np_gl (J_L_press_442 (dc := dc) (ds := ds) hX hf hR (fun S190 u188 u189 f191 ce193 sl194 hc195 hs196 hW192 h => np_gl (hk34 S190 u188 u189 f191 _ _ (by omega) (by omega) hW192 h) ⟨rfl, rfl, rfl, rfl, rfl, rfl, rfl, rfl, trivial⟩) (fun S197 f198 ce200 sl201 hc202 hs203 hW199 h => np_gl (hk749 S197 f198 _ _ (by omega) (by omega) hW199 h) ⟨rfl, rfl, rfl, trivial⟩) S182 v1 v7 v11 v13 z181 z187 1 f183 _ _ (by omega) (by omega) hW184 h) ?_
    exact ⟨rfl, rfl, rfl, rfl, rfl, rfl, rfl, rfl, rfl, rfl, rfl, rfl, trivial⟩
  · conv => whnf
    refine np_gl (J_L_press_442 (dc := dc) (ds := ds) hX hf hR (fun S206 u204 u205 f207 ce209 sl210 hc211 hs212 hW208 h => np_gl (hk34 S206 u204 u205 f207 _ _ (by omega) (by omega) hW208 h) ⟨rfl, rfl, rfl, rfl, rfl, rfl, rfl, rfl, trivial⟩) (fun S213 f214 ce216 sl217 hc218 hs219 hW215 h => np_gl (hk749 S213 f214 _ _ (by omega) (by omega) hW215 h) ⟨rfl, rfl, rfl, trivial⟩) S182 v1 v7 v11 v13 z181 z187 2 f183 _ _ (by omega) (by omega) hW184 h) ?_
    exact ⟨rfl, rfl, rfl, rfl, rfl, rfl, rfl, rfl, rfl, rfl, rfl, rfl, trivial⟩
noncomputable def m_L_press_j230 (Ls : Nat) (xs : Nat → Int32) (k34 : pw_S → Int32 → Int32 → pw_R Int32) (k749 : pw_S → pw_R Int32) (S : pw_S) (v1 : Int32) (v7 : Int32) (v9 : Int32) (v11 : Int32) (s0 : Int32) : pw_R Int32 :=
 pw_l (s0 : Int32) fun z220 =>
 pw_c (!decide ((S 36 0 0) = 0)) <|
 pw_c (np_inb (3 + (6 * v11)) 18) <|
 pw_l (pw_up S 36 0 (upd (S 36 0) ((3 + (6 * v11)) : Int32).toNatClampNeg ((v9 - v9 / (S 36 0 0) * (S 36 0 0)) + 1))) fun S221 =>
 pw_c (np_inb (4 + (6 * v11)) 18) <|
 pw_l (pw_up S221 36 0 (upd (S221 36 0) ((4 + (6 * v11)) : Int32).toNatClampNeg 0)) fun S224 =>
 pw_c (np_inb (5 + (6 * v11)) 18) <|
 pw_l (pw_up S224 36 0 (upd (S224 36 0) ((5 + (6 * v11)) : Int32).toNatClampNeg 0)) fun S227 =>
 pw_c (np_inb (6 + (6 * v11)) 18) <|
 pw_l (pw_up S227 36 0 (upd (S227 36 0) ((6 + (6 * v11)) : Int32).toNatClampNeg 0)) fun S230 =>
 pw_c (np_inb (7 + (6 * v11)) 18) <|
 pw_l (pw_up S230 36 0 (upd (S230 36 0) ((7 + (6 * v11)) : Int32).toNatClampNeg 0)) fun S233 =>
 m_L_press_j717 Ls xs (fun S238 u236 u237 => k34 S238 u236 u237) (fun S245 => k749 S245) S233 v1 v7 z220
set_option maxRecDepth 100000 in
set_option maxHeartbeats 8000000 in
theorem J_L_press_230 {X : np_Ctx} (hX : np_ok RL cL_press 18 12 334 188083 1145773 .ireturn X) {Ls : Nat} {xs : Nat → Int32} (hf : np_lf Ls xs X) {n dc ds : Nat} (hR : ∀ st w ce sl, (fun st _ ce sl => ce ≤ 188083 ∧ sl ≤ 1145773 ∧ ∃ r, st = [.int r] ∧ narrow .boolean (.int r) = .int r ∧ r = 1) st w ce sl → X.2.2.1 st w ce sl) {k34 : pw_S → Int32 → Int32 → pw_R Int32} {k749 : pw_S → pw_R Int32} (hk34 : ∀ (S : pw_S) (v1 : Int32) (v7 : Int32) (f : Nat → Option np_E) (ce sl : Nat), ce + dc ≤ 188083 → sl + ds ≤ 1145773 → pw_W 0 (n, f) S → pw_p (k34 S v1 v7) (fun _ r => r = 1) → np_G X 34 [(0, .ref 0), (1, .int v1), (2, .ref (pw_pl 61 0)), (3, .ref (pw_pl 36 0)), (4, .ref (pw_pl 37 0)), (5, .ref (pw_pl 38 0)), (6, .ref (pw_pl 39 0)), (7, .int v7)] [] (n, f) ce sl) (hk749 : ∀ (S : pw_S) (f : Nat → Option np_E) (ce sl : Nat), ce + dc ≤ 188083 → sl + ds ≤ 1145773 → pw_W 0 (n, f) S → pw_p (k749 S) (fun _ r => r = 1) → np_G X 749 [(2, .ref (pw_pl 61 0)), (3, .ref (pw_pl 36 0)), (4, .ref (pw_pl 37 0))] [] (n, f) ce sl) (S : pw_S) (v1 : Int32) (v7 : Int32) (v9 : Int32) (v11 : Int32) (s0 : Int32) (f : Nat → Option np_E) (ce sl : Nat) (hc : ce + 777 + dc ≤ 188083) (hs : sl + 4662 + ds ≤ 1145773) (hW : pw_W 0 (n, f) S) (h : pw_p (m_L_press_j230 Ls xs k34 k749 S v1 v7 v9 v11 s0) (fun _ r => r = 1)) : np_G X 230 [(0, .ref 0), (1, .int v1), (2, .ref (pw_pl 61 0)), (3, .ref (pw_pl 36 0)), (4, .ref (pw_pl 37 0)), (5, .ref (pw_pl 38 0)), (6, .ref (pw_pl 39 0)), (7, .int v7), (9, .int v9), (11, .int v11)] [.int s0] (n, f) ce sl := by
  unfold m_L_press_j230 at h
  refine np_soundW (so_L_press hX hf hR) [34, 107, 230, 407, 442, 556, 717, 749] 400 230 _ _ _ _ _ ?_
  conv => whnf
  refine pw_st h (fun z220 h => ?_)
  conv => whnf
  refine np_rd_i (hW.g rfl) ?_
  conv => whnf
  refine pw_ck h (fun _ h => ?_)
  conv => whnf
  refine np_rd_i (hW.g rfl) ?_
  conv => whnf
  refine pw_ck h (fun _ h => ?_)
  conv => whnf
  refine pw_wr (a := 36) (i := 0) (d := upd (S 36 0) ((3 + (6 * v11)) : Int32).toNatClampNeg ((v9 - v9 / (S 36 0 0) * (S 36 0 0)) + 1)) hW rfl rfl h (fun S221 f222 hW223 h => ?_)
  conv => whnf
  refine np_rd_i (hW223.g rfl) ?_
  conv => whnf
  refine pw_ck h (fun _ h => ?_)
  conv => whnf
  refine pw_wr (a := 36) (i := 0) (d := upd (S221 36 0) ((4 + (6 * v11)) : Int32).toNatClampNeg 0) hW223 rfl rfl h (fun S224 f225 hW226 h => ?_)
  conv => whnf
  refine np_rd_i (hW226.g rfl) ?_
  conv => whnf
  refine pw_ck h (fun _ h => ?_)
  conv => whnf
  refine pw_wr (a := 36) (i := 0) (d := upd (S224 36 0) ((5 + (6 * v11)) : Int32).toNatClampNeg 0) hW226 rfl rfl h (fun S227 f228 hW229 h => ?_)
  conv => whnf
  refine np_rd_i (hW229.g rfl) ?_
  conv => whnf
  refine pw_ck h (fun _ h => ?_)
  conv => whnf
  refine pw_wr (a := 36) (i := 0) (d := upd (S227 36 0) ((6 + (6 * v11)) : Int32).toNatClampNeg 0) hW229 rfl rfl h (fun S230 f231 hW232 h => ?_)
  conv => whnf
  refine np_rd_i (hW232.g rfl) ?_
  conv => whnf
  refine pw_ck h (fun _ h => ?_)
  conv => whnf
  refine pw_wr (a := 36) (i := 0) (d := upd (S230 36 0) ((7 + (6 * v11)) : Int32).toNatClampNeg 0) hW232 rfl rfl h (fun S233 f234 hW235 h => ?_)
  conv => whnf
  refine np_gl (J_L_press_717 (dc := dc) (ds := ds) hX hf hR (fun S238 u236 u237 f239 ce241 sl242 hc243 hs244 hW240 h => np_gl (hk34 S238 u236 u237 f239 _ _ (by omega) (by omega) hW240 h) ⟨rfl, rfl, rfl, rfl, rfl, rfl, rfl, rfl, trivial⟩) (fun S245 f246 ce248 sl249 hc250 hs251 hW247 h => np_gl (hk749 S245 f246 _ _ (by omega) (by omega) hW247 h) ⟨rfl, rfl, rfl, trivial⟩) S233 v1 v7 z220 f234 _ _ (by omega) (by omega) hW235 h) ?_
  exact ⟨rfl, rfl, rfl, rfl, rfl, rfl, rfl, rfl, rfl, trivial⟩
noncomputable def m_L_press_j107 (Ls : Nat) (xs : Nat → Int32) (k34 : pw_S → Int32 → Int32 → pw_R Int32) (k749 : pw_S → pw_R Int32) (S : pw_S) (v1 : Int32) (v7 : Int32) (v8 : Int32) (v9 : Int32) (s0 : Int32) : pw_R Int32 :=
 pw_l (s0 : Int32) fun z252 =>
 pw_l (((v8 / 3) - (v8 / 3) / 2 * 2) : Int32) fun z253 =>
 pw_l (1 : Int32) fun z254 =>
 if 2 ≤ z252 then
 (if 8 ≤ z252 then
 (if z252 = 8 then
 (pw_b (m_L_constrains S 0 v8 v9 36 0) fun S255 r258 =>
 pw_l (r258 : Int32) fun z260 =>
 m_L_press_j717 Ls xs (fun S263 u261 u262 => k34 S263 u261 u262) (fun S270 => k749 S270) S255 v1 v7 z260)
 else
 (if z252 = 9 then
 (if (S 36 0 0) ≤ 0 then
 (m_L_press_j717 Ls xs (fun S279 u277 u278 => k34 S279 u277 u278) (fun S286 => k749 S286) S v1 v7 z254)
 else
 (pw_c (!decide ((S 36 0 0) = 0)) <|
 pw_b (m_X11_stream S 0 z253 (v9 - v9 / (S 36 0 0) * (S 36 0 0))) fun S293 r296 =>
 pw_e r296 (fun r298 =>
 (pw_l (r298 : Int32) fun z300 =>
 pw_c (np_inb (4 + (6 * z253)) 18) <|
 if z300 = (S293 36 0 ((4 + (6 * z253)) : Int32).toNatClampNeg) then
 (m_L_press_j230 Ls xs (fun S303 u301 u302 => k34 S303 u301 u302) (fun S310 => k749 S310) S293 v1 v7 v9 z253 1)
 else
 (m_L_press_j230 Ls xs (fun S319 u317 u318 => k34 S319 u317 u318) (fun S326 => k749 S326) S293 v1 v7 v9 z253 0))) (fun _ => none)))
 else
 (if 17 ≤ z252 then
 (if z252 = 17 then
 (if (v9 - v9 / 3 * 3) = 0 then
 (pw_l (10 : Int32) fun z333 =>
 if ((v9 / 400) - (v9 / 400) / 2 * 2) = 0 then
 (m_L_press_j407 Ls xs (fun S336 u334 u335 => k34 S336 u334 u335) (fun S343 => k749 S343) S v1 v7 z253 z333 0)
 else
 (m_L_press_j407 Ls xs (fun S352 u350 u351 => k34 S352 u350 u351) (fun S359 => k749 S359) S v1 v7 z253 z333 2560))
 else
 (if (v9 - v9 / 3 * 3) = 1 then
 (pw_l ((97 + ((v9 / 3) - (v9 / 3) / 4 * 4)) : Int32) fun z366 =>
 if ((v9 / 400) - (v9 / 400) / 2 * 2) = 0 then
 (m_L_press_j407 Ls xs (fun S369 u367 u368 => k34 S369 u367 u368) (fun S376 => k749 S376) S v1 v7 z253 z366 0)
 else
 (m_L_press_j407 Ls xs (fun S385 u383 u384 => k34 S385 u383 u384) (fun S392 => k749 S392) S v1 v7 z253 z366 2560))
 else
 (pw_l ((32 + ((v9 / 3) - (v9 / 3) / 95 * 95)) : Int32) fun z399 =>
 if ((v9 / 400) - (v9 / 400) / 2 * 2) = 0 then
 (m_L_press_j407 Ls xs (fun S402 u400 u401 => k34 S402 u400 u401) (fun S409 => k749 S409) S v1 v7 z253 z399 0)
 else
 (m_L_press_j407 Ls xs (fun S418 u416 u417 => k34 S418 u416 u417) (fun S425 => k749 S425) S v1 v7 z253 z399 2560))))
 else
 (if z252 = 18 then
 (if (v9 - v9 / 6 * 6) = 0 then
 (pw_b (m_X11_close S 0 z253) fun S432 r435 =>
 pw_e r435 (fun r437 =>
 (pw_c (np_inb (8 + (6 * z253)) 18) <|
 if (S432 36 0 ((8 + (6 * z253)) : Int32).toNatClampNeg) = 0 then
 (m_L_press_j556 Ls xs (fun S441 u439 u440 => k34 S441 u439 u440) (fun S448 => k749 S448) S432 v1 v7 z253 r437 1)
 else
 (m_L_press_j556 Ls xs (fun S457 u455 u456 => k34 S457 u455 u456) (fun S464 => k749 S464) S432 v1 v7 z253 r437 0))) (fun _ => none))
 else
 (m_L_press_j717 Ls xs (fun S473 u471 u472 => k34 S473 u471 u472) (fun S480 => k749 S480) S v1 v7 z254))
 else
 (if z252 = 19 then
 (if 6 ≤ (S 36 0 1) then
 (m_L_press_j717 Ls xs (fun S489 u487 u488 => k34 S489 u487 u488) (fun S496 => k749 S496) S v1 v7 z254)
 else
 (pw_c (np_inb (S 36 0 1) 6) <|
 pw_l (pw_up S 37 0 (upd (S 37 0) ((S 36 0 1) : Int32).toNatClampNeg (((z253 ||| ((v9 - v9 / 4 * 4) <<< (1 &&& 31))) ||| (((v9 / 4) - (v9 / 4) / 6 * 6) <<< (3 &&& 31))) ||| ((1 + ((v9 / 32) - (v9 / 32) / 5 * 5)) <<< (6 &&& 31))))) fun S503 =>
 pw_l (pw_up S503 36 0 (upd (S503 36 0) 1 ((S503 36 0 1) + 1))) fun S506 =>
 pw_b (m_X11_column S506 0 z253 (v9 - v9 / 4 * 4) ((v9 / 4) - (v9 / 4) / 6 * 6) (1 + ((v9 / 32) - (v9 / 32) / 5 * 5))) fun S509 r512 =>
 pw_e r512 (fun r514 =>
 (if r514 = ((S509 36 0 1) - 1) then
 (pw_l (1 : Int32) fun z516 =>
 m_L_press_j717 Ls xs (fun S519 u517 u518 => k34 S519 u517 u518) (fun S526 => k749 S526) S509 v1 v7 z516)
 else
 (pw_l (0 : Int32) fun z533 =>
 m_L_press_j717 Ls xs (fun S536 u534 u535 => k34 S536 u534 u535) (fun S543 => k749 S543) S509 v1 v7 z533))) (fun _ => none)))
 else
 (if z252 = 20 then
 (pw_b (m_L_upgrades S 0 v8 v9 39 0 36 0) fun S550 r553 =>
 pw_l (r553 : Int32) fun z555 =>
 m_L_press_j717 Ls xs (fun S558 u556 u557 => k34 S558 u556 u557) (fun S565 => k749 S565) S550 v1 v7 z555)
 else
 (pw_b (m_L_areKeys S 0 (v9 - v9 / 6 * 6) 36 0) fun S572 r575 =>
 pw_l (r575 : Int32) fun z577 =>
 m_L_press_j717 Ls xs (fun S580 u578 u579 => k34 S580 u578 u579) (fun S587 => k749 S587) S572 v1 v7 z577)))))
 else
 (pw_l (pw_up S 36 0 (upd (S 36 0) 17 ((S 36 0 17) + 1))) fun S594 =>
 if 10 < (S594 36 0 17) then
 (pw_l (1 : Int32) fun z597 =>
 m_L_press_j717 Ls xs (fun S600 u598 u599 => k34 S600 u598 u599) (fun S607 => k749 S607) S594 v1 v7 z597)
 else
 (pw_b (m_L_steps S594 0 z253 36 0) fun S614 r617 =>
 if r617 = 0 then
 (pw_l (0 : Int32) fun z619 =>
 m_L_press_j717 Ls xs (fun S622 u620 u621 => k34 S622 u620 u621) (fun S629 => k749 S629) S614 v1 v7 z619)
 else
 (pw_l (1 : Int32) fun z636 =>
 m_L_press_j717 Ls xs (fun S639 u637 u638 => k34 S639 u637 u638) (fun S646 => k749 S646) S614 v1 v7 z636))))))
 else
 (pw_b (m_L_samples S 0 v8 v9 38 0 36 0) fun S653 r656 =>
 pw_l (r656 : Int32) fun z658 =>
 m_L_press_j717 Ls xs (fun S661 u659 u660 => k34 S661 u659 u660) (fun S668 => k749 S668) S653 v1 v7 z658))
 else
 (pw_b (m_L_describes S 0 v8 v9 36 0) fun S675 r678 =>
 pw_l (r678 : Int32) fun z680 =>
 m_L_press_j717 Ls xs (fun S683 u681 u682 => k34 S683 u681 u682) (fun S690 => k749 S690) S675 v1 v7 z680)
set_option maxRecDepth 100000 in
set_option maxHeartbeats 8000000 in
theorem J_L_press_107 {X : np_Ctx} (hX : np_ok RL cL_press 18 12 334 188083 1145773 .ireturn X) {Ls : Nat} {xs : Nat → Int32} (hf : np_lf Ls xs X) {n dc ds : Nat} (hR : ∀ st w ce sl, (fun st _ ce sl => ce ≤ 188083 ∧ sl ≤ 1145773 ∧ ∃ r, st = [.int r] ∧ narrow .boolean (.int r) = .int r ∧ r = 1) st w ce sl → X.2.2.1 st w ce sl) {k34 : pw_S → Int32 → Int32 → pw_R Int32} {k749 : pw_S → pw_R Int32} (hk34 : ∀ (S : pw_S) (v1 : Int32) (v7 : Int32) (f : Nat → Option np_E) (ce sl : Nat), ce + dc ≤ 188083 → sl + ds ≤ 1145773 → pw_W 0 (n, f) S → pw_p (k34 S v1 v7) (fun _ r => r = 1) → np_G X 34 [(0, .ref 0), (1, .int v1), (2, .ref (pw_pl 61 0)), (3, .ref (pw_pl 36 0)), (4, .ref (pw_pl 37 0)), (5, .ref (pw_pl 38 0)), (6, .ref (pw_pl 39 0)), (7, .int v7)] [] (n, f) ce sl) (hk749 : ∀ (S : pw_S) (f : Nat → Option np_E) (ce sl : Nat), ce + dc ≤ 188083 → sl + ds ≤ 1145773 → pw_W 0 (n, f) S → pw_p (k749 S) (fun _ r => r = 1) → np_G X 749 [(2, .ref (pw_pl 61 0)), (3, .ref (pw_pl 36 0)), (4, .ref (pw_pl 37 0))] [] (n, f) ce sl) (S : pw_S) (v1 : Int32) (v7 : Int32) (v8 : Int32) (v9 : Int32) (s0 : Int32) (f : Nat → Option np_E) (ce sl : Nat) (hc : ce + 3287 + dc ≤ 188083) (hs : sl + 19722 + ds ≤ 1145773) (hW : pw_W 0 (n, f) S) (h : pw_p (m_L_press_j107 Ls xs k34 k749 S v1 v7 v8 v9 s0) (fun _ r => r = 1)) : np_G X 107 [(0, .ref 0), (1, .int v1), (2, .ref (pw_pl 61 0)), (3, .ref (pw_pl 36 0)), (4, .ref (pw_pl 37 0)), (5, .ref (pw_pl 38 0)), (6, .ref (pw_pl 39 0)), (7, .int v7), (8, .int v8), (9, .int v9)] [.int s0] (n, f) ce sl := by
  unfold m_L_press_j107 at h
  refine np_soundW (so_L_press hX hf hR) [34, 107, 230, 407, 442, 556, 717, 749] 400 107 _ _ _ _ _ ?_
  conv => whnf
  refine pw_st h (fun z252 h => ?_)
  conv => whnf
  refine pw_st h (fun z253 h => ?_)
  conv => whnf
  refine pw_st h (fun z254 h => ?_)
  conv => whnf
  refine pw_br h (fun _ h => ?_) (fun _ h => ?_)
  · conv => whnf
    refine pw_br h (fun _ h => ?_) (fun _ h => ?_)
    · conv => whnf
      refine pw_br h (fun _ h => ?_) (fun _ h => ?_)
      · conv => whnf
        refine np_chk_i (pw_and rfl (pw_and rfl (pw_and rfl ((pw_and (pw_le (by omega)) (pw_le (by omega))))))) ?_
        conv => whnf
        refine ⟨0, S, 0, v8, v9, 36, 0, rfl, rfl, rfl, rfl, hW, pw_bd h (fun S255 r258 h f256 hW257 => ?_)⟩
        conv => whnf
        refine pw_st h (fun z260 h => ?_)
        conv => whnf
        refine np_gl (J_L_press_717 (dc := dc) (ds := ds) hX hf hR (fun S263 u261 u262 f264 ce266 sl267 hc268 hs269 hW265 h => np_gl (hk34 S263 u261 u262 f264 _ _ (by omega) (by omega) hW265 h) ⟨rfl, rfl, rfl, rfl, rfl, rfl, rfl, rfl, trivial⟩) (fun S270 f271 ce273 sl274 hc275 hs276 hW272 h => np_gl (hk749 S270 f271 _ _ (by omega) (by omega) hW272 h) ⟨rfl, rfl, rfl, trivial⟩) S255 v1 v7 z260 f256 _ _ (by omega) (by omega) hW257 h) ?_
        exact ⟨rfl, rfl, rfl, rfl, rfl, rfl, rfl, rfl, rfl, trivial⟩
      · conv => whnf
        refine pw_br h (fun _ h => ?_) (fun _ h => ?_)
        · conv => whnf
          refine np_rd_i (hW.g rfl) ?_
          conv => whnf
          refine pw_br h (fun _ h => ?_) (fun _ h => ?_)
          · conv => whnf
            refine np_gl (J_L_press_717 (dc := dc) (ds := ds) hX hf hR (fun S279 u277 u278 f280 ce282 sl283 hc284 hs285 hW281 h => np_gl (hk34 S279 u277 u278 f280 _ _ (by omega) (by omega) hW281 h) ⟨rfl, rfl, rfl, rfl, rfl, rfl, rfl, rfl, trivial⟩) (fun S286 f287 ce289 sl290 hc291 hs292 hW288 h => np_gl (hk749 S286 f287 _ _ (by omega) (by omega) hW288 h) ⟨rfl, rfl, rfl, trivial⟩) S v1 v7 z254 f _ _ (by omega) (by omega) hW h) ?_
            exact ⟨rfl, rfl, rfl, rfl, rfl, rfl, rfl, rfl, rfl, trivial⟩
          · conv => whnf
            refine np_rd_i (hW.g rfl) ?_
            conv => whnf
            refine pw_ck h (fun _ h => ?_)
            conv => whnf
            refine np_rd_i (hW.g rfl) ?_
            conv => whnf
            refine np_chk_i (pw_and rfl (pw_and rfl (pw_and rfl (pw_and rfl ((pw_and (pw_le (by omega)) (pw_le (by omega)))))))) ?_
            conv => whnf
            refine ⟨0, S, 0, z253, (v9 - v9 / (S 36 0 0) * (S 36 0 0)), rfl, rfl, hW, pw_bd h (fun S293 r296 h f294 hW295 => ?_)⟩
            rcases r296 with r298 | e299
            · replace h := pw_ei h
              conv => whnf
              refine pw_st h (fun z300 h => ?_)
              conv => whnf
              refine np_rd_i (hW295.g rfl) ?_
              conv => whnf
              refine pw_ck h (fun _ h => ?_)
              conv => whnf
              refine pw_br h (fun _ h => ?_) (fun _ h => ?_)
              · conv => whnf
                refine np_gl (J_L_press_230 (dc := dc) (ds := ds) hX hf hR (fun S303 u301 u302 f304 ce306 sl307 hc308 hs309 hW305 h => np_gl (hk34 S303 u301 u302 f304 _ _ (by omega) (by omega) hW305 h) ⟨rfl, rfl, rfl, rfl, rfl, rfl, rfl, rfl, trivial⟩) (fun S310 f311 ce313 sl314 hc315 hs316 hW312 h => np_gl (hk749 S310 f311 _ _ (by omega) (by omega) hW312 h) ⟨rfl, rfl, rfl, trivial⟩) S293 v1 v7 v9 z253 1 f294 _ _ (by omega) (by omega) hW295 h) ?_
                exact ⟨rfl, rfl, rfl, rfl, rfl, rfl, rfl, rfl, rfl, rfl, trivial⟩
              · conv => whnf
                refine np_gl (J_L_press_230 (dc := dc) (ds := ds) hX hf hR (fun S319 u317 u318 f320 ce322 sl323 hc324 hs325 hW321 h => np_gl (hk34 S319 u317 u318 f320 _ _ (by omega) (by omega) hW321 h) ⟨rfl, rfl, rfl, rfl, rfl, rfl, rfl, rfl, trivial⟩) (fun S326 f327 ce329 sl330 hc331 hs332 hW328 h => np_gl (hk749 S326 f327 _ _ (by omega) (by omega) hW328 h) ⟨rfl, rfl, rfl, trivial⟩) S293 v1 v7 v9 z253 0 f294 _ _ (by omega) (by omega) hW295 h) ?_
                exact ⟨rfl, rfl, rfl, rfl, rfl, rfl, rfl, rfl, rfl, rfl, trivial⟩
            · exact (pw_pn h).elim
        · conv => whnf
          refine pw_br h (fun _ h => ?_) (fun _ h => ?_)
          · conv => whnf
            refine pw_br h (fun _ h => ?_) (fun _ h => ?_)
            · conv => whnf
              refine pw_br h (fun _ h => ?_) (fun _ h => ?_)
              · conv => whnf
                refine pw_st h (fun z333 h => ?_)
                conv => whnf
                refine pw_br h (fun _ h => ?_) (fun _ h => ?_)
                · conv => whnf
                  refine np_gl (J_L_press_407 (dc := dc) (ds := ds) hX hf hR (fun S336 u334 u335 f337 ce339 sl340 hc341 hs342 hW338 h => np_gl (hk34 S336 u334 u335 f337 _ _ (by omega) (by omega) hW338 h) ⟨rfl, rfl, rfl, rfl, rfl, rfl, rfl, rfl, trivial⟩) (fun S343 f344 ce346 sl347 hc348 hs349 hW345 h => np_gl (hk749 S343 f344 _ _ (by omega) (by omega) hW345 h) ⟨rfl, rfl, rfl, trivial⟩) S v1 v7 z253 z333 0 f _ _ (by omega) (by omega) hW h) ?_
                  exact ⟨rfl, rfl, rfl, rfl, rfl, rfl, rfl, rfl, rfl, rfl, trivial⟩
                · conv => whnf
                  refine np_gl (J_L_press_407 (dc := dc) (ds := ds) hX hf hR (fun S352 u350 u351 f353 ce355 sl356 hc357 hs358 hW354 h => np_gl (hk34 S352 u350 u351 f353 _ _ (by omega) (by omega) hW354 h) ⟨rfl, rfl, rfl, rfl, rfl, rfl, rfl, rfl, trivial⟩) (fun S359 f360 ce362 sl363 hc364 hs365 hW361 h => np_gl (hk749 S359 f360 _ _ (by omega) (by omega) hW361 h) ⟨rfl, rfl, rfl, trivial⟩) S v1 v7 z253 z333 2560 f _ _ (by omega) (by omega) hW h) ?_
                  exact ⟨rfl, rfl, rfl, rfl, rfl, rfl, rfl, rfl, rfl, rfl, trivial⟩
              · conv => whnf
                refine pw_br h (fun _ h => ?_) (fun _ h => ?_)
                · conv => whnf
                  refine pw_st h (fun z366 h => ?_)
                  conv => whnf
                  refine pw_br h (fun _ h => ?_) (fun _ h => ?_)
                  · conv => whnf
                    refine np_gl (J_L_press_407 (dc := dc) (ds := ds) hX hf hR (fun S369 u367 u368 f370 ce372 sl373 hc374 hs375 hW371 h => np_gl (hk34 S369 u367 u368 f370 _ _ (by omega) (by omega) hW371 h) ⟨rfl, rfl, rfl, rfl, rfl, rfl, rfl, rfl, trivial⟩) (fun S376 f377 ce379 sl380 hc381 hs382 hW378 h => np_gl (hk749 S376 f377 _ _ (by omega) (by omega) hW378 h) ⟨rfl, rfl, rfl, trivial⟩) S v1 v7 z253 z366 0 f _ _ (by omega) (by omega) hW h) ?_
                    exact ⟨rfl, rfl, rfl, rfl, rfl, rfl, rfl, rfl, rfl, rfl, trivial⟩
                  · conv => whnf
                    refine np_gl (J_L_press_407 (dc := dc) (ds := ds) hX hf hR (fun S385 u383 u384 f386 ce388 sl389 hc390 hs391 hW387 h => np_gl (hk34 S385 u383 u384 f386 _ _ (by omega) (by omega) hW387 h) ⟨rfl, rfl, rfl, rfl, rfl, rfl, rfl, rfl, trivial⟩) (fun S392 f393 ce395 sl396 hc397 hs398 hW394 h => np_gl (hk749 S392 f393 _ _ (by omega) (by omega) hW394 h) ⟨rfl, rfl, rfl, trivial⟩) S v1 v7 z253 z366 2560 f _ _ (by omega) (by omega) hW h) ?_
                    exact ⟨rfl, rfl, rfl, rfl, rfl, rfl, rfl, rfl, rfl, rfl, trivial⟩
                · conv => whnf
                  refine pw_st h (fun z399 h => ?_)
                  conv => whnf
                  refine pw_br h (fun _ h => ?_) (fun _ h => ?_)
                  · conv => whnf
                    refine np_gl (J_L_press_407 (dc := dc) (ds := ds) hX hf hR (fun S402 u400 u401 f403 ce405 sl406 hc407 hs408 hW404 h => np_gl (hk34 S402 u400 u401 f403 _ _ (by omega) (by omega) hW404 h) ⟨rfl, rfl, rfl, rfl, rfl, rfl, rfl, rfl, trivial⟩) (fun S409 f410 ce412 sl413 hc414 hs415 hW411 h => np_gl (hk749 S409 f410 _ _ (by omega) (by omega) hW411 h) ⟨rfl, rfl, rfl, trivial⟩) S v1 v7 z253 z399 0 f _ _ (by omega) (by omega) hW h) ?_
                    exact ⟨rfl, rfl, rfl, rfl, rfl, rfl, rfl, rfl, rfl, rfl, trivial⟩
                  · conv => whnf
                    refine np_gl (J_L_press_407 (dc := dc) (ds := ds) hX hf hR (fun S418 u416 u417 f419 ce421 sl422 hc423 hs424 hW420 h => np_gl (hk34 S418 u416 u417 f419 _ _ (by omega) (by omega) hW420 h) ⟨rfl, rfl, rfl, rfl, rfl, rfl, rfl, rfl, trivial⟩) (fun S425 f426 ce428 sl429 hc430 hs431 hW427 h => np_gl (hk749 S425 f426 _ _ (by omega) (by omega) hW427 h) ⟨rfl, rfl, rfl, trivial⟩) S v1 v7 z253 z399 2560 f _ _ (by omega) (by omega) hW h) ?_
                    exact ⟨rfl, rfl, rfl, rfl, rfl, rfl, rfl, rfl, rfl, rfl, trivial⟩
            · conv => whnf
              refine pw_br h (fun _ h => ?_) (fun _ h => ?_)
              · conv => whnf
                refine pw_br h (fun _ h => ?_) (fun _ h => ?_)
                · conv => whnf
                  refine np_rd_i (hW.g rfl) ?_
                  conv => whnf
                  refine np_chk_i (pw_and rfl (pw_and rfl (pw_and rfl (pw_and rfl ((pw_and (pw_le (by omega)) (pw_le (by omega)))))))) ?_
                  conv => whnf
                  refine ⟨0, S, 0, z253, rfl, rfl, hW, pw_bd h (fun S432 r435 h f433 hW434 => ?_)⟩
                  rcases r435 with r437 | e438
                  · replace h := pw_ei h
                    conv => whnf
                    refine np_rd_i (hW434.g rfl) ?_
                    conv => whnf
                    refine pw_ck h (fun _ h => ?_)
                    conv => whnf
                    refine pw_br h (fun _ h => ?_) (fun _ h => ?_)
                    · conv => whnf
                      refine np_gl (J_L_press_556 (dc := dc) (ds := ds) hX hf hR (fun S441 u439 u440 f442 ce444 sl445 hc446 hs447 hW443 h => np_gl (hk34 S441 u439 u440 f442 _ _ (by omega) (by omega) hW443 h) ⟨rfl, rfl, rfl, rfl, rfl, rfl, rfl, rfl, trivial⟩) (fun S448 f449 ce451 sl452 hc453 hs454 hW450 h => np_gl (hk749 S448 f449 _ _ (by omega) (by omega) hW450 h) ⟨rfl, rfl, rfl, trivial⟩) S432 v1 v7 z253 r437 1 f433 _ _ (by omega) (by omega) hW434 h) ?_
                      exact ⟨rfl, rfl, rfl, rfl, rfl, rfl, rfl, rfl, rfl, trivial⟩
                    · conv => whnf
                      refine np_gl (J_L_press_556 (dc := dc) (ds := ds) hX hf hR (fun S457 u455 u456 f458 ce460 sl461 hc462 hs463 hW459 h => np_gl (hk34 S457 u455 u456 f458 _ _ (by omega) (by omega) hW459 h) ⟨rfl, rfl, rfl, rfl, rfl, rfl, rfl, rfl, trivial⟩) (fun S464 f465 ce467 sl468 hc469 hs470 hW466 h => np_gl (hk749 S464 f465 _ _ (by omega) (by omega) hW466 h) ⟨rfl, rfl, rfl, trivial⟩) S432 v1 v7 z253 r437 0 f433 _ _ (by omega) (by omega) hW434 h) ?_
                      exact ⟨rfl, rfl, rfl, rfl, rfl, rfl, rfl, rfl, rfl, trivial⟩
                  · exact (pw_pn h).elim
                · conv => whnf
                  refine np_gl (J_L_press_717 (dc := dc) (ds := ds) hX hf hR (fun S473 u471 u472 f474 ce476 sl477 hc478 hs479 hW475 h => np_gl (hk34 S473 u471 u472 f474 _ _ (by omega) (by omega) hW475 h) ⟨rfl, rfl, rfl, rfl, rfl, rfl, rfl, rfl, trivial⟩) (fun S480 f481 ce483 sl484 hc485 hs486 hW482 h => np_gl (hk749 S480 f481 _ _ (by omega) (by omega) hW482 h) ⟨rfl, rfl, rfl, trivial⟩) S v1 v7 z254 f _ _ (by omega) (by omega) hW h) ?_
                  exact ⟨rfl, rfl, rfl, rfl, rfl, rfl, rfl, rfl, rfl, trivial⟩
              · conv => whnf
                refine pw_br h (fun _ h => ?_) (fun _ h => ?_)
                · conv => whnf
                  refine np_rd_i (hW.g rfl) ?_
                  conv => whnf
                  refine pw_br h (fun _ h => ?_) (fun _ h => ?_)
                  · conv => whnf
                    refine np_gl (J_L_press_717 (dc := dc) (ds := ds) hX hf hR (fun S489 u487 u488 f490 ce492 sl493 hc494 hs495 hW491 h => np_gl (hk34 S489 u487 u488 f490 _ _ (by omega) (by omega) hW491 h) ⟨rfl, rfl, rfl, rfl, rfl, rfl, rfl, rfl, trivial⟩) (fun S496 f497 ce499 sl500 hc501 hs502 hW498 h => np_gl (hk749 S496 f497 _ _ (by omega) (by omega) hW498 h) ⟨rfl, rfl, rfl, trivial⟩) S v1 v7 z254 f _ _ (by omega) (by omega) hW h) ?_
                    exact ⟨rfl, rfl, rfl, rfl, rfl, rfl, rfl, rfl, rfl, trivial⟩
                  · conv => whnf
                    refine np_rd_i (hW.g rfl) ?_
                    conv => whnf
                    refine np_rd_i (hW.g rfl) ?_
                    conv => whnf
                    refine pw_ck h (fun _ h => ?_)
                    conv => whnf
                    refine pw_wr (a := 37) (i := 0) (d := upd (S 37 0) ((S 36 0 1) : Int32).toNatClampNeg (((z253 ||| ((v9 - v9 / 4 * 4) <<< (1 &&& 31))) ||| (((v9 / 4) - (v9 / 4) / 6 * 6) <<< (3 &&& 31))) ||| ((1 + ((v9 / 32) - (v9 / 32) / 5 * 5)) <<< (6 &&& 31)))) hW rfl rfl h (fun S503 f504 hW505 h => ?_)
                    conv => whnf
                    refine np_rd_i (hW505.g rfl) ?_
                    conv => whnf
                    refine np_rd_i (hW505.g rfl) ?_
                    conv => whnf
                    refine pw_wr (a := 36) (i := 0) (d := upd (S503 36 0) 1 ((S503 36 0 1) + 1)) hW505 rfl rfl h (fun S506 f507 hW508 h => ?_)
                    conv => whnf
                    refine np_rd_i (hW508.g rfl) ?_
                    conv => whnf
                    refine np_chk_i (pw_and rfl (pw_and rfl (pw_and rfl (pw_and rfl ((pw_and (pw_le (by omega)) (pw_le (by omega)))))))) ?_
                    conv => whnf
                    refine ⟨0, S506, 0, z253, (v9 - v9 / 4 * 4), ((v9 / 4) - (v9 / 4) / 6 * 6), (1 + ((v9 / 32) - (v9 / 32) / 5 * 5)), rfl, rfl, hW508, pw_bd h (fun S509 r512 h f510 hW511 => ?_)⟩
                    rcases r512 with r514 | e515
                    · replace h := pw_ei h
                      conv => whnf
                      refine np_rd_i (hW511.g rfl) ?_
                      conv => whnf
                      refine pw_br h (fun _ h => ?_) (fun _ h => ?_)
                      · conv => whnf
                        refine pw_st h (fun z516 h => ?_)
                        conv => whnf
                        refine np_gl (J_L_press_717 (dc := dc) (ds := ds) hX hf hR (fun S519 u517 u518 f520 ce522 sl523 hc524 hs525 hW521 h => np_gl (hk34 S519 u517 u518 f520 _ _ (by omega) (by omega) hW521 h) ⟨rfl, rfl, rfl, rfl, rfl, rfl, rfl, rfl, trivial⟩) (fun S526 f527 ce529 sl530 hc531 hs532 hW528 h => np_gl (hk749 S526 f527 _ _ (by omega) (by omega) hW528 h) ⟨rfl, rfl, rfl, trivial⟩) S509 v1 v7 z516 f510 _ _ (by omega) (by omega) hW511 h) ?_
                        exact ⟨rfl, rfl, rfl, rfl, rfl, rfl, rfl, rfl, rfl, trivial⟩
                      · conv => whnf
                        refine pw_st h (fun z533 h => ?_)
                        conv => whnf
                        refine np_gl (J_L_press_717 (dc := dc) (ds := ds) hX hf hR (fun S536 u534 u535 f537 ce539 sl540 hc541 hs542 hW538 h => np_gl (hk34 S536 u534 u535 f537 _ _ (by omega) (by omega) hW538 h) ⟨rfl, rfl, rfl, rfl, rfl, rfl, rfl, rfl, trivial⟩) (fun S543 f544 ce546 sl547 hc548 hs549 hW545 h => np_gl (hk749 S543 f544 _ _ (by omega) (by omega) hW545 h) ⟨rfl, rfl, rfl, trivial⟩) S509 v1 v7 z533 f510 _ _ (by omega) (by omega) hW511 h) ?_
                        exact ⟨rfl, rfl, rfl, rfl, rfl, rfl, rfl, rfl, rfl, trivial⟩
                    · exact (pw_pn h).elim
                · conv => whnf
                  refine pw_br h (fun _ h => ?_) (fun _ h => ?_)
                  · conv => whnf
                    refine np_chk_i (pw_and rfl (pw_and rfl (pw_and rfl ((pw_and (pw_le (by omega)) (pw_le (by omega))))))) ?_
                    conv => whnf
                    refine ⟨S, 0, v8, v9, 39, 0, 36, 0, rfl, rfl, rfl, rfl, rfl, rfl, hW, pw_bd h (fun S550 r553 h f551 hW552 => ?_)⟩
                    conv => whnf
                    refine pw_st h (fun z555 h => ?_)
                    conv => whnf
                    refine np_gl (J_L_press_717 (dc := dc) (ds := ds) hX hf hR (fun S558 u556 u557 f559 ce561 sl562 hc563 hs564 hW560 h => np_gl (hk34 S558 u556 u557 f559 _ _ (by omega) (by omega) hW560 h) ⟨rfl, rfl, rfl, rfl, rfl, rfl, rfl, rfl, trivial⟩) (fun S565 f566 ce568 sl569 hc570 hs571 hW567 h => np_gl (hk749 S565 f566 _ _ (by omega) (by omega) hW567 h) ⟨rfl, rfl, rfl, trivial⟩) S550 v1 v7 z555 f551 _ _ (by omega) (by omega) hW552 h) ?_
                    exact ⟨rfl, rfl, rfl, rfl, rfl, rfl, rfl, rfl, rfl, trivial⟩
                  · conv => whnf
                    refine np_chk_i (pw_and rfl (pw_and rfl (pw_and rfl ((pw_and (pw_le (by omega)) (pw_le (by omega))))))) ?_
                    conv => whnf
                    refine ⟨0, S, 0, (v9 - v9 / 6 * 6), 36, 0, rfl, rfl, rfl, rfl, hW, pw_bd h (fun S572 r575 h f573 hW574 => ?_)⟩
                    conv => whnf
                    refine pw_st h (fun z577 h => ?_)
                    conv => whnf
                    refine np_gl (J_L_press_717 (dc := dc) (ds := ds) hX hf hR (fun S580 u578 u579 f581 ce583 sl584 hc585 hs586 hW582 h => np_gl (hk34 S580 u578 u579 f581 _ _ (by omega) (by omega) hW582 h) ⟨rfl, rfl, rfl, rfl, rfl, rfl, rfl, rfl, trivial⟩) (fun S587 f588 ce590 sl591 hc592 hs593 hW589 h => np_gl (hk749 S587 f588 _ _ (by omega) (by omega) hW589 h) ⟨rfl, rfl, rfl, trivial⟩) S572 v1 v7 z577 f573 _ _ (by omega) (by omega) hW574 h) ?_
                    exact ⟨rfl, rfl, rfl, rfl, rfl, rfl, rfl, rfl, rfl, trivial⟩
          · conv => whnf
            refine np_rd_i (hW.g rfl) ?_
            conv => whnf
            refine np_rd_i (hW.g rfl) ?_
            conv => whnf
            refine pw_wr (a := 36) (i := 0) (d := upd (S 36 0) 17 ((S 36 0 17) + 1)) hW rfl rfl h (fun S594 f595 hW596 h => ?_)
            conv => whnf
            refine np_rd_i (hW596.g rfl) ?_
            conv => whnf
            refine pw_br h (fun _ h => ?_) (fun _ h => ?_)
            · conv => whnf
              refine pw_st h (fun z597 h => ?_)
              conv => whnf
              refine np_gl (J_L_press_717 (dc := dc) (ds := ds) hX hf hR (fun S600 u598 u599 f601 ce603 sl604 hc605 hs606 hW602 h => np_gl (hk34 S600 u598 u599 f601 _ _ (by omega) (by omega) hW602 h) ⟨rfl, rfl, rfl, rfl, rfl, rfl, rfl, rfl, trivial⟩) (fun S607 f608 ce610 sl611 hc612 hs613 hW609 h => np_gl (hk749 S607 f608 _ _ (by omega) (by omega) hW609 h) ⟨rfl, rfl, rfl, trivial⟩) S594 v1 v7 z597 f595 _ _ (by omega) (by omega) hW596 h) ?_
              exact ⟨rfl, rfl, rfl, rfl, rfl, rfl, rfl, rfl, rfl, trivial⟩
            · conv => whnf
              refine np_chk_i (pw_and rfl (pw_and rfl (pw_and rfl ((pw_and (pw_le (by omega)) (pw_le (by omega))))))) ?_
              conv => whnf
              refine ⟨0, S594, 0, z253, 36, 0, rfl, rfl, rfl, rfl, hW596, pw_bd h (fun S614 r617 h f615 hW616 => ?_)⟩
              conv => whnf
              refine pw_br h (fun _ h => ?_) (fun _ h => ?_)
              · conv => whnf
                refine pw_st h (fun z619 h => ?_)
                conv => whnf
                refine np_gl (J_L_press_717 (dc := dc) (ds := ds) hX hf hR (fun S622 u620 u621 f623 ce625 sl626 hc627 hs628 hW624 h => np_gl (hk34 S622 u620 u621 f623 _ _ (by omega) (by omega) hW624 h) ⟨rfl, rfl, rfl, rfl, rfl, rfl, rfl, rfl, trivial⟩) (fun S629 f630 ce632 sl633 hc634 hs635 hW631 h => np_gl (hk749 S629 f630 _ _ (by omega) (by omega) hW631 h) ⟨rfl, rfl, rfl, trivial⟩) S614 v1 v7 z619 f615 _ _ (by omega) (by omega) hW616 h) ?_
                exact ⟨rfl, rfl, rfl, rfl, rfl, rfl, rfl, rfl, rfl, trivial⟩
              · conv => whnf
                refine pw_st h (fun z636 h => ?_)
                conv => whnf
                refine np_gl (J_L_press_717 (dc := dc) (ds := ds) hX hf hR (fun S639 u637 u638 f640 ce642 sl643 hc644 hs645 hW641 h => np_gl (hk34 S639 u637 u638 f640 _ _ (by omega) (by omega) hW641 h) ⟨rfl, rfl, rfl, rfl, rfl, rfl, rfl, rfl, trivial⟩) (fun S646 f647 ce649 sl650 hc651 hs652 hW648 h => np_gl (hk749 S646 f647 _ _ (by omega) (by omega) hW648 h) ⟨rfl, rfl, rfl, trivial⟩) S614 v1 v7 z636 f615 _ _ (by omega) (by omega) hW616 h) ?_
                exact ⟨rfl, rfl, rfl, rfl, rfl, rfl, rfl, rfl, rfl, trivial⟩
    · conv => whnf
      refine np_chk_i (pw_and rfl (pw_and rfl (pw_and rfl ((pw_and (pw_le (by omega)) (pw_le (by omega))))))) ?_
      conv => whnf
      refine ⟨0, S, 0, v8, v9, 38, 0, 36, 0, rfl, rfl, rfl, rfl, rfl, rfl, hW, pw_bd h (fun S653 r656 h f654 hW655 => ?_)⟩
      conv => whnf
      refine pw_st h (fun z658 h => ?_)
      conv => whnf
      refine np_gl (J_L_press_717 (dc := dc) (ds := ds) hX hf hR (fun S661 u659 u660 f662 ce664 sl665 hc666 hs667 hW663 h => np_gl (hk34 S661 u659 u660 f662 _ _ (by omega) (by omega) hW663 h) ⟨rfl, rfl, rfl, rfl, rfl, rfl, rfl, rfl, trivial⟩) (fun S668 f669 ce671 sl672 hc673 hs674 hW670 h => np_gl (hk749 S668 f669 _ _ (by omega) (by omega) hW670 h) ⟨rfl, rfl, rfl, trivial⟩) S653 v1 v7 z658 f654 _ _ (by omega) (by omega) hW655 h) ?_
      exact ⟨rfl, rfl, rfl, rfl, rfl, rfl, rfl, rfl, rfl, trivial⟩
  · conv => whnf
    refine np_chk_i (pw_and rfl (pw_and rfl (pw_and rfl ((pw_and (pw_le (by omega)) (pw_le (by omega))))))) ?_
    conv => whnf
    refine ⟨0, S, 0, v8, v9, 36, 0, rfl, rfl, rfl, rfl, hW, pw_bd h (fun S675 r678 h f676 hW677 => ?_)⟩
    conv => whnf
    refine pw_st h (fun z680 h => ?_)
    conv => whnf
    refine np_gl (J_L_press_717 (dc := dc) (ds := ds) hX hf hR (fun S683 u681 u682 f684 ce686 sl687 hc688 hs689 hW685 h => np_gl (hk34 S683 u681 u682 f684 _ _ (by omega) (by omega) hW685 h) ⟨rfl, rfl, rfl, rfl, rfl, rfl, rfl, rfl, trivial⟩) (fun S690 f691 ce693 sl694 hc695 hs696 hW692 h => np_gl (hk749 S690 f691 _ _ (by omega) (by omega) hW692 h) ⟨rfl, rfl, rfl, trivial⟩) S675 v1 v7 z680 f676 _ _ (by omega) (by omega) hW677 h) ?_
    exact ⟨rfl, rfl, rfl, rfl, rfl, rfl, rfl, rfl, rfl, trivial⟩
noncomputable def m_L_press_34 (Ls : Nat) (xs : Nat → Int32) (k749 : pw_S → pw_R Int32) : Nat → pw_S → Int32 → Int32 → pw_R Int32
| 0, _, _, _ => none
| N + 1, S, v1, v7 =>
 if 54 ≤ v7 then
 (k749 S)
 else
 (pw_b (m_L_draw Ls xs S ((v1 + (3 * v7)) + 1) 1073741824) fun S697 r700 =>
 pw_l (r700 : Int32) fun z702 =>
 pw_b (m_L_draw Ls xs S697 ((v1 + (3 * v7)) + 2) 1073741824) fun S703 r706 =>
 pw_l (r706 : Int32) fun z708 =>
 if 4 ≤ v7 then
 (if 6 ≤ v7 then
 (pw_b (m_L_draw Ls xs S703 (v1 + (3 * v7)) 22) fun S709 r712 =>
 m_L_press_j107 Ls xs (fun S716 u714 u715 => m_L_press_34 Ls xs k749 N S716 u714 u715) (fun S723 => k749 S723) S709 v1 v7 z702 z708 r712)
 else
 (m_L_press_j107 Ls xs (fun S732 u730 u731 => m_L_press_34 Ls xs k749 N S732 u730 u731) (fun S739 => k749 S739) S703 v1 v7 z702 z708 9))
 else
 (m_L_press_j107 Ls xs (fun S748 u746 u747 => m_L_press_34 Ls xs k749 N S748 u746 u747) (fun S755 => k749 S755) S703 v1 v7 z702 z708 0))
set_option maxRecDepth 100000 in
set_option maxHeartbeats 8000000 in
theorem L_L_press_34 {X : np_Ctx} (hX : np_ok RL cL_press 18 12 334 188083 1145773 .ireturn X) {Ls : Nat} {xs : Nat → Int32} (hf : np_lf Ls xs X) {n dc ds : Nat} (hR : ∀ st w ce sl, (fun st _ ce sl => ce ≤ 188083 ∧ sl ≤ 1145773 ∧ ∃ r, st = [.int r] ∧ narrow .boolean (.int r) = .int r ∧ r = 1) st w ce sl → X.2.2.1 st w ce sl) {k749 : pw_S → pw_R Int32} (hk749 : ∀ (S : pw_S) (f : Nat → Option np_E) (ce sl : Nat), ce + dc ≤ 188083 → sl + ds ≤ 1145773 → pw_W 0 (n, f) S → pw_p (k749 S) (fun _ r => r = 1) → np_G X 749 [(2, .ref (pw_pl 61 0)), (3, .ref (pw_pl 36 0)), (4, .ref (pw_pl 37 0))] [] (n, f) ce sl) : ∀ (N : Nat) (S : pw_S) (v1 : Int32) (v7 : Int32) (f : Nat → Option np_E) (ce sl : Nat), ce + N * 3287 + dc ≤ 188083 → sl + N * 19722 + ds ≤ 1145773 → pw_W 0 (n, f) S → pw_p (m_L_press_34 Ls xs k749 N S v1 v7) (fun _ r => r = 1) → np_G X 34 [(0, .ref 0), (1, .int v1), (2, .ref (pw_pl 61 0)), (3, .ref (pw_pl 36 0)), (4, .ref (pw_pl 37 0)), (5, .ref (pw_pl 38 0)), (6, .ref (pw_pl 39 0)), (7, .int v7)] [] (n, f) ce sl := by
  intro N
  induction N with
  | zero =>
    intro S v1 v7 f ce sl hc hs hW h
    exact (pw_pn h).elim
  | succ N ih =>
    intro S v1 v7 f ce sl hc hs hW h
    unfold m_L_press_34 at h
    refine np_soundW (so_L_press hX hf hR) [34, 107, 230, 407, 442, 556, 717, 749] 400 34 _ _ _ _ _ ?_
    conv => whnf
    refine pw_br h (fun _ h => ?_) (fun _ h => ?_)
    · conv => whnf
      exact np_gl (hk749 S f _ _ (by omega) (by omega) hW h) ⟨rfl, rfl, rfl, trivial⟩
    · conv => whnf
      refine np_chk_i (pw_and rfl (pw_and rfl (pw_and rfl ((pw_and (pw_le (by omega)) (pw_le (by omega))))))) ?_
      conv => whnf
      refine ⟨0, S, ((v1 + (3 * v7)) + 1), 1073741824, rfl, hW, pw_bd h (fun S697 r700 h f698 hW699 => ?_)⟩
      conv => whnf
      refine pw_st h (fun z702 h => ?_)
      conv => whnf
      refine np_chk_i (pw_and rfl (pw_and rfl (pw_and rfl ((pw_and (pw_le (by omega)) (pw_le (by omega))))))) ?_
      conv => whnf
      refine ⟨0, S697, ((v1 + (3 * v7)) + 2), 1073741824, rfl, hW699, pw_bd h (fun S703 r706 h f704 hW705 => ?_)⟩
      conv => whnf
      refine pw_st h (fun z708 h => ?_)
      conv => whnf
      refine pw_br h (fun _ h => ?_) (fun _ h => ?_)
      · conv => whnf
        refine pw_br h (fun _ h => ?_) (fun _ h => ?_)
        · conv => whnf
          refine np_chk_i (pw_and rfl (pw_and rfl (pw_and rfl ((pw_and (pw_le (by omega)) (pw_le (by omega))))))) ?_
          conv => whnf
          refine ⟨0, S703, (v1 + (3 * v7)), 22, rfl, hW705, pw_bd h (fun S709 r712 h f710 hW711 => ?_)⟩
          conv => whnf
          refine np_gl (J_L_press_107 (dc := N * 3287 + dc) (ds := N * 19722 + ds) hX hf hR (fun S716 u714 u715 f717 ce719 sl720 hc721 hs722 hW718 h => np_gl (ih S716 u714 u715 f717 _ _ (by omega) (by omega) hW718 h) ⟨rfl, rfl, rfl, rfl, rfl, rfl, rfl, rfl, trivial⟩) (fun S723 f724 ce726 sl727 hc728 hs729 hW725 h => np_gl (hk749 S723 f724 _ _ (by omega) (by omega) hW725 h) ⟨rfl, rfl, rfl, trivial⟩) S709 v1 v7 z702 z708 r712 f710 _ _ (by omega) (by omega) hW711 h) ?_
          exact ⟨rfl, rfl, rfl, rfl, rfl, rfl, rfl, rfl, rfl, rfl, trivial⟩
        · conv => whnf
          refine np_gl (J_L_press_107 (dc := N * 3287 + dc) (ds := N * 19722 + ds) hX hf hR (fun S732 u730 u731 f733 ce735 sl736 hc737 hs738 hW734 h => np_gl (ih S732 u730 u731 f733 _ _ (by omega) (by omega) hW734 h) ⟨rfl, rfl, rfl, rfl, rfl, rfl, rfl, rfl, trivial⟩) (fun S739 f740 ce742 sl743 hc744 hs745 hW741 h => np_gl (hk749 S739 f740 _ _ (by omega) (by omega) hW741 h) ⟨rfl, rfl, rfl, trivial⟩) S703 v1 v7 z702 z708 9 f704 _ _ (by omega) (by omega) hW705 h) ?_
          exact ⟨rfl, rfl, rfl, rfl, rfl, rfl, rfl, rfl, rfl, rfl, trivial⟩
      · conv => whnf
        refine np_gl (J_L_press_107 (dc := N * 3287 + dc) (ds := N * 19722 + ds) hX hf hR (fun S748 u746 u747 f749 ce751 sl752 hc753 hs754 hW750 h => np_gl (ih S748 u746 u747 f749 _ _ (by omega) (by omega) hW750 h) ⟨rfl, rfl, rfl, rfl, rfl, rfl, rfl, rfl, trivial⟩) (fun S755 f756 ce758 sl759 hc760 hs761 hW757 h => np_gl (hk749 S755 f756 _ _ (by omega) (by omega) hW757 h) ⟨rfl, rfl, rfl, trivial⟩) S703 v1 v7 z702 z708 0 f704 _ _ (by omega) (by omega) hW705 h) ?_
        exact ⟨rfl, rfl, rfl, rfl, rfl, rfl, rfl, rfl, rfl, rfl, trivial⟩
noncomputable def m_L_press_j749 (Ls : Nat) (xs : Nat → Int32)  (S : pw_S) : pw_R Int32 :=
 pw_b (m_L_areColumns S 0 37 0 36 0) fun S762 r765 =>
 if r765 = 0 then
 (some (S762, 0))
 else
 (pw_b (m_L_areKeys S762 0 0 36 0) fun S767 r770 =>
 if r770 = 0 then
 (some (S767, 0))
 else
 (pw_b (m_L_areKeys S767 0 1 36 0) fun S772 r775 =>
 if r775 = 0 then
 (some (S772, 0))
 else
 (some (S772, 1))))
set_option maxRecDepth 100000 in
set_option maxHeartbeats 8000000 in
theorem J_L_press_749 {X : np_Ctx} (hX : np_ok RL cL_press 18 12 334 188083 1145773 .ireturn X) {Ls : Nat} {xs : Nat → Int32} (hf : np_lf Ls xs X) {n dc ds : Nat} (hR : ∀ st w ce sl, (fun st _ ce sl => ce ≤ 188083 ∧ sl ≤ 1145773 ∧ ∃ r, st = [.int r] ∧ narrow .boolean (.int r) = .int r ∧ r = 1) st w ce sl → X.2.2.1 st w ce sl) (S : pw_S) (f : Nat → Option np_E) (ce sl : Nat) (hc : ce + 5797 + dc ≤ 188083) (hs : sl + 34782 + ds ≤ 1145773) (hW : pw_W 0 (n, f) S) (h : pw_p (m_L_press_j749 Ls xs S) (fun _ r => r = 1)) : np_G X 749 [(2, .ref (pw_pl 61 0)), (3, .ref (pw_pl 36 0)), (4, .ref (pw_pl 37 0))] [] (n, f) ce sl := by
  unfold m_L_press_j749 at h
  refine np_soundW (so_L_press hX hf hR) [34, 107, 230, 407, 442, 556, 717, 749] 400 749 _ _ _ _ _ ?_
  conv => whnf
  refine np_chk_i (pw_and rfl (pw_and rfl (pw_and rfl ((pw_and (pw_le (by omega)) (pw_le (by omega))))))) ?_
  conv => whnf
  refine ⟨0, S, 0, 37, 0, 36, 0, rfl, rfl, rfl, rfl, rfl, rfl, hW, pw_bd h (fun S762 r765 h f763 hW764 => ?_)⟩
  conv => whnf
  refine pw_br h (fun _ h => ?_) (fun _ h => ?_)
  · conv => whnf
    exact ⟨(by omega), (by omega), _, rfl, by decide, pw_ps h⟩
  · conv => whnf
    refine np_chk_i (pw_and rfl (pw_and rfl (pw_and rfl ((pw_and (pw_le (by omega)) (pw_le (by omega))))))) ?_
    conv => whnf
    refine ⟨0, S762, 0, 0, 36, 0, rfl, rfl, rfl, rfl, hW764, pw_bd h (fun S767 r770 h f768 hW769 => ?_)⟩
    conv => whnf
    refine pw_br h (fun _ h => ?_) (fun _ h => ?_)
    · conv => whnf
      exact ⟨(by omega), (by omega), _, rfl, by decide, pw_ps h⟩
    · conv => whnf
      refine np_chk_i (pw_and rfl (pw_and rfl (pw_and rfl ((pw_and (pw_le (by omega)) (pw_le (by omega))))))) ?_
      conv => whnf
      refine ⟨0, S767, 0, 1, 36, 0, rfl, rfl, rfl, rfl, hW769, pw_bd h (fun S772 r775 h f773 hW774 => ?_)⟩
      conv => whnf
      refine pw_br h (fun _ h => ?_) (fun _ h => ?_)
      · conv => whnf
        exact ⟨(by omega), (by omega), _, rfl, by decide, pw_ps h⟩
      · conv => whnf
        exact ⟨(by omega), (by omega), _, rfl, by decide, pw_ps h⟩
