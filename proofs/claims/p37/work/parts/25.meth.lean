theorem gw20 : (Jvm.Cond.selects "NotationPress$Reader" ({ cls := "NotationPress$Reader", name := "branch", desc := "()V" } : Jvm.MethodName) ({ cls := "NotationPress$Reader", name := "branch", desc := "()V" } : Jvm.MethodName)) ∈ np_gw := np_gwi 20 (by decide +kernel) rfl
theorem gw21 : (Jvm.Cond.selects "NotationPress$Reader" ({ cls := "NotationPress$Reader", name := "readNumber", desc := "()V" } : Jvm.MethodName) ({ cls := "NotationPress$Reader", name := "readNumber", desc := "()V" } : Jvm.MethodName)) ∈ np_gw := np_gwi 21 (by decide +kernel) rfl
theorem gw24 : (Jvm.Cond.selects "NotationPress$Reader" ({ cls := "NotationPress$Reader", name := "readWord", desc := "()V" } : Jvm.MethodName) ({ cls := "NotationPress$Reader", name := "readWord", desc := "()V" } : Jvm.MethodName)) ∈ np_gw := np_gwi 24 (by decide +kernel) rfl
theorem gw25 : (Jvm.Cond.selects "NotationPress$Reader" ({ cls := "NotationPress$Reader", name := "gatherWords", desc := "(I)I" } : Jvm.MethodName) ({ cls := "NotationPress$Reader", name := "gatherWords", desc := "(I)I" } : Jvm.MethodName)) ∈ np_gw := np_gwi 25 (by decide +kernel) rfl
theorem gw26 : (Jvm.Cond.selects "NotationPress$Reader" ({ cls := "NotationPress$Reader", name := "letterAhead", desc := "(I)I" } : Jvm.MethodName) ({ cls := "NotationPress$Reader", name := "letterAhead", desc := "(I)I" } : Jvm.MethodName)) ∈ np_gw := np_gwi 26 (by decide +kernel) rfl
theorem gw27 : (Jvm.Cond.selects "NotationPress$Reader" ({ cls := "NotationPress$Reader", name := "areFills", desc := "(III)Z" } : Jvm.MethodName) ({ cls := "NotationPress$Reader", name := "areFills", desc := "(III)Z" } : Jvm.MethodName)) ∈ np_gw := np_gwi 27 (by decide +kernel) rfl
theorem gw28 : (Jvm.Cond.selects "NotationPress$Reader" ({ cls := "NotationPress$Reader", name := "readOpen", desc := "()V" } : Jvm.MethodName) ({ cls := "NotationPress$Reader", name := "readOpen", desc := "()V" } : Jvm.MethodName)) ∈ np_gw := np_gwi 28 (by decide +kernel) rfl
theorem gw29 : (Jvm.Cond.selects "NotationPress$Reader" ({ cls := "NotationPress$Reader", name := "readBits", desc := "()V" } : Jvm.MethodName) ({ cls := "NotationPress$Reader", name := "readBits", desc := "()V" } : Jvm.MethodName)) ∈ np_gw := np_gwi 29 (by decide +kernel) rfl
theorem gw30 : (Jvm.Cond.selects "NotationPress$Reader" ({ cls := "NotationPress$Reader", name := "readCount", desc := "()V" } : Jvm.MethodName) ({ cls := "NotationPress$Reader", name := "readCount", desc := "()V" } : Jvm.MethodName)) ∈ np_gw := np_gwi 30 (by decide +kernel) rfl
theorem gw31 : (Jvm.Cond.selects "NotationPress$Reader" ({ cls := "NotationPress$Reader", name := "readUnit", desc := "(I)V" } : Jvm.MethodName) ({ cls := "NotationPress$Reader", name := "readUnit", desc := "(I)V" } : Jvm.MethodName)) ∈ np_gw := np_gwi 31 (by decide +kernel) rfl
theorem gw32 : (Jvm.Cond.selects "NotationPress$Reader" ({ cls := "NotationPress$Reader", name := "readPlace", desc := "(I)V" } : Jvm.MethodName) ({ cls := "NotationPress$Reader", name := "readPlace", desc := "(I)V" } : Jvm.MethodName)) ∈ np_gw := np_gwi 32 (by decide +kernel) rfl
theorem gw33 : (Jvm.Cond.selects "NotationPress$Reader" ({ cls := "NotationPress$Reader", name := "enter", desc := "()V" } : Jvm.MethodName) ({ cls := "NotationPress$Reader", name := "enter", desc := "()V" } : Jvm.MethodName)) ∈ np_gw := np_gwi 33 (by decide +kernel) rfl
theorem gw226 : (Jvm.Cond.fieldLink "NotationPress$Reader" (26 : Nat) "NotationPress$Reader" "words" "[I") ∈ np_gw := np_gwi 226 (by decide +kernel) rfl
theorem gw227 : (Jvm.Cond.fieldLink "NotationPress$Reader" (29 : Nat) "NotationPress$Reader" "wordEnds" "[I") ∈ np_gw := np_gwi 227 (by decide +kernel) rfl
theorem gw1013 : (Jvm.Cond.methodLink "NotationPress$Reader" (71 : Nat) ({ cls := "NotationPress$Trace", name := "isOver", desc := "(LNotationPress$Items;)Z" } : Jvm.MethodName)) ∈ np_gw := np_gwi 1013 (by decide +kernel) rfl
theorem gw1014 : (Jvm.Cond.methodLink "NotationPress$Reader" (75 : Nat) ({ cls := "NotationPress$Reader", name := "branch", desc := "()V" } : Jvm.MethodName)) ∈ np_gw := np_gwi 1014 (by decide +kernel) rfl
theorem gw1016 : (Jvm.Cond.instanceMethod ({ cls := "NotationPress$Reader", name := "branch", desc := "()V" } : Jvm.MethodName)) ∈ np_gw := np_gwi 1016 (by decide +kernel) rfl
theorem gw1017 : (Jvm.Cond.code ({ cls := "NotationPress$Reader", name := "branch", desc := "()V" } : Jvm.MethodName) prog_6_method_6_code (1 : Nat) (Option.none : Option Jvm.ClassFile.FieldType)) ∈ np_gw := np_gwi 1017 (by decide +kernel) rfl
theorem gw1018 : (Jvm.Cond.methodLink "NotationPress$Reader" (81 : Nat) ({ cls := "NotationPress$Items", name := "kind", desc := "(I)I" } : Jvm.MethodName)) ∈ np_gw := np_gwi 1018 (by decide +kernel) rfl
theorem gw1019 : (Jvm.Cond.methodLink "NotationPress$Reader" (85 : Nat) ({ cls := "NotationPress$Reader", name := "readNumber", desc := "()V" } : Jvm.MethodName)) ∈ np_gw := np_gwi 1019 (by decide +kernel) rfl
theorem gw1021 : (Jvm.Cond.instanceMethod ({ cls := "NotationPress$Reader", name := "readNumber", desc := "()V" } : Jvm.MethodName)) ∈ np_gw := np_gwi 1021 (by decide +kernel) rfl
theorem gw1022 : (Jvm.Cond.code ({ cls := "NotationPress$Reader", name := "readNumber", desc := "()V" } : Jvm.MethodName) prog_6_method_10_code (4 : Nat) (Option.none : Option Jvm.ClassFile.FieldType)) ∈ np_gw := np_gwi 1022 (by decide +kernel) rfl
theorem gw1042 : (Jvm.Cond.methodLink "NotationPress$Reader" (88 : Nat) ({ cls := "NotationPress$Reader", name := "readWord", desc := "()V" } : Jvm.MethodName)) ∈ np_gw := np_gwi 1042 (by decide +kernel) rfl
theorem gw1044 : (Jvm.Cond.instanceMethod ({ cls := "NotationPress$Reader", name := "readWord", desc := "()V" } : Jvm.MethodName)) ∈ np_gw := np_gwi 1044 (by decide +kernel) rfl
theorem gw1045 : (Jvm.Cond.code ({ cls := "NotationPress$Reader", name := "readWord", desc := "()V" } : Jvm.MethodName) prog_6_method_11_code (6 : Nat) (Option.none : Option Jvm.ClassFile.FieldType)) ∈ np_gw := np_gwi 1045 (by decide +kernel) rfl
theorem gw1046 : (Jvm.Cond.methodLinkNest "NotationPress$Reader" (167 : Nat) ({ cls := "NotationPress", name := "fillOfWord", desc := "(I)I" } : Jvm.MethodName) "NotationPress") ∈ np_nw := np_nwi 1046 (by decide +kernel) rfl
theorem gw1047 : (Jvm.Cond.methodLink "NotationPress$Reader" (170 : Nat) ({ cls := "NotationPress$Reader", name := "gatherWords", desc := "(I)I" } : Jvm.MethodName)) ∈ np_gw := np_gwi 1047 (by decide +kernel) rfl
theorem gw1049 : (Jvm.Cond.instanceMethod ({ cls := "NotationPress$Reader", name := "gatherWords", desc := "(I)I" } : Jvm.MethodName)) ∈ np_gw := np_gwi 1049 (by decide +kernel) rfl
theorem gw1050 : (Jvm.Cond.code ({ cls := "NotationPress$Reader", name := "gatherWords", desc := "(I)I" } : Jvm.MethodName) prog_6_method_14_code (6 : Nat) (Option.some Jvm.ClassFile.FieldType.int)) ∈ np_gw := np_gwi 1050 (by decide +kernel) rfl
theorem gw1051 : (Jvm.Cond.methodLinkNest "NotationPress$Reader" (177 : Nat) ({ cls := "NotationPress", name := "put", desc := "([III)V" } : Jvm.MethodName) "NotationPress") ∈ np_nw := np_nwi 1051 (by decide +kernel) rfl
theorem gw1052 : (Jvm.Cond.methodLink "NotationPress$Reader" (181 : Nat) ({ cls := "NotationPress$Reader", name := "letterAhead", desc := "(I)I" } : Jvm.MethodName)) ∈ np_gw := np_gwi 1052 (by decide +kernel) rfl
theorem gw1054 : (Jvm.Cond.instanceMethod ({ cls := "NotationPress$Reader", name := "letterAhead", desc := "(I)I" } : Jvm.MethodName)) ∈ np_gw := np_gwi 1054 (by decide +kernel) rfl
theorem gw1055 : (Jvm.Cond.code ({ cls := "NotationPress$Reader", name := "letterAhead", desc := "(I)I" } : Jvm.MethodName) prog_6_method_15_code (3 : Nat) (Option.some Jvm.ClassFile.FieldType.int)) ∈ np_gw := np_gwi 1055 (by decide +kernel) rfl
theorem gw1056 : (Jvm.Cond.methodLinkNest "NotationPress$Reader" (187 : Nat) ({ cls := "NotationPress", name := "isBetween", desc := "(III)Z" } : Jvm.MethodName) "NotationPress") ∈ np_nw := np_nwi 1056 (by decide +kernel) rfl
theorem gw1057 : (Jvm.Cond.constant "NotationPress$Reader" (190 : Nat) (55357 : Int32)) ∈ np_gw := np_gwi 1057 (by decide +kernel) rfl
theorem gw1058 : (Jvm.Cond.constant "NotationPress$Reader" (191 : Nat) (56832 : Int32)) ∈ np_gw := np_gwi 1058 (by decide +kernel) rfl
theorem gw1059 : (Jvm.Cond.methodLinkNest "NotationPress$Reader" (184 : Nat) ({ cls := "NotationPress", name := "unitsOfLetter", desc := "(I)I" } : Jvm.MethodName) "NotationPress") ∈ np_nw := np_nwi 1059 (by decide +kernel) rfl
theorem gw1060 : (Jvm.Cond.methodLink "NotationPress$Reader" (173 : Nat) ({ cls := "NotationPress$Reader", name := "areFills", desc := "(III)Z" } : Jvm.MethodName)) ∈ np_gw := np_gwi 1060 (by decide +kernel) rfl
theorem gw1062 : (Jvm.Cond.instanceMethod ({ cls := "NotationPress$Reader", name := "areFills", desc := "(III)Z" } : Jvm.MethodName)) ∈ np_gw := np_gwi 1062 (by decide +kernel) rfl
theorem gw1063 : (Jvm.Cond.code ({ cls := "NotationPress$Reader", name := "areFills", desc := "(III)Z" } : Jvm.MethodName) prog_6_method_12_code (5 : Nat) (Option.some Jvm.ClassFile.FieldType.boolean)) ∈ np_gw := np_gwi 1063 (by decide +kernel) rfl
theorem gw1064 : (Jvm.Cond.methodLink "NotationPress$Reader" (91 : Nat) ({ cls := "NotationPress$Reader", name := "readOpen", desc := "()V" } : Jvm.MethodName)) ∈ np_gw := np_gwi 1064 (by decide +kernel) rfl
theorem gw1066 : (Jvm.Cond.instanceMethod ({ cls := "NotationPress$Reader", name := "readOpen", desc := "()V" } : Jvm.MethodName)) ∈ np_gw := np_gwi 1066 (by decide +kernel) rfl
theorem gw1067 : (Jvm.Cond.code ({ cls := "NotationPress$Reader", name := "readOpen", desc := "()V" } : Jvm.MethodName) prog_6_method_13_code (5 : Nat) (Option.none : Option Jvm.ClassFile.FieldType)) ∈ np_gw := np_gwi 1067 (by decide +kernel) rfl
theorem gw1068 : (Jvm.Cond.methodLink "NotationPress$Reader" (94 : Nat) ({ cls := "NotationPress$Reader", name := "readBits", desc := "()V" } : Jvm.MethodName)) ∈ np_gw := np_gwi 1068 (by decide +kernel) rfl
theorem gw1070 : (Jvm.Cond.instanceMethod ({ cls := "NotationPress$Reader", name := "readBits", desc := "()V" } : Jvm.MethodName)) ∈ np_gw := np_gwi 1070 (by decide +kernel) rfl
theorem gw1071 : (Jvm.Cond.code ({ cls := "NotationPress$Reader", name := "readBits", desc := "()V" } : Jvm.MethodName) prog_6_method_16_code (4 : Nat) (Option.none : Option Jvm.ClassFile.FieldType)) ∈ np_gw := np_gwi 1071 (by decide +kernel) rfl
theorem gw1072 : (Jvm.Cond.methodLink "NotationPress$Reader" (97 : Nat) ({ cls := "NotationPress$Reader", name := "readCount", desc := "()V" } : Jvm.MethodName)) ∈ np_gw := np_gwi 1072 (by decide +kernel) rfl
theorem gw1074 : (Jvm.Cond.instanceMethod ({ cls := "NotationPress$Reader", name := "readCount", desc := "()V" } : Jvm.MethodName)) ∈ np_gw := np_gwi 1074 (by decide +kernel) rfl
theorem gw1075 : (Jvm.Cond.code ({ cls := "NotationPress$Reader", name := "readCount", desc := "()V" } : Jvm.MethodName) prog_6_method_17_code (2 : Nat) (Option.none : Option Jvm.ClassFile.FieldType)) ∈ np_gw := np_gwi 1075 (by decide +kernel) rfl
theorem gw1076 : (Jvm.Cond.methodLink "NotationPress$Reader" (103 : Nat) ({ cls := "NotationPress$Reader", name := "readUnit", desc := "(I)V" } : Jvm.MethodName)) ∈ np_gw := np_gwi 1076 (by decide +kernel) rfl
theorem gw1078 : (Jvm.Cond.instanceMethod ({ cls := "NotationPress$Reader", name := "readUnit", desc := "(I)V" } : Jvm.MethodName)) ∈ np_gw := np_gwi 1078 (by decide +kernel) rfl
theorem gw1079 : (Jvm.Cond.code ({ cls := "NotationPress$Reader", name := "readUnit", desc := "(I)V" } : Jvm.MethodName) prog_6_method_18_code (2 : Nat) (Option.none : Option Jvm.ClassFile.FieldType)) ∈ np_gw := np_gwi 1079 (by decide +kernel) rfl
theorem gw1080 : (Jvm.Cond.methodLink "NotationPress$Reader" (107 : Nat) ({ cls := "NotationPress$Trace", name := "checkDigit", desc := "()I" } : Jvm.MethodName)) ∈ np_gw := np_gwi 1080 (by decide +kernel) rfl
theorem gw1081 : (Jvm.Cond.methodLink "NotationPress$Reader" (111 : Nat) ({ cls := "NotationPress$Trace", name := "startOf", desc := "(I)I" } : Jvm.MethodName)) ∈ np_gw := np_gwi 1081 (by decide +kernel) rfl
theorem gw1082 : (Jvm.Cond.methodLink "NotationPress$Reader" (114 : Nat) ({ cls := "NotationPress$Reader", name := "readPlace", desc := "(I)V" } : Jvm.MethodName)) ∈ np_gw := np_gwi 1082 (by decide +kernel) rfl
theorem gw1084 : (Jvm.Cond.instanceMethod ({ cls := "NotationPress$Reader", name := "readPlace", desc := "(I)V" } : Jvm.MethodName)) ∈ np_gw := np_gwi 1084 (by decide +kernel) rfl
theorem gw1085 : (Jvm.Cond.code ({ cls := "NotationPress$Reader", name := "readPlace", desc := "(I)V" } : Jvm.MethodName) prog_6_method_19_code (2 : Nat) (Option.none : Option Jvm.ClassFile.FieldType)) ∈ np_gw := np_gwi 1085 (by decide +kernel) rfl
theorem gw1086 : (Jvm.Cond.methodLink "NotationPress$Reader" (117 : Nat) ({ cls := "NotationPress$Reader", name := "enter", desc := "()V" } : Jvm.MethodName)) ∈ np_gw := np_gwi 1086 (by decide +kernel) rfl
theorem gw1088 : (Jvm.Cond.instanceMethod ({ cls := "NotationPress$Reader", name := "enter", desc := "()V" } : Jvm.MethodName)) ∈ np_gw := np_gwi 1088 (by decide +kernel) rfl
theorem gw1089 : (Jvm.Cond.code ({ cls := "NotationPress$Reader", name := "enter", desc := "()V" } : Jvm.MethodName) prog_6_method_7_code (2 : Nat) (Option.none : Option Jvm.ClassFile.FieldType)) ∈ np_gw := np_gwi 1089 (by decide +kernel) rfl
theorem gw1090 : (Jvm.Cond.methodLink "NotationPress$Reader" (120 : Nat) ({ cls := "NotationPress$Trace", name := "enter", desc := "(LNotationPress$Items;)V" } : Jvm.MethodName)) ∈ np_gw := np_gwi 1090 (by decide +kernel) rfl
theorem dX4_letterAhead_0 : decode cX4_letterAhead 0 = .ok (.aload_n 0, 1) := by decide +kernel
theorem dX4_letterAhead_1 : decode cX4_letterAhead 1 = .ok (.iload_n 1, 1) := by decide +kernel
theorem dX4_letterAhead_2 : decode cX4_letterAhead 2 = .ok (.invokevirtual 136, 3) := by decide +kernel
theorem dX4_letterAhead_5 : decode cX4_letterAhead 5 = .ok (.istore_n 2, 1) := by decide +kernel
theorem dX4_letterAhead_6 : decode cX4_letterAhead 6 = .ok (.iload_n 2, 1) := by decide +kernel
theorem dX4_letterAhead_7 : decode cX4_letterAhead 7 = .ok (.bipush 97, 2) := by decide +kernel
theorem dX4_letterAhead_9 : decode cX4_letterAhead 9 = .ok (.bipush 122, 2) := by decide +kernel
theorem dX4_letterAhead_11 : decode cX4_letterAhead 11 = .ok (.invokestatic 187, 3) := by decide +kernel
theorem dX4_letterAhead_14 : decode cX4_letterAhead 14 = .ok (.ifCond .eq 10, 3) := by decide +kernel
theorem dX4_letterAhead_17 : decode cX4_letterAhead 17 = .ok (.iload_n 2, 1) := by decide +kernel
theorem dX4_letterAhead_18 : decode cX4_letterAhead 18 = .ok (.bipush 97, 2) := by decide +kernel
theorem dX4_letterAhead_20 : decode cX4_letterAhead 20 = .ok (.isub, 1) := by decide +kernel
theorem dX4_letterAhead_21 : decode cX4_letterAhead 21 = .ok (.iconst 1, 1) := by decide +kernel
theorem dX4_letterAhead_22 : decode cX4_letterAhead 22 = .ok (.iadd, 1) := by decide +kernel
theorem dX4_letterAhead_23 : decode cX4_letterAhead 23 = .ok (.ireturn, 1) := by decide +kernel
theorem dX4_letterAhead_24 : decode cX4_letterAhead 24 = .ok (.iload_n 2, 1) := by decide +kernel
theorem dX4_letterAhead_25 : decode cX4_letterAhead 25 = .ok (.ldc 190, 2) := by decide +kernel
theorem dX4_letterAhead_27 : decode cX4_letterAhead 27 = .ok (.if_icmp .ne 20, 3) := by decide +kernel
theorem dX4_letterAhead_30 : decode cX4_letterAhead 30 = .ok (.aload_n 0, 1) := by decide +kernel
theorem dX4_letterAhead_31 : decode cX4_letterAhead 31 = .ok (.iload_n 1, 1) := by decide +kernel
theorem dX4_letterAhead_32 : decode cX4_letterAhead 32 = .ok (.iconst 1, 1) := by decide +kernel
theorem dX4_letterAhead_33 : decode cX4_letterAhead 33 = .ok (.iadd, 1) := by decide +kernel
theorem dX4_letterAhead_34 : decode cX4_letterAhead 34 = .ok (.invokevirtual 136, 3) := by decide +kernel
theorem dX4_letterAhead_37 : decode cX4_letterAhead 37 = .ok (.ldc 191, 2) := by decide +kernel
theorem dX4_letterAhead_39 : decode cX4_letterAhead 39 = .ok (.if_icmp .ne 8, 3) := by decide +kernel
theorem dX4_letterAhead_42 : decode cX4_letterAhead 42 = .ok (.bipush 27, 2) := by decide +kernel
theorem dX4_letterAhead_44 : decode cX4_letterAhead 44 = .ok (.goto 4, 3) := by decide +kernel
theorem dX4_letterAhead_47 : decode cX4_letterAhead 47 = .ok (.iconst 0, 1) := by decide +kernel
theorem dX4_letterAhead_48 : decode cX4_letterAhead 48 = .ok (.ireturn, 1) := by decide +kernel
def is_X4_letterAhead (Rt : np_Rt) : List (Nat × np_Op) := [(0, np_ald 1 0), (1, np_ild 1 1), (2, nw_callV 4 2 sp_X4_ahead 2 0 0 0 0), (5, nw_ist 1 2), (6, np_ild 1 2), (7, np_push 2 (.int 97)), (9, np_push 2 (.int 122)), (11, nq_call 3 sp_X11_isBetween 3 0 0 0 0), (14, nq_if (fun x => x = 0) 24), (17, np_ild 1 2), (18, np_push 2 (.int 97)), (20, np_ib (fun x y => x - y)), (21, np_push 1 (.int 1)), (22, np_ib (fun x y => x + y)), (23, np_ret Rt), (24, np_ild 1 2), (25, np_push 2 (.int 55357)), (27, nq_icne 47), (30, np_ald 1 0), (31, np_ild 1 1), (32, np_push 1 (.int 1)), (33, np_ib (fun x y => x + y)), (34, nw_callV 4 2 sp_X4_ahead 2 0 0 0 0), (37, np_push 2 (.int 56832)), (39, nq_icne 47), (42, np_push 2 (.int 27)), (44, np_goto 48), (47, np_push 1 (.int 0)), (48, np_ret Rt)]
set_option maxRecDepth 20000 in
theorem so_X4_letterAhead {X : np_Ctx} {Rt : np_Rt} (hX : np_ok RX4 cX4_letterAhead 3 2 42 0 0 .ireturn X) (hR : ∀ st w ce sl, Rt st w ce sl → X.2.2.1 st w ce sl) : ∀ q ∈ is_X4_letterAhead Rt, np_S X q.1 q.2 :=
  List.forall_mem_cons.mpr ⟨np_s_aload_n hX dX4_letterAhead_0 rfl, List.forall_mem_cons.mpr ⟨np_s_iload_n hX dX4_letterAhead_1 rfl, List.forall_mem_cons.mpr ⟨np_S.mono (op := np_callV 4 2 sp_X4_ahead 2 0 0 0 0) (np_s_callV hX C_X4_ahead dX4_letterAhead_2 (q := (RX4, TX4, 11)) rfl rfl gw1027 gw67 gw1024 gw1026 gw22 ⟨by decide, by decide, by decide⟩ (by decide) (by decide)) nw_callV_le, List.forall_mem_cons.mpr ⟨np_S.mono (op := np_ist 1 2) (np_s_istore_n hX dX4_letterAhead_5 rfl (by decide)) nw_ist_le, List.forall_mem_cons.mpr ⟨np_s_iload_n hX dX4_letterAhead_6 rfl, List.forall_mem_cons.mpr ⟨np_s_bipush hX dX4_letterAhead_7 (by decide), List.forall_mem_cons.mpr ⟨np_s_bipush hX dX4_letterAhead_9 (by decide), List.forall_mem_cons.mpr ⟨np_S.mono (op := np_call 3 sp_X11_isBetween 3 0 0 0 0) (np_s_callSN hX C_X11_isBetween dX4_letterAhead_11 gw589 gw63 gw1056 gw588 ⟨by decide, by decide, by decide⟩ (by decide) (by decide)) nq_call_le, List.forall_mem_cons.mpr ⟨np_S.mono (op := np_if (fun x => x = 0) 24) (np_s_if_eq hX dX4_letterAhead_14 (by decide)) nq_if_le, List.forall_mem_cons.mpr ⟨np_s_iload_n hX dX4_letterAhead_17 rfl, List.forall_mem_cons.mpr ⟨np_s_bipush hX dX4_letterAhead_18 (by decide), List.forall_mem_cons.mpr ⟨np_s_isub hX dX4_letterAhead_20, List.forall_mem_cons.mpr ⟨np_s_iconst hX dX4_letterAhead_21 (by decide), List.forall_mem_cons.mpr ⟨np_s_iadd hX dX4_letterAhead_22, List.forall_mem_cons.mpr ⟨np_S.mono (op := np_ret X.2.2.1) (np_s_ret hX dX4_letterAhead_23) (nq_ret_le hR), List.forall_mem_cons.mpr ⟨np_s_iload_n hX dX4_letterAhead_24 rfl, List.forall_mem_cons.mpr ⟨np_s_ldc hX dX4_letterAhead_25 gw1057, List.forall_mem_cons.mpr ⟨np_S.mono (op := np_icne 47) (np_s_icmp_ne hX dX4_letterAhead_27 (by decide)) nq_icne_le, List.forall_mem_cons.mpr ⟨np_s_aload_n hX dX4_letterAhead_30 rfl, List.forall_mem_cons.mpr ⟨np_s_iload_n hX dX4_letterAhead_31 rfl, List.forall_mem_cons.mpr ⟨np_s_iconst hX dX4_letterAhead_32 (by decide), List.forall_mem_cons.mpr ⟨np_s_iadd hX dX4_letterAhead_33, List.forall_mem_cons.mpr ⟨np_S.mono (op := np_callV 4 2 sp_X4_ahead 2 0 0 0 0) (np_s_callV hX C_X4_ahead dX4_letterAhead_34 (q := (RX4, TX4, 11)) rfl rfl gw1027 gw67 gw1024 gw1026 gw22 ⟨by decide, by decide, by decide⟩ (by decide) (by decide)) nw_callV_le, List.forall_mem_cons.mpr ⟨np_s_ldc hX dX4_letterAhead_37 gw1058, List.forall_mem_cons.mpr ⟨np_S.mono (op := np_icne 47) (np_s_icmp_ne hX dX4_letterAhead_39 (by decide)) nq_icne_le, List.forall_mem_cons.mpr ⟨np_s_bipush hX dX4_letterAhead_42 (by decide), List.forall_mem_cons.mpr ⟨np_s_goto hX dX4_letterAhead_44 (by decide), List.forall_mem_cons.mpr ⟨np_s_iconst hX dX4_letterAhead_47 (by decide), List.forall_mem_cons.mpr ⟨np_S.mono (op := np_ret X.2.2.1) (np_s_ret hX dX4_letterAhead_48) (nq_ret_le hR), fun _ h => nomatch h⟩⟩⟩⟩⟩⟩⟩⟩⟩⟩⟩⟩⟩⟩⟩⟩⟩⟩⟩⟩⟩⟩⟩⟩⟩⟩⟩⟩⟩
noncomputable def m_X4_letterAhead (S : pw_S) (i0 : Nat) (x1 : Int32) : pw_R Int32 :=
 pw_b (m_X4_ahead S i0 x1) fun S1 r4 =>
 pw_l (r4 : Int32) fun z6 =>
 pw_b (m_X11_isBetween S1 z6 97 122) fun S7 r10 =>
 if r10 = 0 then
 (if z6 = 55357 then
 (pw_b (m_X4_ahead S7 i0 (x1 + 1)) fun S12 r15 =>
 if r15 = 56832 then
 (some (S12, 27))
 else
 (some (S12, 0)))
 else
 (some (S7, 0)))
 else
 (some (S7, ((z6 - 97) + 1)))
def sp_X4_letterAhead : np_Sp := fun vs w Q => ∃ (q : Nat) (S : pw_S) (i0 : Nat) (x1 : Int32), vs = [.ref (pw_pl 59 i0), .int x1] ∧ pw_ok q 59 i0 = true ∧ pw_W q w S ∧ pw_p (m_X4_letterAhead S i0 x1) (fun S' r => ∀ f', pw_W q (w.1, f') S' → Q (some (.int r)) (w.1, f'))
set_option maxRecDepth 100000 in
set_option maxHeartbeats 8000000 in
theorem C_X4_letterAhead : np_C yX4_letterAhead cX4_letterAhead 3 (some .int) 2 42 0 0 sp_X4_letterAhead := by
  refine np_of (by decide) ?_
  intro X vs w Q hsp hX hmn hRt hlt
  obtain ⟨q, S, i0, x1, rfl, hi0, hW, h⟩ := hsp
  obtain ⟨n, f⟩ := w
  unfold m_X4_letterAhead at h
  have hR : ∀ st w ce sl, np_rt (some .int) 0 0 Q st w ce sl → X.2.2.1 st w ce sl := fun _ _ _ _ h => by rw [hRt]; exact h
  refine np_soundW (so_X4_letterAhead hX hR) [] 400 0 _ _ _ _ _ ?_
  conv => whnf
  refine np_rd_i (hW.g hi0) ?_
  conv => whnf
  refine ⟨q, S, i0, x1, rfl, hi0, hW, pw_bd h (fun S1 r4 h f2 hW3 => ?_)⟩
  conv => whnf
  refine pw_st h (fun z6 h => ?_)
  conv => whnf
  refine ⟨q, S1, z6, 97, 122, rfl, hW3, pw_bd h (fun S7 r10 h f8 hW9 => ?_)⟩
  conv => whnf
  refine pw_br h (fun _ h => ?_) (fun _ h => ?_)
  · conv => whnf
    refine pw_br h (fun _ h => ?_) (fun _ h => ?_)
    · conv => whnf
      refine np_rd_i (hW9.g hi0) ?_
      conv => whnf
      refine ⟨q, S7, i0, (x1 + 1), rfl, hi0, hW9, pw_bd h (fun S12 r15 h f13 hW14 => ?_)⟩
      conv => whnf
      refine pw_br h (fun _ h => ?_) (fun _ h => ?_)
      · conv => whnf
        exact ⟨Nat.le_of_ble_eq_true rfl, Nat.le_of_ble_eq_true rfl, ⟨_, rfl⟩, _, fun _ _ h9 => h9, pw_ps h _ hW14⟩
      · conv => whnf
        exact ⟨Nat.le_of_ble_eq_true rfl, Nat.le_of_ble_eq_true rfl, ⟨_, rfl⟩, _, fun _ _ h9 => h9, pw_ps h _ hW14⟩
    · conv => whnf
      exact ⟨Nat.le_of_ble_eq_true rfl, Nat.le_of_ble_eq_true rfl, ⟨_, rfl⟩, _, fun _ _ h9 => h9, pw_ps h _ hW9⟩
  · conv => whnf
    exact ⟨Nat.le_of_ble_eq_true rfl, Nat.le_of_ble_eq_true rfl, ⟨_, rfl⟩, _, fun _ _ h9 => h9, pw_ps h _ hW9⟩
theorem dX4_gatherWords_0 : decode cX4_gatherWords 0 = .ok (.aload_n 0, 1) := by decide +kernel
theorem dX4_gatherWords_1 : decode cX4_gatherWords 1 = .ok (.getfield 26, 3) := by decide +kernel
theorem dX4_gatherWords_4 : decode cX4_gatherWords 4 = .ok (.iconst 0, 1) := by decide +kernel
theorem dX4_gatherWords_5 : decode cX4_gatherWords 5 = .ok (.iconst 0, 1) := by decide +kernel
theorem dX4_gatherWords_6 : decode cX4_gatherWords 6 = .ok (.invokestatic 177, 3) := by decide +kernel
theorem dX4_gatherWords_9 : decode cX4_gatherWords 9 = .ok (.aload_n 0, 1) := by decide +kernel
theorem dX4_gatherWords_10 : decode cX4_gatherWords 10 = .ok (.getfield 29, 3) := by decide +kernel
theorem dX4_gatherWords_13 : decode cX4_gatherWords 13 = .ok (.iconst 0, 1) := by decide +kernel
theorem dX4_gatherWords_14 : decode cX4_gatherWords 14 = .ok (.iconst 0, 1) := by decide +kernel
theorem dX4_gatherWords_15 : decode cX4_gatherWords 15 = .ok (.invokestatic 177, 3) := by decide +kernel
theorem dX4_gatherWords_18 : decode cX4_gatherWords 18 = .ok (.iconst 0, 1) := by decide +kernel
theorem dX4_gatherWords_19 : decode cX4_gatherWords 19 = .ok (.istore_n 2, 1) := by decide +kernel
theorem dX4_gatherWords_20 : decode cX4_gatherWords 20 = .ok (.iload_n 2, 1) := by decide +kernel
theorem dX4_gatherWords_21 : decode cX4_gatherWords 21 = .ok (.iconst 5, 1) := by decide +kernel
theorem dX4_gatherWords_22 : decode cX4_gatherWords 22 = .ok (.if_icmp .ge 86, 3) := by decide +kernel
theorem dX4_gatherWords_25 : decode cX4_gatherWords 25 = .ok (.aload_n 0, 1) := by decide +kernel
theorem dX4_gatherWords_26 : decode cX4_gatherWords 26 = .ok (.getfield 29, 3) := by decide +kernel
theorem dX4_gatherWords_29 : decode cX4_gatherWords 29 = .ok (.iload_n 2, 1) := by decide +kernel
theorem dX4_gatherWords_30 : decode cX4_gatherWords 30 = .ok (.iconst 0, 1) := by decide +kernel
theorem dX4_gatherWords_31 : decode cX4_gatherWords 31 = .ok (.invokestatic 159, 3) := by decide +kernel
theorem dX4_gatherWords_34 : decode cX4_gatherWords 34 = .ok (.istore_n 3, 1) := by decide +kernel
theorem dX4_gatherWords_35 : decode cX4_gatherWords 35 = .ok (.aload_n 0, 1) := by decide +kernel
theorem dX4_gatherWords_36 : decode cX4_gatherWords 36 = .ok (.iload_n 3, 1) := by decide +kernel
theorem dX4_gatherWords_37 : decode cX4_gatherWords 37 = .ok (.invokevirtual 181, 3) := by decide +kernel
theorem dX4_gatherWords_40 : decode cX4_gatherWords 40 = .ok (.istore 4, 2) := by decide +kernel
theorem dX4_gatherWords_42 : decode cX4_gatherWords 42 = .ok (.iload_n 3, 1) := by decide +kernel
theorem dX4_gatherWords_43 : decode cX4_gatherWords 43 = .ok (.iload 4, 2) := by decide +kernel
theorem dX4_gatherWords_45 : decode cX4_gatherWords 45 = .ok (.invokestatic 184, 3) := by decide +kernel
theorem dX4_gatherWords_48 : decode cX4_gatherWords 48 = .ok (.iadd, 1) := by decide +kernel
theorem dX4_gatherWords_49 : decode cX4_gatherWords 49 = .ok (.istore 5, 2) := by decide +kernel
theorem dX4_gatherWords_51 : decode cX4_gatherWords 51 = .ok (.iload 4, 2) := by decide +kernel
theorem dX4_gatherWords_53 : decode cX4_gatherWords 53 = .ok (.ifCond .eq 9, 3) := by decide +kernel
theorem dX4_gatherWords_56 : decode cX4_gatherWords 56 = .ok (.iload 5, 2) := by decide +kernel
theorem dX4_gatherWords_58 : decode cX4_gatherWords 58 = .ok (.iload_n 1, 1) := by decide +kernel
theorem dX4_gatherWords_59 : decode cX4_gatherWords 59 = .ok (.if_icmp .le 5, 3) := by decide +kernel
theorem dX4_gatherWords_62 : decode cX4_gatherWords 62 = .ok (.iload_n 2, 1) := by decide +kernel
theorem dX4_gatherWords_63 : decode cX4_gatherWords 63 = .ok (.ireturn, 1) := by decide +kernel
theorem dX4_gatherWords_64 : decode cX4_gatherWords 64 = .ok (.aload_n 0, 1) := by decide +kernel
theorem dX4_gatherWords_65 : decode cX4_gatherWords 65 = .ok (.getfield 26, 3) := by decide +kernel
theorem dX4_gatherWords_68 : decode cX4_gatherWords 68 = .ok (.iload_n 2, 1) := by decide +kernel
theorem dX4_gatherWords_69 : decode cX4_gatherWords 69 = .ok (.iconst 1, 1) := by decide +kernel
theorem dX4_gatherWords_70 : decode cX4_gatherWords 70 = .ok (.iadd, 1) := by decide +kernel
theorem dX4_gatherWords_71 : decode cX4_gatherWords 71 = .ok (.aload_n 0, 1) := by decide +kernel
theorem dX4_gatherWords_72 : decode cX4_gatherWords 72 = .ok (.getfield 26, 3) := by decide +kernel
theorem dX4_gatherWords_75 : decode cX4_gatherWords 75 = .ok (.iload_n 2, 1) := by decide +kernel
theorem dX4_gatherWords_76 : decode cX4_gatherWords 76 = .ok (.iconst 0, 1) := by decide +kernel
theorem dX4_gatherWords_77 : decode cX4_gatherWords 77 = .ok (.invokestatic 159, 3) := by decide +kernel
theorem dX4_gatherWords_80 : decode cX4_gatherWords 80 = .ok (.iload 4, 2) := by decide +kernel
theorem dX4_gatherWords_82 : decode cX4_gatherWords 82 = .ok (.iconst 5, 1) := by decide +kernel
theorem dX4_gatherWords_83 : decode cX4_gatherWords 83 = .ok (.iload_n 2, 1) := by decide +kernel
theorem dX4_gatherWords_84 : decode cX4_gatherWords 84 = .ok (.imul, 1) := by decide +kernel
theorem dX4_gatherWords_85 : decode cX4_gatherWords 85 = .ok (.ishl, 1) := by decide +kernel
theorem dX4_gatherWords_86 : decode cX4_gatherWords 86 = .ok (.ior, 1) := by decide +kernel
theorem dX4_gatherWords_87 : decode cX4_gatherWords 87 = .ok (.invokestatic 177, 3) := by decide +kernel
theorem dX4_gatherWords_90 : decode cX4_gatherWords 90 = .ok (.aload_n 0, 1) := by decide +kernel
theorem dX4_gatherWords_91 : decode cX4_gatherWords 91 = .ok (.getfield 29, 3) := by decide +kernel
theorem dX4_gatherWords_94 : decode cX4_gatherWords 94 = .ok (.iload_n 2, 1) := by decide +kernel
theorem dX4_gatherWords_95 : decode cX4_gatherWords 95 = .ok (.iconst 1, 1) := by decide +kernel
theorem dX4_gatherWords_96 : decode cX4_gatherWords 96 = .ok (.iadd, 1) := by decide +kernel
theorem dX4_gatherWords_97 : decode cX4_gatherWords 97 = .ok (.iload 5, 2) := by decide +kernel
theorem dX4_gatherWords_99 : decode cX4_gatherWords 99 = .ok (.invokestatic 177, 3) := by decide +kernel
theorem dX4_gatherWords_102 : decode cX4_gatherWords 102 = .ok (.iinc 2 1, 3) := by decide +kernel
theorem dX4_gatherWords_105 : decode cX4_gatherWords 105 = .ok (.goto (-85), 3) := by decide +kernel
theorem dX4_gatherWords_108 : decode cX4_gatherWords 108 = .ok (.iconst 5, 1) := by decide +kernel
theorem dX4_gatherWords_109 : decode cX4_gatherWords 109 = .ok (.ireturn, 1) := by decide +kernel
def is_X4_gatherWords (Rt : np_Rt) : List (Nat × np_Op) := [(0, np_ald 1 0), (1, nw_getf 4 3), (4, np_push 1 (.int 0)), (5, np_push 1 (.int 0)), (6, nq_call 3 sp_X11_put 3 0 0 0 0), (9, np_ald 1 0), (10, nw_getf 4 4), (13, np_push 1 (.int 0)), (14, np_push 1 (.int 0)), (15, nq_call 3 sp_X11_put 3 0 0 0 0), (18, np_push 1 (.int 0)), (19, nw_ist 1 2), (20, np_ild 1 2), (21, np_push 1 (.int 5)), (22, nq_ic (fun x y => y ≤ x) 108), (25, np_ald 1 0), (26, nw_getf 4 4), (29, np_ild 1 2), (30, np_push 1 (.int 0)), (31, nq_call 3 sp_X11_at 3 0 0 0 0), (34, nw_ist 1 3), (35, np_ald 1 0), (36, np_ild 1 3), (37, nw_callV 4 2 sp_X4_letterAhead 3 0 0 0 0), (40, nw_ist 2 4), (42, np_ild 1 3), (43, np_ild 2 4), (45, nq_call 1 sp_X11_unitsOfLetter 1 0 0 0 0), (48, np_ib (fun x y => x + y)), (49, nw_ist 2 5), (51, np_ild 2 4), (53, nq_if (fun x => x = 0) 62), (56, np_ild 2 5), (58, np_ild 1 1), (59, nq_ic (fun x y => x ≤ y) 64), (62, np_ild 1 2), (63, np_ret Rt), (64, np_ald 1 0), (65, nw_getf 4 3), (68, np_ild 1 2), (69, np_push 1 (.int 1)), (70, np_ib (fun x y => x + y)), (71, np_ald 1 0), (72, nw_getf 4 3), (75, np_ild 1 2), (76, np_push 1 (.int 0)), (77, nq_call 3 sp_X11_at 3 0 0 0 0), (80, np_ild 2 4), (82, np_push 1 (.int 5)), (83, np_ild 1 2), (84, np_ib (fun x y => x * y)), (85, np_ib (fun x y => x <<< (y &&& 31))), (86, np_ib (fun x y => x ||| y)), (87, nq_call 3 sp_X11_put 3 0 0 0 0), (90, np_ald 1 0), (91, nw_getf 4 4), (94, np_ild 1 2), (95, np_push 1 (.int 1)), (96, np_ib (fun x y => x + y)), (97, np_ild 2 5), (99, nq_call 3 sp_X11_put 3 0 0 0 0), (102, nw_iinc 2 1), (105, np_goto 20), (108, np_push 1 (.int 5)), (109, np_ret Rt)]
set_option maxRecDepth 20000 in
theorem so_X4_gatherWords {X : np_Ctx} {Rt : np_Rt} (hX : np_ok RX4 cX4_gatherWords 6 3 64 0 0 .ireturn X) (hR : ∀ st w ce sl, Rt st w ce sl → X.2.2.1 st w ce sl) : ∀ q ∈ is_X4_gatherWords Rt, np_S X q.1 q.2 :=
  List.forall_mem_cons.mpr ⟨np_s_aload_n hX dX4_gatherWords_0 rfl, List.forall_mem_cons.mpr ⟨np_S.mono (op := np_getf 4 3) (np_s_getf hX dX4_gatherWords_1 (C := RX4) (T := TX4) (N := 11) rfl guX4 (by decide) gw226) nw_getf_le, List.forall_mem_cons.mpr ⟨np_s_iconst hX dX4_gatherWords_4 (by decide), List.forall_mem_cons.mpr ⟨np_s_iconst hX dX4_gatherWords_5 (by decide), List.forall_mem_cons.mpr ⟨np_S.mono (op := np_call 3 sp_X11_put 3 0 0 0 0) (np_s_callSN hX C_X11_put dX4_gatherWords_6 gw632 gw63 gw1051 gw631 ⟨by decide, by decide, by decide⟩ (by decide) (by decide)) nq_call_le, List.forall_mem_cons.mpr ⟨np_s_aload_n hX dX4_gatherWords_9 rfl, List.forall_mem_cons.mpr ⟨np_S.mono (op := np_getf 4 4) (np_s_getf hX dX4_gatherWords_10 (C := RX4) (T := TX4) (N := 11) rfl guX4 (by decide) gw227) nw_getf_le, List.forall_mem_cons.mpr ⟨np_s_iconst hX dX4_gatherWords_13 (by decide), List.forall_mem_cons.mpr ⟨np_s_iconst hX dX4_gatherWords_14 (by decide), List.forall_mem_cons.mpr ⟨np_S.mono (op := np_call 3 sp_X11_put 3 0 0 0 0) (np_s_callSN hX C_X11_put dX4_gatherWords_15 gw632 gw63 gw1051 gw631 ⟨by decide, by decide, by decide⟩ (by decide) (by decide)) nq_call_le, List.forall_mem_cons.mpr ⟨np_s_iconst hX dX4_gatherWords_18 (by decide), List.forall_mem_cons.mpr ⟨np_S.mono (op := np_ist 1 2) (np_s_istore_n hX dX4_gatherWords_19 rfl (by decide)) nw_ist_le, List.forall_mem_cons.mpr ⟨np_s_iload_n hX dX4_gatherWords_20 rfl, List.forall_mem_cons.mpr ⟨np_s_iconst hX dX4_gatherWords_21 (by decide), List.forall_mem_cons.mpr ⟨np_S.mono (op := np_ic (fun x y => y ≤ x) 108) (np_s_icmp_ge hX dX4_gatherWords_22 (by decide)) nq_ic_le, List.forall_mem_cons.mpr ⟨np_s_aload_n hX dX4_gatherWords_25 rfl, List.forall_mem_cons.mpr ⟨np_S.mono (op := np_getf 4 4) (np_s_getf hX dX4_gatherWords_26 (C := RX4) (T := TX4) (N := 11) rfl guX4 (by decide) gw227) nw_getf_le, List.forall_mem_cons.mpr ⟨np_s_iload_n hX dX4_gatherWords_29 rfl, List.forall_mem_cons.mpr ⟨np_s_iconst hX dX4_gatherWords_30 (by decide), List.forall_mem_cons.mpr ⟨np_S.mono (op := np_call 3 sp_X11_at 3 0 0 0 0) (np_s_callSN hX C_X11_at dX4_gatherWords_31 gw653 gw63 gw1032 gw652 ⟨by decide, by decide, by decide⟩ (by decide) (by decide)) nq_call_le, List.forall_mem_cons.mpr ⟨np_S.mono (op := np_ist 1 3) (np_s_istore_n hX dX4_gatherWords_34 rfl (by decide)) nw_ist_le, List.forall_mem_cons.mpr ⟨np_s_aload_n hX dX4_gatherWords_35 rfl, List.forall_mem_cons.mpr ⟨np_s_iload_n hX dX4_gatherWords_36 rfl, List.forall_mem_cons.mpr ⟨np_S.mono (op := np_callV 4 2 sp_X4_letterAhead 3 0 0 0 0) (np_s_callV hX C_X4_letterAhead dX4_gatherWords_37 (q := (RX4, TX4, 11)) rfl rfl gw1055 gw67 gw1052 gw1054 gw26 ⟨by decide, by decide, by decide⟩ (by decide) (by decide)) nw_callV_le, List.forall_mem_cons.mpr ⟨np_S.mono (op := np_ist 2 4) (np_s_istore hX dX4_gatherWords_40 (by decide)) nw_ist_le, List.forall_mem_cons.mpr ⟨np_s_iload_n hX dX4_gatherWords_42 rfl, List.forall_mem_cons.mpr ⟨np_s_iload hX dX4_gatherWords_43, List.forall_mem_cons.mpr ⟨np_S.mono (op := np_call 1 sp_X11_unitsOfLetter 1 0 0 0 0) (np_s_callSN hX C_X11_unitsOfLetter dX4_gatherWords_45 gw783 gw63 gw1059 gw782 ⟨by decide, by decide, by decide⟩ (by decide) (by decide)) nq_call_le, List.forall_mem_cons.mpr ⟨np_s_iadd hX dX4_gatherWords_48, List.forall_mem_cons.mpr ⟨np_S.mono (op := np_ist 2 5) (np_s_istore hX dX4_gatherWords_49 (by decide)) nw_ist_le, List.forall_mem_cons.mpr ⟨np_s_iload hX dX4_gatherWords_51, List.forall_mem_cons.mpr ⟨np_S.mono (op := np_if (fun x => x = 0) 62) (np_s_if_eq hX dX4_gatherWords_53 (by decide)) nq_if_le, List.forall_mem_cons.mpr ⟨np_s_iload hX dX4_gatherWords_56, List.forall_mem_cons.mpr ⟨np_s_iload_n hX dX4_gatherWords_58 rfl, List.forall_mem_cons.mpr ⟨np_S.mono (op := np_ic (fun x y => x ≤ y) 64) (np_s_icmp_le hX dX4_gatherWords_59 (by decide)) nq_ic_le, List.forall_mem_cons.mpr ⟨np_s_iload_n hX dX4_gatherWords_62 rfl, List.forall_mem_cons.mpr ⟨np_S.mono (op := np_ret X.2.2.1) (np_s_ret hX dX4_gatherWords_63) (nq_ret_le hR), List.forall_mem_cons.mpr ⟨np_s_aload_n hX dX4_gatherWords_64 rfl, List.forall_mem_cons.mpr ⟨np_S.mono (op := np_getf 4 3) (np_s_getf hX dX4_gatherWords_65 (C := RX4) (T := TX4) (N := 11) rfl guX4 (by decide) gw226) nw_getf_le, List.forall_mem_cons.mpr ⟨np_s_iload_n hX dX4_gatherWords_68 rfl, List.forall_mem_cons.mpr ⟨np_s_iconst hX dX4_gatherWords_69 (by decide), List.forall_mem_cons.mpr ⟨np_s_iadd hX dX4_gatherWords_70, List.forall_mem_cons.mpr ⟨np_s_aload_n hX dX4_gatherWords_71 rfl, List.forall_mem_cons.mpr ⟨np_S.mono (op := np_getf 4 3) (np_s_getf hX dX4_gatherWords_72 (C := RX4) (T := TX4) (N := 11) rfl guX4 (by decide) gw226) nw_getf_le, List.forall_mem_cons.mpr ⟨np_s_iload_n hX dX4_gatherWords_75 rfl, List.forall_mem_cons.mpr ⟨np_s_iconst hX dX4_gatherWords_76 (by decide), List.forall_mem_cons.mpr ⟨np_S.mono (op := np_call 3 sp_X11_at 3 0 0 0 0) (np_s_callSN hX C_X11_at dX4_gatherWords_77 gw653 gw63 gw1032 gw652 ⟨by decide, by decide, by decide⟩ (by decide) (by decide)) nq_call_le, List.forall_mem_cons.mpr ⟨np_s_iload hX dX4_gatherWords_80, List.forall_mem_cons.mpr ⟨np_s_iconst hX dX4_gatherWords_82 (by decide), List.forall_mem_cons.mpr ⟨np_s_iload_n hX dX4_gatherWords_83 rfl, List.forall_mem_cons.mpr ⟨np_s_imul hX dX4_gatherWords_84, List.forall_mem_cons.mpr ⟨np_s_ishl hX dX4_gatherWords_85, List.forall_mem_cons.mpr ⟨np_s_ior hX dX4_gatherWords_86, List.forall_mem_cons.mpr ⟨np_S.mono (op := np_call 3 sp_X11_put 3 0 0 0 0) (np_s_callSN hX C_X11_put dX4_gatherWords_87 gw632 gw63 gw1051 gw631 ⟨by decide, by decide, by decide⟩ (by decide) (by decide)) nq_call_le, List.forall_mem_cons.mpr ⟨np_s_aload_n hX dX4_gatherWords_90 rfl, List.forall_mem_cons.mpr ⟨np_S.mono (op := np_getf 4 4) (np_s_getf hX dX4_gatherWords_91 (C := RX4) (T := TX4) (N := 11) rfl guX4 (by decide) gw227) nw_getf_le, List.forall_mem_cons.mpr ⟨np_s_iload_n hX dX4_gatherWords_94 rfl, List.forall_mem_cons.mpr ⟨np_s_iconst hX dX4_gatherWords_95 (by decide), List.forall_mem_cons.mpr ⟨np_s_iadd hX dX4_gatherWords_96, List.forall_mem_cons.mpr ⟨np_s_iload hX dX4_gatherWords_97, List.forall_mem_cons.mpr ⟨np_S.mono (op := np_call 3 sp_X11_put 3 0 0 0 0) (np_s_callSN hX C_X11_put dX4_gatherWords_99 gw632 gw63 gw1051 gw631 ⟨by decide, by decide, by decide⟩ (by decide) (by decide)) nq_call_le, List.forall_mem_cons.mpr ⟨np_S.mono (op := np_iinc 2 1) (np_s_iinc hX dX4_gatherWords_102 (by decide)) nw_iinc_le, List.forall_mem_cons.mpr ⟨np_s_goto hX dX4_gatherWords_105 (by decide), List.forall_mem_cons.mpr ⟨np_s_iconst hX dX4_gatherWords_108 (by decide), List.forall_mem_cons.mpr ⟨np_S.mono (op := np_ret X.2.2.1) (np_s_ret hX dX4_gatherWords_109) (nq_ret_le hR), fun _ h => nomatch h⟩⟩⟩⟩⟩⟩⟩⟩⟩⟩⟩⟩⟩⟩⟩⟩⟩⟩⟩⟩⟩⟩⟩⟩⟩⟩⟩⟩⟩⟩⟩⟩⟩⟩⟩⟩⟩⟩⟩⟩⟩⟩⟩⟩⟩⟩⟩⟩⟩⟩⟩⟩⟩⟩⟩⟩⟩⟩⟩⟩⟩⟩⟩⟩⟩
noncomputable def m_X4_gatherWords_20 : Nat → pw_S → Nat → Int32 → Int32 → pw_R Int32
| 0, _, _, _, _ => none
| N + 1, S, v0, v1, v2 =>
 if 5 ≤ v2 then
 (some (S, 5))
 else
 (pw_b (m_X11_at S 32 0 v2 0) fun S1 r4 =>
 pw_l (r4 : Int32) fun z6 =>
 pw_b (m_X4_letterAhead S1 v0 z6) fun S7 r10 =>
 pw_l (r10 : Int32) fun z12 =>
 pw_b (m_X11_unitsOfLetter S7 z12) fun S13 r16 =>
 pw_l ((z6 + r16) : Int32) fun z18 =>
 if z12 = 0 then
 (some (S13, v2))
 else
 (if z18 ≤ v1 then
 (pw_b (m_X11_at S13 31 0 v2 0) fun S19 r22 =>
 pw_b (m_X11_put S19 31 0 (v2 + 1) (r22 ||| (z12 <<< ((5 * v2) &&& 31)))) fun S24 r27 =>
 pw_b (m_X11_put S24 32 0 (v2 + 1) z18) fun S29 r32 =>
 pw_l (v2 + 1 : Int32) fun z34 =>
 m_X4_gatherWords_20 N S29 v0 v1 z34)
 else
 (some (S13, v2))))
set_option maxRecDepth 100000 in
set_option maxHeartbeats 8000000 in
theorem L_X4_gatherWords_20 {X : np_Ctx} (hX : np_ok RX4 cX4_gatherWords 6 3 64 0 0 .ireturn X) {Q : Option Value → np_W → Prop} {q n : Nat} (hR : ∀ st w ce sl, np_rt (some .int) 0 0 Q st w ce sl → X.2.2.1 st w ce sl) : ∀ (N : Nat) (S : pw_S) (v0 : Nat) (v1 : Int32) (v2 : Int32) (f : Nat → Option np_E) (hv0 : pw_ok q 59 v0 = true), pw_W q (n, f) S → pw_p (m_X4_gatherWords_20 N S v0 v1 v2) (fun S' r => ∀ f', pw_W q (n, f') S' → Q (some (.int r)) (n, f')) → np_G X 20 [(0, .ref (pw_pl 59 v0)), (1, .int v1), (2, .int v2)] [] (n, f) 0 0 := by
  intro N
  induction N with
  | zero =>
    intro S v0 v1 v2 f hv0 hW h
    exact (pw_pn h).elim
  | succ N ih =>
    intro S v0 v1 v2 f hv0 hW h
    unfold m_X4_gatherWords_20 at h
    refine np_soundW (so_X4_gatherWords hX hR) [20] 400 20 _ _ _ _ _ ?_
    conv => whnf
    refine pw_br h (fun _ h => ?_) (fun _ h => ?_)
    · conv => whnf
      exact ⟨Nat.le_of_ble_eq_true rfl, Nat.le_of_ble_eq_true rfl, ⟨_, rfl⟩, _, fun _ _ h9 => h9, pw_ps h _ hW⟩
    · conv => whnf
      refine np_rd_i (hW.g hv0) ?_
      conv => whnf
      refine ⟨q, S, 32, 0, v2, 0, rfl, rfl, rfl, hW, pw_bd h (fun S1 r4 h f2 hW3 => ?_)⟩
      conv => whnf
      refine pw_st h (fun z6 h => ?_)
      conv => whnf
      refine np_rd_i (hW3.g hv0) ?_
      conv => whnf
      refine ⟨q, S1, v0, z6, rfl, hv0, hW3, pw_bd h (fun S7 r10 h f8 hW9 => ?_)⟩
      conv => whnf
      refine pw_st h (fun z12 h => ?_)
      conv => whnf
      refine ⟨q, S7, z12, rfl, hW9, pw_bd h (fun S13 r16 h f14 hW15 => ?_)⟩
      conv => whnf
      refine pw_st h (fun z18 h => ?_)
      conv => whnf
      refine pw_br h (fun _ h => ?_) (fun _ h => ?_)
      · conv => whnf
        exact ⟨Nat.le_of_ble_eq_true rfl, Nat.le_of_ble_eq_true rfl, ⟨_, rfl⟩, _, fun _ _ h9 => h9, pw_ps h _ hW15⟩
      · conv => whnf
        refine pw_br h (fun _ h => ?_) (fun _ h => ?_)
        · conv => whnf
          refine np_rd_i (hW15.g hv0) ?_
          conv => whnf
          refine np_rd_i (hW15.g hv0) ?_
          conv => whnf
          refine ⟨q, S13, 31, 0, v2, 0, rfl, rfl, rfl, hW15, pw_bd h (fun S19 r22 h f20 hW21 => ?_)⟩
          conv => whnf
          refine ⟨q, S19, 31, 0, (v2 + 1), (r22 ||| (z12 <<< ((5 * v2) &&& 31))), rfl, rfl, rfl, hW21, pw_bd h (fun S24 r27 h f25 hW26 => ?_)⟩
          conv => whnf
          refine np_rd_i (hW26.g hv0) ?_
          conv => whnf
          refine ⟨q, S24, 32, 0, (v2 + 1), z18, rfl, rfl, rfl, hW26, pw_bd h (fun S29 r32 h f30 hW31 => ?_)⟩
          conv => whnf
          refine pw_st h (fun z34 h => ?_)
          conv => whnf
          exact np_gl (ih S29 v0 v1 z34 f30 hv0 hW31 h) ⟨rfl, rfl, rfl, trivial⟩
        · conv => whnf
          exact ⟨Nat.le_of_ble_eq_true rfl, Nat.le_of_ble_eq_true rfl, ⟨_, rfl⟩, _, fun _ _ h9 => h9, pw_ps h _ hW15⟩
noncomputable def m_X4_gatherWords (S : pw_S) (i0 : Nat) (x1 : Int32) : pw_R Int32 :=
 pw_b (m_X11_put S 31 0 0 0) fun S35 r38 =>
 pw_b (m_X11_put S35 32 0 0 0) fun S40 r43 =>
 pw_l (0 : Int32) fun z45 =>
 m_X4_gatherWords_20 (pw_F 20000) S40 i0 x1 z45
def sp_X4_gatherWords : np_Sp := fun vs w Q => ∃ (q : Nat) (S : pw_S) (i0 : Nat) (x1 : Int32), vs = [.ref (pw_pl 59 i0), .int x1] ∧ pw_ok q 59 i0 = true ∧ pw_W q w S ∧ pw_p (m_X4_gatherWords S i0 x1) (fun S' r => ∀ f', pw_W q (w.1, f') S' → Q (some (.int r)) (w.1, f'))
set_option maxRecDepth 100000 in
set_option maxHeartbeats 8000000 in
theorem C_X4_gatherWords : np_C yX4_gatherWords cX4_gatherWords 6 (some .int) 3 64 0 0 sp_X4_gatherWords := by
  refine np_of (by decide) ?_
  intro X vs w Q hsp hX hmn hRt hlt
  obtain ⟨q, S, i0, x1, rfl, hi0, hW, h⟩ := hsp
  obtain ⟨n, f⟩ := w
  unfold m_X4_gatherWords at h
  have hR : ∀ st w ce sl, np_rt (some .int) 0 0 Q st w ce sl → X.2.2.1 st w ce sl := fun _ _ _ _ h => by rw [hRt]; exact h
  refine np_soundW (so_X4_gatherWords hX hR) [20] 400 0 _ _ _ _ _ ?_
  conv => whnf
  refine np_rd_i (hW.g hi0) ?_
  conv => whnf
  refine ⟨q, S, 31, 0, 0, 0, rfl, rfl, rfl, hW, pw_bd h (fun S35 r38 h f36 hW37 => ?_)⟩
  conv => whnf
  refine np_rd_i (hW37.g hi0) ?_
  conv => whnf
  refine ⟨q, S35, 32, 0, 0, 0, rfl, rfl, rfl, hW37, pw_bd h (fun S40 r43 h f41 hW42 => ?_)⟩
  conv => whnf
  refine pw_st h (fun z45 h => ?_)
  conv => whnf
  exact np_gl (L_X4_gatherWords_20 hX hR (pw_F 20000) S40 i0 x1 z45 f41 hi0 hW42 h) ⟨rfl, rfl, rfl, trivial⟩
theorem dX4_areFills_0 : decode cX4_areFills 0 = .ok (.iload_n 1, 1) := by decide +kernel
theorem dX4_areFills_1 : decode cX4_areFills 1 = .ok (.istore 4, 2) := by decide +kernel
theorem dX4_areFills_3 : decode cX4_areFills 3 = .ok (.iload 4, 2) := by decide +kernel
theorem dX4_areFills_5 : decode cX4_areFills 5 = .ok (.iload_n 2, 1) := by decide +kernel
theorem dX4_areFills_6 : decode cX4_areFills 6 = .ok (.if_icmp .ge 21, 3) := by decide +kernel
theorem dX4_areFills_9 : decode cX4_areFills 9 = .ok (.aload_n 0, 1) := by decide +kernel
theorem dX4_areFills_10 : decode cX4_areFills 10 = .ok (.iload 4, 2) := by decide +kernel
theorem dX4_areFills_12 : decode cX4_areFills 12 = .ok (.invokevirtual 136, 3) := by decide +kernel
theorem dX4_areFills_15 : decode cX4_areFills 15 = .ok (.iload_n 3, 1) := by decide +kernel
theorem dX4_areFills_16 : decode cX4_areFills 16 = .ok (.if_icmp .eq 5, 3) := by decide +kernel
theorem dX4_areFills_19 : decode cX4_areFills 19 = .ok (.iconst 0, 1) := by decide +kernel
theorem dX4_areFills_20 : decode cX4_areFills 20 = .ok (.ireturn, 1) := by decide +kernel
theorem dX4_areFills_21 : decode cX4_areFills 21 = .ok (.iinc 4 1, 3) := by decide +kernel
theorem dX4_areFills_24 : decode cX4_areFills 24 = .ok (.goto (-21), 3) := by decide +kernel
theorem dX4_areFills_27 : decode cX4_areFills 27 = .ok (.iconst 1, 1) := by decide +kernel
theorem dX4_areFills_28 : decode cX4_areFills 28 = .ok (.ireturn, 1) := by decide +kernel
def is_X4_areFills (Rt : np_Rt) : List (Nat × np_Op) := [(0, np_ild 1 1), (1, nw_ist 2 4), (3, np_ild 2 4), (5, np_ild 1 2), (6, nq_ic (fun x y => y ≤ x) 27), (9, np_ald 1 0), (10, np_ild 2 4), (12, nw_callV 4 2 sp_X4_ahead 2 0 0 0 0), (15, np_ild 1 3), (16, nq_ic (fun x y => x = y) 21), (19, np_push 1 (.int 0)), (20, np_ret Rt), (21, nw_iinc 4 1), (24, np_goto 3), (27, np_push 1 (.int 1)), (28, np_ret Rt)]
set_option maxRecDepth 20000 in
theorem so_X4_areFills {X : np_Ctx} {Rt : np_Rt} (hX : np_ok RX4 cX4_areFills 5 2 42 0 0 .ireturn X) (hR : ∀ st w ce sl, Rt st w ce sl → X.2.2.1 st w ce sl) : ∀ q ∈ is_X4_areFills Rt, np_S X q.1 q.2 :=
  List.forall_mem_cons.mpr ⟨np_s_iload_n hX dX4_areFills_0 rfl, List.forall_mem_cons.mpr ⟨np_S.mono (op := np_ist 2 4) (np_s_istore hX dX4_areFills_1 (by decide)) nw_ist_le, List.forall_mem_cons.mpr ⟨np_s_iload hX dX4_areFills_3, List.forall_mem_cons.mpr ⟨np_s_iload_n hX dX4_areFills_5 rfl, List.forall_mem_cons.mpr ⟨np_S.mono (op := np_ic (fun x y => y ≤ x) 27) (np_s_icmp_ge hX dX4_areFills_6 (by decide)) nq_ic_le, List.forall_mem_cons.mpr ⟨np_s_aload_n hX dX4_areFills_9 rfl, List.forall_mem_cons.mpr ⟨np_s_iload hX dX4_areFills_10, List.forall_mem_cons.mpr ⟨np_S.mono (op := np_callV 4 2 sp_X4_ahead 2 0 0 0 0) (np_s_callV hX C_X4_ahead dX4_areFills_12 (q := (RX4, TX4, 11)) rfl rfl gw1027 gw67 gw1024 gw1026 gw22 ⟨by decide, by decide, by decide⟩ (by decide) (by decide)) nw_callV_le, List.forall_mem_cons.mpr ⟨np_s_iload_n hX dX4_areFills_15 rfl, List.forall_mem_cons.mpr ⟨np_S.mono (op := np_ic (fun x y => x = y) 21) (np_s_icmp_eq hX dX4_areFills_16 (by decide)) nq_ic_le, List.forall_mem_cons.mpr ⟨np_s_iconst hX dX4_areFills_19 (by decide), List.forall_mem_cons.mpr ⟨np_S.mono (op := np_ret X.2.2.1) (np_s_ret hX dX4_areFills_20) (nq_ret_le hR), List.forall_mem_cons.mpr ⟨np_S.mono (op := np_iinc 4 1) (np_s_iinc hX dX4_areFills_21 (by decide)) nw_iinc_le, List.forall_mem_cons.mpr ⟨np_s_goto hX dX4_areFills_24 (by decide), List.forall_mem_cons.mpr ⟨np_s_iconst hX dX4_areFills_27 (by decide), List.forall_mem_cons.mpr ⟨np_S.mono (op := np_ret X.2.2.1) (np_s_ret hX dX4_areFills_28) (nq_ret_le hR), fun _ h => nomatch h⟩⟩⟩⟩⟩⟩⟩⟩⟩⟩⟩⟩⟩⟩⟩⟩
noncomputable def m_X4_areFills_3 : Nat → pw_S → Nat → Int32 → Int32 → Int32 → pw_R Int32
| 0, _, _, _, _, _ => none
| N + 1, S, v0, v2, v3, v4 =>
 if v2 ≤ v4 then
 (some (S, 1))
 else
 (pw_b (m_X4_ahead S v0 v4) fun S1 r4 =>
 if r4 = v3 then
 (pw_l (v4 + 1 : Int32) fun z6 =>
 m_X4_areFills_3 N S1 v0 v2 v3 z6)
 else
 (some (S1, 0)))
set_option maxRecDepth 100000 in
set_option maxHeartbeats 8000000 in
theorem L_X4_areFills_3 {X : np_Ctx} (hX : np_ok RX4 cX4_areFills 5 2 42 0 0 .ireturn X) {Q : Option Value → np_W → Prop} {q n : Nat} (hR : ∀ st w ce sl, np_rt (some .boolean) 0 0 Q st w ce sl → X.2.2.1 st w ce sl) : ∀ (N : Nat) (S : pw_S) (v0 : Nat) (v2 : Int32) (v3 : Int32) (v4 : Int32) (f : Nat → Option np_E) (hv0 : pw_ok q 59 v0 = true), pw_W q (n, f) S → pw_p (m_X4_areFills_3 N S v0 v2 v3 v4) (fun S' r => ∀ f', pw_W q (n, f') S' → Q (some (.int r)) (n, f')) → np_G X 3 [(0, .ref (pw_pl 59 v0)), (2, .int v2), (3, .int v3), (4, .int v4)] [] (n, f) 0 0 := by
  intro N
  induction N with
  | zero =>
    intro S v0 v2 v3 v4 f hv0 hW h
    exact (pw_pn h).elim
  | succ N ih =>
    intro S v0 v2 v3 v4 f hv0 hW h
    unfold m_X4_areFills_3 at h
    refine np_soundW (so_X4_areFills hX hR) [3] 400 3 _ _ _ _ _ ?_
    conv => whnf
    refine pw_br h (fun _ h => ?_) (fun _ h => ?_)
    · conv => whnf
      exact ⟨Nat.le_of_ble_eq_true rfl, Nat.le_of_ble_eq_true rfl, ⟨_, rfl, by decide⟩, _, fun _ _ h9 => h9, pw_ps h _ hW⟩
    · conv => whnf
      refine np_rd_i (hW.g hv0) ?_
      conv => whnf
      refine ⟨q, S, v0, v4, rfl, hv0, hW, pw_bd h (fun S1 r4 h f2 hW3 => ?_)⟩
      conv => whnf
      refine pw_br h (fun _ h => ?_) (fun _ h => ?_)
      · conv => whnf
        refine pw_st h (fun z6 h => ?_)
        conv => whnf
        exact np_gl (ih S1 v0 v2 v3 z6 f2 hv0 hW3 h) ⟨rfl, rfl, rfl, rfl, trivial⟩
      · conv => whnf
        exact ⟨Nat.le_of_ble_eq_true rfl, Nat.le_of_ble_eq_true rfl, ⟨_, rfl, by decide⟩, _, fun _ _ h9 => h9, pw_ps h _ hW3⟩
noncomputable def m_X4_areFills (S : pw_S) (i0 : Nat) (x1 : Int32) (x2 : Int32) (x3 : Int32) : pw_R Int32 :=
 pw_l (x1 : Int32) fun z7 =>
 m_X4_areFills_3 (pw_F 20000) S i0 x2 x3 z7
def sp_X4_areFills : np_Sp := fun vs w Q => ∃ (q : Nat) (S : pw_S) (i0 : Nat) (x1 : Int32) (x2 : Int32) (x3 : Int32), vs = [.ref (pw_pl 59 i0), .int x1, .int x2, .int x3] ∧ pw_ok q 59 i0 = true ∧ pw_W q w S ∧ pw_p (m_X4_areFills S i0 x1 x2 x3) (fun S' r => ∀ f', pw_W q (w.1, f') S' → Q (some (.int r)) (w.1, f'))
set_option maxRecDepth 100000 in
set_option maxHeartbeats 8000000 in
theorem C_X4_areFills : np_C yX4_areFills cX4_areFills 5 (some .boolean) 2 42 0 0 sp_X4_areFills := by
  refine np_of (by decide) ?_
  intro X vs w Q hsp hX hmn hRt hlt
  obtain ⟨q, S, i0, x1, x2, x3, rfl, hi0, hW, h⟩ := hsp
  obtain ⟨n, f⟩ := w
  unfold m_X4_areFills at h
  have hR : ∀ st w ce sl, np_rt (some .boolean) 0 0 Q st w ce sl → X.2.2.1 st w ce sl := fun _ _ _ _ h => by rw [hRt]; exact h
  refine np_soundW (so_X4_areFills hX hR) [3] 400 0 _ _ _ _ _ ?_
  conv => whnf
  refine pw_st h (fun z7 h => ?_)
  conv => whnf
  exact np_gl (L_X4_areFills_3 hX hR (pw_F 20000) S i0 x2 x3 z7 f hi0 hW h) ⟨rfl, rfl, rfl, rfl, trivial⟩
theorem dX4_readWord_0 : decode cX4_readWord 0 = .ok (.aload_n 0, 1) := by decide +kernel
theorem dX4_readWord_1 : decode cX4_readWord 1 = .ok (.getfield 35, 3) := by decide +kernel
theorem dX4_readWord_4 : decode cX4_readWord 4 = .ok (.aload_n 0, 1) := by decide +kernel
theorem dX4_readWord_5 : decode cX4_readWord 5 = .ok (.getfield 18, 3) := by decide +kernel
theorem dX4_readWord_8 : decode cX4_readWord 8 = .ok (.getfield 78, 3) := by decide +kernel
theorem dX4_readWord_11 : decode cX4_readWord 11 = .ok (.invokevirtual 145, 3) := by decide +kernel
theorem dX4_readWord_14 : decode cX4_readWord 14 = .ok (.istore_n 1, 1) := by decide +kernel
theorem dX4_readWord_15 : decode cX4_readWord 15 = .ok (.aload_n 0, 1) := by decide +kernel
theorem dX4_readWord_16 : decode cX4_readWord 16 = .ok (.getfield 35, 3) := by decide +kernel
theorem dX4_readWord_19 : decode cX4_readWord 19 = .ok (.aload_n 0, 1) := by decide +kernel
theorem dX4_readWord_20 : decode cX4_readWord 20 = .ok (.getfield 18, 3) := by decide +kernel
theorem dX4_readWord_23 : decode cX4_readWord 23 = .ok (.getfield 78, 3) := by decide +kernel
theorem dX4_readWord_26 : decode cX4_readWord 26 = .ok (.invokevirtual 152, 3) := by decide +kernel
theorem dX4_readWord_29 : decode cX4_readWord 29 = .ok (.invokestatic 167, 3) := by decide +kernel
theorem dX4_readWord_32 : decode cX4_readWord 32 = .ok (.istore_n 2, 1) := by decide +kernel
theorem dX4_readWord_33 : decode cX4_readWord 33 = .ok (.aload_n 0, 1) := by decide +kernel
theorem dX4_readWord_34 : decode cX4_readWord 34 = .ok (.getfield 35, 3) := by decide +kernel
theorem dX4_readWord_37 : decode cX4_readWord 37 = .ok (.aload_n 0, 1) := by decide +kernel
theorem dX4_readWord_38 : decode cX4_readWord 38 = .ok (.getfield 18, 3) := by decide +kernel
theorem dX4_readWord_41 : decode cX4_readWord 41 = .ok (.getfield 78, 3) := by decide +kernel
theorem dX4_readWord_44 : decode cX4_readWord 44 = .ok (.invokevirtual 100, 3) := by decide +kernel
theorem dX4_readWord_47 : decode cX4_readWord 47 = .ok (.istore_n 3, 1) := by decide +kernel
theorem dX4_readWord_48 : decode cX4_readWord 48 = .ok (.aload_n 0, 1) := by decide +kernel
theorem dX4_readWord_49 : decode cX4_readWord 49 = .ok (.iload_n 1, 1) := by decide +kernel
theorem dX4_readWord_50 : decode cX4_readWord 50 = .ok (.invokevirtual 170, 3) := by decide +kernel
theorem dX4_readWord_53 : decode cX4_readWord 53 = .ok (.istore 4, 2) := by decide +kernel
theorem dX4_readWord_55 : decode cX4_readWord 55 = .ok (.iconst 0, 1) := by decide +kernel
theorem dX4_readWord_56 : decode cX4_readWord 56 = .ok (.istore 5, 2) := by decide +kernel
theorem dX4_readWord_58 : decode cX4_readWord 58 = .ok (.iload 5, 2) := by decide +kernel
theorem dX4_readWord_60 : decode cX4_readWord 60 = .ok (.iload 4, 2) := by decide +kernel
theorem dX4_readWord_62 : decode cX4_readWord 62 = .ok (.if_icmp .gt 44, 3) := by decide +kernel
theorem dX4_readWord_65 : decode cX4_readWord 65 = .ok (.aload_n 0, 1) := by decide +kernel
theorem dX4_readWord_66 : decode cX4_readWord 66 = .ok (.aload_n 0, 1) := by decide +kernel
theorem dX4_readWord_67 : decode cX4_readWord 67 = .ok (.getfield 29, 3) := by decide +kernel
theorem dX4_readWord_70 : decode cX4_readWord 70 = .ok (.iload 5, 2) := by decide +kernel
theorem dX4_readWord_72 : decode cX4_readWord 72 = .ok (.iload_n 1, 1) := by decide +kernel
theorem dX4_readWord_73 : decode cX4_readWord 73 = .ok (.invokestatic 159, 3) := by decide +kernel
theorem dX4_readWord_76 : decode cX4_readWord 76 = .ok (.iload_n 1, 1) := by decide +kernel
theorem dX4_readWord_77 : decode cX4_readWord 77 = .ok (.iload_n 2, 1) := by decide +kernel
theorem dX4_readWord_78 : decode cX4_readWord 78 = .ok (.invokevirtual 173, 3) := by decide +kernel
theorem dX4_readWord_81 : decode cX4_readWord 81 = .ok (.ifCond .eq 19, 3) := by decide +kernel
theorem dX4_readWord_84 : decode cX4_readWord 84 = .ok (.aload_n 0, 1) := by decide +kernel
theorem dX4_readWord_85 : decode cX4_readWord 85 = .ok (.iload_n 3, 1) := by decide +kernel
theorem dX4_readWord_86 : decode cX4_readWord 86 = .ok (.aload_n 0, 1) := by decide +kernel
theorem dX4_readWord_87 : decode cX4_readWord 87 = .ok (.getfield 26, 3) := by decide +kernel
theorem dX4_readWord_90 : decode cX4_readWord 90 = .ok (.iload 5, 2) := by decide +kernel
theorem dX4_readWord_92 : decode cX4_readWord 92 = .ok (.iconst 0, 1) := by decide +kernel
theorem dX4_readWord_93 : decode cX4_readWord 93 = .ok (.invokestatic 159, 3) := by decide +kernel
theorem dX4_readWord_96 : decode cX4_readWord 96 = .ok (.iload_n 1, 1) := by decide +kernel
theorem dX4_readWord_97 : decode cX4_readWord 97 = .ok (.invokevirtual 163, 3) := by decide +kernel
theorem dX4_readWord_100 : decode cX4_readWord 100 = .ok (.iinc 5 1, 3) := by decide +kernel
theorem dX4_readWord_103 : decode cX4_readWord 103 = .ok (.goto (-45), 3) := by decide +kernel
theorem dX4_readWord_106 : decode cX4_readWord 106 = .ok (.return_, 1) := by decide +kernel
def is_X4_readWord (Rt : np_Rt) : List (Nat × np_Op) := [(0, np_ald 1 0), (1, nw_getf 4 5), (4, np_ald 1 0), (5, nw_getf 4 1), (8, nw_getf 8 2), (11, nw_callV 2 2 sp_X2_b 2 0 0 0 0), (14, nw_ist 1 1), (15, np_ald 1 0), (16, nw_getf 4 5), (19, np_ald 1 0), (20, nw_getf 4 1), (23, nw_getf 8 2), (26, nw_callV 2 2 sp_X2_c 2 0 0 0 0), (29, nq_call 1 sp_X11_fillOfWord 1 0 0 0 0), (32, nw_ist 1 2), (33, np_ald 1 0), (34, nw_getf 4 5), (37, np_ald 1 0), (38, nw_getf 4 1), (41, nw_getf 8 2), (44, nw_callV 2 2 sp_X2_a 2 0 0 0 0), (47, nw_ist 1 3), (48, np_ald 1 0), (49, np_ild 1 1), (50, nw_callV 4 2 sp_X4_gatherWords 6 0 0 0 0), (53, nw_ist 2 4), (55, np_push 1 (.int 0)), (56, nw_ist 2 5), (58, np_ild 2 5), (60, np_ild 2 4), (62, nq_ic (fun x y => y < x) 106), (65, np_ald 1 0), (66, np_ald 1 0), (67, nw_getf 4 4), (70, np_ild 2 5), (72, np_ild 1 1), (73, nq_call 3 sp_X11_at 3 0 0 0 0), (76, np_ild 1 1), (77, np_ild 1 2), (78, nw_callV 4 4 sp_X4_areFills 5 0 0 0 0), (81, nq_if (fun x => x = 0) 100), (84, np_ald 1 0), (85, np_ild 1 3), (86, np_ald 1 0), (87, nw_getf 4 3), (90, np_ild 2 5), (92, np_push 1 (.int 0)), (93, nq_call 3 sp_X11_at 3 0 0 0 0), (96, np_ild 1 1), (97, nw_callV 4 4 sp_X4_keepWay 6 0 0 0 0), (100, nw_iinc 5 1), (103, np_goto 58), (106, np_ret Rt)]
set_option maxRecDepth 20000 in
theorem so_X4_readWord {X : np_Ctx} {Rt : np_Rt} (hX : np_ok RX4 cX4_readWord 6 4 130 0 0 .return_ X) (hR : ∀ st w ce sl, Rt st w ce sl → X.2.2.1 st w ce sl) : ∀ q ∈ is_X4_readWord Rt, np_S X q.1 q.2 :=
  List.forall_mem_cons.mpr ⟨np_s_aload_n hX dX4_readWord_0 rfl, List.forall_mem_cons.mpr ⟨np_S.mono (op := np_getf 4 5) (np_s_getf hX dX4_readWord_1 (C := RX4) (T := TX4) (N := 11) rfl guX4 (by decide) gw228) nw_getf_le, List.forall_mem_cons.mpr ⟨np_s_aload_n hX dX4_readWord_4 rfl, List.forall_mem_cons.mpr ⟨np_S.mono (op := np_getf 4 1) (np_s_getf hX dX4_readWord_5 (C := RX4) (T := TX4) (N := 11) rfl guX4 (by decide) gw223) nw_getf_le, List.forall_mem_cons.mpr ⟨np_S.mono (op := np_getf 8 2) (np_s_getN hX dX4_readWord_8 (C := RX8) (T := TX8) (N := 9) rfl guX8 (by decide) gw152) nw_getf_le, List.forall_mem_cons.mpr ⟨np_S.mono (op := np_callV 2 2 sp_X2_b 2 0 0 0 0) (np_s_callV hX C_X2_b dX4_readWord_11 (q := (RX2, TX2, 5)) rfl rfl gw673 gw64 gw1023 gw671 gw672 ⟨by decide, by decide, by decide⟩ (by decide) (by decide)) nw_callV_le, List.forall_mem_cons.mpr ⟨np_S.mono (op := np_ist 1 1) (np_s_istore_n hX dX4_readWord_14 rfl (by decide)) nw_ist_le, List.forall_mem_cons.mpr ⟨np_s_aload_n hX dX4_readWord_15 rfl, List.forall_mem_cons.mpr ⟨np_S.mono (op := np_getf 4 5) (np_s_getf hX dX4_readWord_16 (C := RX4) (T := TX4) (N := 11) rfl guX4 (by decide) gw228) nw_getf_le, List.forall_mem_cons.mpr ⟨np_s_aload_n hX dX4_readWord_19 rfl, List.forall_mem_cons.mpr ⟨np_S.mono (op := np_getf 4 1) (np_s_getf hX dX4_readWord_20 (C := RX4) (T := TX4) (N := 11) rfl guX4 (by decide) gw223) nw_getf_le, List.forall_mem_cons.mpr ⟨np_S.mono (op := np_getf 8 2) (np_s_getN hX dX4_readWord_23 (C := RX8) (T := TX8) (N := 9) rfl guX8 (by decide) gw152) nw_getf_le, List.forall_mem_cons.mpr ⟨np_S.mono (op := np_callV 2 2 sp_X2_c 2 0 0 0 0) (np_s_callV hX C_X2_c dX4_readWord_26 (q := (RX2, TX2, 5)) rfl rfl gw690 gw64 gw1030 gw688 gw689 ⟨by decide, by decide, by decide⟩ (by decide) (by decide)) nw_callV_le, List.forall_mem_cons.mpr ⟨np_S.mono (op := np_call 1 sp_X11_fillOfWord 1 0 0 0 0) (np_s_callSN hX C_X11_fillOfWord dX4_readWord_29 gw707 gw63 gw1046 gw706 ⟨by decide, by decide, by decide⟩ (by decide) (by decide)) nq_call_le, List.forall_mem_cons.mpr ⟨np_S.mono (op := np_ist 1 2) (np_s_istore_n hX dX4_readWord_32 rfl (by decide)) nw_ist_le, List.forall_mem_cons.mpr ⟨np_s_aload_n hX dX4_readWord_33 rfl, List.forall_mem_cons.mpr ⟨np_S.mono (op := np_getf 4 5) (np_s_getf hX dX4_readWord_34 (C := RX4) (T := TX4) (N := 11) rfl guX4 (by decide) gw228) nw_getf_le, List.forall_mem_cons.mpr ⟨np_s_aload_n hX dX4_readWord_37 rfl, List.forall_mem_cons.mpr ⟨np_S.mono (op := np_getf 4 1) (np_s_getf hX dX4_readWord_38 (C := RX4) (T := TX4) (N := 11) rfl guX4 (by decide) gw223) nw_getf_le, List.forall_mem_cons.mpr ⟨np_S.mono (op := np_getf 8 2) (np_s_getN hX dX4_readWord_41 (C := RX8) (T := TX8) (N := 9) rfl guX8 (by decide) gw152) nw_getf_le, List.forall_mem_cons.mpr ⟨np_S.mono (op := np_callV 2 2 sp_X2_a 2 0 0 0 0) (np_s_callV hX C_X2_a dX4_readWord_44 (q := (RX2, TX2, 5)) rfl rfl gw657 gw64 gw1033 gw655 gw656 ⟨by decide, by decide, by decide⟩ (by decide) (by decide)) nw_callV_le, List.forall_mem_cons.mpr ⟨np_S.mono (op := np_ist 1 3) (np_s_istore_n hX dX4_readWord_47 rfl (by decide)) nw_ist_le, List.forall_mem_cons.mpr ⟨np_s_aload_n hX dX4_readWord_48 rfl, List.forall_mem_cons.mpr ⟨np_s_iload_n hX dX4_readWord_49 rfl, List.forall_mem_cons.mpr ⟨np_S.mono (op := np_callV 4 2 sp_X4_gatherWords 6 0 0 0 0) (np_s_callV hX C_X4_gatherWords dX4_readWord_50 (q := (RX4, TX4, 11)) rfl rfl gw1050 gw67 gw1047 gw1049 gw25 ⟨by decide, by decide, by decide⟩ (by decide) (by decide)) nw_callV_le, List.forall_mem_cons.mpr ⟨np_S.mono (op := np_ist 2 4) (np_s_istore hX dX4_readWord_53 (by decide)) nw_ist_le, List.forall_mem_cons.mpr ⟨np_s_iconst hX dX4_readWord_55 (by decide), List.forall_mem_cons.mpr ⟨np_S.mono (op := np_ist 2 5) (np_s_istore hX dX4_readWord_56 (by decide)) nw_ist_le, List.forall_mem_cons.mpr ⟨np_s_iload hX dX4_readWord_58, List.forall_mem_cons.mpr ⟨np_s_iload hX dX4_readWord_60, List.forall_mem_cons.mpr ⟨np_S.mono (op := np_ic (fun x y => y < x) 106) (np_s_icmp_gt hX dX4_readWord_62 (by decide)) nq_ic_le, List.forall_mem_cons.mpr ⟨np_s_aload_n hX dX4_readWord_65 rfl, List.forall_mem_cons.mpr ⟨np_s_aload_n hX dX4_readWord_66 rfl, List.forall_mem_cons.mpr ⟨np_S.mono (op := np_getf 4 4) (np_s_getf hX dX4_readWord_67 (C := RX4) (T := TX4) (N := 11) rfl guX4 (by decide) gw227) nw_getf_le, List.forall_mem_cons.mpr ⟨np_s_iload hX dX4_readWord_70, List.forall_mem_cons.mpr ⟨np_s_iload_n hX dX4_readWord_72 rfl, List.forall_mem_cons.mpr ⟨np_S.mono (op := np_call 3 sp_X11_at 3 0 0 0 0) (np_s_callSN hX C_X11_at dX4_readWord_73 gw653 gw63 gw1032 gw652 ⟨by decide, by decide, by decide⟩ (by decide) (by decide)) nq_call_le, List.forall_mem_cons.mpr ⟨np_s_iload_n hX dX4_readWord_76 rfl, List.forall_mem_cons.mpr ⟨np_s_iload_n hX dX4_readWord_77 rfl, List.forall_mem_cons.mpr ⟨np_S.mono (op := np_callV 4 4 sp_X4_areFills 5 0 0 0 0) (np_s_callV hX C_X4_areFills dX4_readWord_78 (q := (RX4, TX4, 11)) rfl rfl gw1063 gw67 gw1060 gw1062 gw27 ⟨by decide, by decide, by decide⟩ (by decide) (by decide)) nw_callV_le, List.forall_mem_cons.mpr ⟨np_S.mono (op := np_if (fun x => x = 0) 100) (np_s_if_eq hX dX4_readWord_81 (by decide)) nq_if_le, List.forall_mem_cons.mpr ⟨np_s_aload_n hX dX4_readWord_84 rfl, List.forall_mem_cons.mpr ⟨np_s_iload_n hX dX4_readWord_85 rfl, List.forall_mem_cons.mpr ⟨np_s_aload_n hX dX4_readWord_86 rfl, List.forall_mem_cons.mpr ⟨np_S.mono (op := np_getf 4 3) (np_s_getf hX dX4_readWord_87 (C := RX4) (T := TX4) (N := 11) rfl guX4 (by decide) gw226) nw_getf_le, List.forall_mem_cons.mpr ⟨np_s_iload hX dX4_readWord_90, List.forall_mem_cons.mpr ⟨np_s_iconst hX dX4_readWord_92 (by decide), List.forall_mem_cons.mpr ⟨np_S.mono (op := np_call 3 sp_X11_at 3 0 0 0 0) (np_s_callSN hX C_X11_at dX4_readWord_93 gw653 gw63 gw1032 gw652 ⟨by decide, by decide, by decide⟩ (by decide) (by decide)) nq_call_le, List.forall_mem_cons.mpr ⟨np_s_iload_n hX dX4_readWord_96 rfl, List.forall_mem_cons.mpr ⟨np_S.mono (op := np_callV 4 4 sp_X4_keepWay 6 0 0 0 0) (np_s_callV hX C_X4_keepWay dX4_readWord_97 (q := (RX4, TX4, 11)) rfl rfl gw1037 gw67 gw1034 gw1036 gw23 ⟨by decide, by decide, by decide⟩ (by decide) (by decide)) nw_callV_le, List.forall_mem_cons.mpr ⟨np_S.mono (op := np_iinc 5 1) (np_s_iinc hX dX4_readWord_100 (by decide)) nw_iinc_le, List.forall_mem_cons.mpr ⟨np_s_goto hX dX4_readWord_103 (by decide), List.forall_mem_cons.mpr ⟨np_S.mono (op := np_ret X.2.2.1) (np_s_ret hX dX4_readWord_106) (nq_ret_le hR), fun _ h => nomatch h⟩⟩⟩⟩⟩⟩⟩⟩⟩⟩⟩⟩⟩⟩⟩⟩⟩⟩⟩⟩⟩⟩⟩⟩⟩⟩⟩⟩⟩⟩⟩⟩⟩⟩⟩⟩⟩⟩⟩⟩⟩⟩⟩⟩⟩⟩⟩⟩⟩⟩⟩⟩⟩
noncomputable def m_X4_readWord_58 : Nat → pw_S → Nat → Int32 → Int32 → Int32 → Int32 → Int32 → pw_R Unit
| 0, _, _, _, _, _, _, _ => none
| N + 1, S, v0, v1, v2, v3, v4, v5 =>
 if v4 < v5 then
 (some (S, ()))
 else
 (pw_b (m_X11_at S 32 0 v5 v1) fun S1 r4 =>
 pw_b (m_X4_areFills S1 v0 r4 v1 v2) fun S6 r9 =>
 if r9 = 0 then
 (pw_l (v5 + 1 : Int32) fun z11 =>
 m_X4_readWord_58 N S6 v0 v1 v2 v3 v4 z11)
 else
 (pw_b (m_X11_at S6 31 0 v5 0) fun S12 r15 =>
 pw_b (m_X4_keepWay S12 v0 v3 r15 v1) fun S17 r20 =>
 pw_l (v5 + 1 : Int32) fun z22 =>
 m_X4_readWord_58 N S17 v0 v1 v2 v3 v4 z22))
set_option maxRecDepth 100000 in
set_option maxHeartbeats 8000000 in
theorem L_X4_readWord_58 {X : np_Ctx} (hX : np_ok RX4 cX4_readWord 6 4 130 0 0 .return_ X) {Q : Option Value → np_W → Prop} {q n : Nat} (hR : ∀ st w ce sl, np_rt none 0 0 Q st w ce sl → X.2.2.1 st w ce sl) : ∀ (N : Nat) (S : pw_S) (v0 : Nat) (v1 : Int32) (v2 : Int32) (v3 : Int32) (v4 : Int32) (v5 : Int32) (f : Nat → Option np_E) (hv0 : pw_ok q 59 v0 = true), pw_W q (n, f) S → pw_p (m_X4_readWord_58 N S v0 v1 v2 v3 v4 v5) (fun S' r => ∀ f', pw_W q (n, f') S' → Q none (n, f')) → np_G X 58 [(0, .ref (pw_pl 59 v0)), (1, .int v1), (2, .int v2), (3, .int v3), (4, .int v4), (5, .int v5)] [] (n, f) 0 0 := by
  intro N
  induction N with
  | zero =>
    intro S v0 v1 v2 v3 v4 v5 f hv0 hW h
    exact (pw_pn h).elim
  | succ N ih =>
    intro S v0 v1 v2 v3 v4 v5 f hv0 hW h
    unfold m_X4_readWord_58 at h
    refine np_soundW (so_X4_readWord hX hR) [58] 400 58 _ _ _ _ _ ?_
    conv => whnf
    refine pw_br h (fun _ h => ?_) (fun _ h => ?_)
    · conv => whnf
      exact ⟨Nat.le_of_ble_eq_true rfl, Nat.le_of_ble_eq_true rfl, rfl, _, fun _ _ h9 => h9, pw_ps h _ hW⟩
    · conv => whnf
      refine np_rd_i (hW.g hv0) ?_
      conv => whnf
      refine ⟨q, S, 32, 0, v5, v1, rfl, rfl, rfl, hW, pw_bd h (fun S1 r4 h f2 hW3 => ?_)⟩
      conv => whnf
      refine np_rd_i (hW3.g hv0) ?_
      conv => whnf
      refine ⟨q, S1, v0, r4, v1, v2, rfl, hv0, hW3, pw_bd h (fun S6 r9 h f7 hW8 => ?_)⟩
      conv => whnf
      refine pw_br h (fun _ h => ?_) (fun _ h => ?_)
      · conv => whnf
        refine pw_st h (fun z11 h => ?_)
        conv => whnf
        exact np_gl (ih S6 v0 v1 v2 v3 v4 z11 f7 hv0 hW8 h) ⟨rfl, rfl, rfl, rfl, rfl, rfl, trivial⟩
      · conv => whnf
        refine np_rd_i (hW8.g hv0) ?_
        conv => whnf
        refine ⟨q, S6, 31, 0, v5, 0, rfl, rfl, rfl, hW8, pw_bd h (fun S12 r15 h f13 hW14 => ?_)⟩
        conv => whnf
        refine np_rd_i (hW14.g hv0) ?_
        conv => whnf
        refine ⟨q, S12, v0, v3, r15, v1, rfl, hv0, hW14, pw_bd h (fun S17 r20 h f18 hW19 => ?_)⟩
        conv => whnf
        refine pw_st h (fun z22 h => ?_)
        conv => whnf
        exact np_gl (ih S17 v0 v1 v2 v3 v4 z22 f18 hv0 hW19 h) ⟨rfl, rfl, rfl, rfl, rfl, rfl, trivial⟩
noncomputable def m_X4_readWord (S : pw_S) (i0 : Nat) : pw_R Unit :=
 pw_b (m_X2_b S (pw_dn 8 (S 59 i0 5)) (S 50 407 2)) fun S23 r26 =>
 pw_l (r26 : Int32) fun z28 =>
 pw_b (m_X2_c S23 (pw_dn 8 (S23 59 i0 5)) (S23 50 407 2)) fun S29 r32 =>
 pw_b (m_X11_fillOfWord S29 r32) fun S34 r37 =>
 pw_l (r37 : Int32) fun z39 =>
 pw_b (m_X2_a S34 (pw_dn 8 (S34 59 i0 5)) (S34 50 407 2)) fun S40 r43 =>
 pw_l (r43 : Int32) fun z45 =>
 pw_b (m_X4_gatherWords S40 i0 z28) fun S46 r49 =>
 pw_l (r49 : Int32) fun z51 =>
 pw_l (0 : Int32) fun z52 =>
 m_X4_readWord_58 (pw_F 20000) S46 i0 z28 z39 z45 z51 z52
def sp_X4_readWord : np_Sp := fun vs w Q => ∃ (q : Nat) (S : pw_S) (i0 : Nat), vs = [.ref (pw_pl 59 i0)] ∧ pw_ok q 59 i0 = true ∧ pw_W q w S ∧ pw_p (m_X4_readWord S i0) (fun S' r => ∀ f', pw_W q (w.1, f') S' → Q none (w.1, f'))
set_option maxRecDepth 100000 in
set_option maxHeartbeats 8000000 in
theorem C_X4_readWord : np_C yX4_readWord cX4_readWord 6 none 4 130 0 0 sp_X4_readWord := by
  refine np_of (by decide) ?_
  intro X vs w Q hsp hX hmn hRt hlt
  obtain ⟨q, S, i0, rfl, hi0, hW, h⟩ := hsp
  obtain ⟨n, f⟩ := w
  unfold m_X4_readWord at h
  have hR : ∀ st w ce sl, np_rt none 0 0 Q st w ce sl → X.2.2.1 st w ce sl := fun _ _ _ _ h => by rw [hRt]; exact h
  refine np_soundW (so_X4_readWord hX hR) [58] 400 0 _ _ _ _ _ ?_
  conv => whnf
  refine np_rd_i (hW.g hi0) ?_
  conv => whnf
  refine np_rd_i (hW.g hi0) ?_
  conv => whnf
  refine np_rd_i (hW.g rfl) ?_
  conv => whnf
  refine np_rd_i (hW.g (pw_okd (a := 51) (n := 8) rfl rfl rfl)) ?_
  conv => whnf
  refine ⟨q, S, (pw_dn 8 (S 59 i0 5)), (S 50 407 2), rfl, (pw_okd (a := 51) (n := 8) rfl rfl rfl), hW, pw_bd h (fun S23 r26 h f24 hW25 => ?_)⟩
  conv => whnf
  refine pw_st h (fun z28 h => ?_)
  conv => whnf
  refine np_rd_i (hW25.g hi0) ?_
  conv => whnf
  refine np_rd_i (hW25.g hi0) ?_
  conv => whnf
  refine np_rd_i (hW25.g rfl) ?_
  conv => whnf
  refine np_rd_i (hW25.g (pw_okd (a := 51) (n := 8) rfl rfl rfl)) ?_
  conv => whnf
  refine ⟨q, S23, (pw_dn 8 (S23 59 i0 5)), (S23 50 407 2), rfl, (pw_okd (a := 51) (n := 8) rfl rfl rfl), hW25, pw_bd h (fun S29 r32 h f30 hW31 => ?_)⟩
  conv => whnf
  refine ⟨q, S29, r32, rfl, hW31, pw_bd h (fun S34 r37 h f35 hW36 => ?_)⟩
  conv => whnf
  refine pw_st h (fun z39 h => ?_)
  conv => whnf
  refine np_rd_i (hW36.g hi0) ?_
  conv => whnf
  refine np_rd_i (hW36.g hi0) ?_
  conv => whnf
  refine np_rd_i (hW36.g rfl) ?_
  conv => whnf
  refine np_rd_i (hW36.g (pw_okd (a := 51) (n := 8) rfl rfl rfl)) ?_
  conv => whnf
  refine ⟨q, S34, (pw_dn 8 (S34 59 i0 5)), (S34 50 407 2), rfl, (pw_okd (a := 51) (n := 8) rfl rfl rfl), hW36, pw_bd h (fun S40 r43 h f41 hW42 => ?_)⟩
  conv => whnf
  refine pw_st h (fun z45 h => ?_)
  conv => whnf
  refine np_rd_i (hW42.g hi0) ?_
  conv => whnf
  refine ⟨q, S40, i0, z28, rfl, hi0, hW42, pw_bd h (fun S46 r49 h f47 hW48 => ?_)⟩
  conv => whnf
  refine pw_st h (fun z51 h => ?_)
  conv => whnf
  refine pw_st h (fun z52 h => ?_)
  conv => whnf
  exact np_gl (L_X4_readWord_58 hX hR (pw_F 20000) S46 i0 z28 z39 z45 z51 z52 f47 hi0 hW48 h) ⟨rfl, rfl, rfl, rfl, rfl, rfl, trivial⟩
theorem dX4_readOpen_0 : decode cX4_readOpen 0 = .ok (.aload_n 0, 1) := by decide +kernel
theorem dX4_readOpen_1 : decode cX4_readOpen 1 = .ok (.getfield 35, 3) := by decide +kernel
theorem dX4_readOpen_4 : decode cX4_readOpen 4 = .ok (.aload_n 0, 1) := by decide +kernel
theorem dX4_readOpen_5 : decode cX4_readOpen 5 = .ok (.getfield 18, 3) := by decide +kernel
theorem dX4_readOpen_8 : decode cX4_readOpen 8 = .ok (.getfield 78, 3) := by decide +kernel
theorem dX4_readOpen_11 : decode cX4_readOpen 11 = .ok (.invokevirtual 145, 3) := by decide +kernel
theorem dX4_readOpen_14 : decode cX4_readOpen 14 = .ok (.istore_n 1, 1) := by decide +kernel
theorem dX4_readOpen_15 : decode cX4_readOpen 15 = .ok (.aload_n 0, 1) := by decide +kernel
theorem dX4_readOpen_16 : decode cX4_readOpen 16 = .ok (.getfield 35, 3) := by decide +kernel
theorem dX4_readOpen_19 : decode cX4_readOpen 19 = .ok (.aload_n 0, 1) := by decide +kernel
theorem dX4_readOpen_20 : decode cX4_readOpen 20 = .ok (.getfield 18, 3) := by decide +kernel
theorem dX4_readOpen_23 : decode cX4_readOpen 23 = .ok (.getfield 78, 3) := by decide +kernel
theorem dX4_readOpen_26 : decode cX4_readOpen 26 = .ok (.invokevirtual 100, 3) := by decide +kernel
theorem dX4_readOpen_29 : decode cX4_readOpen 29 = .ok (.istore_n 2, 1) := by decide +kernel
theorem dX4_readOpen_30 : decode cX4_readOpen 30 = .ok (.aload_n 0, 1) := by decide +kernel
theorem dX4_readOpen_31 : decode cX4_readOpen 31 = .ok (.bipush 60, 2) := by decide +kernel
theorem dX4_readOpen_33 : decode cX4_readOpen 33 = .ok (.invokevirtual 170, 3) := by decide +kernel
theorem dX4_readOpen_36 : decode cX4_readOpen 36 = .ok (.istore_n 3, 1) := by decide +kernel
theorem dX4_readOpen_37 : decode cX4_readOpen 37 = .ok (.iload_n 3, 1) := by decide +kernel
theorem dX4_readOpen_38 : decode cX4_readOpen 38 = .ok (.ifCond .lt 49, 3) := by decide +kernel
theorem dX4_readOpen_41 : decode cX4_readOpen 41 = .ok (.aload_n 0, 1) := by decide +kernel
theorem dX4_readOpen_42 : decode cX4_readOpen 42 = .ok (.getfield 29, 3) := by decide +kernel
theorem dX4_readOpen_45 : decode cX4_readOpen 45 = .ok (.iload_n 3, 1) := by decide +kernel
theorem dX4_readOpen_46 : decode cX4_readOpen 46 = .ok (.bipush 60, 2) := by decide +kernel
theorem dX4_readOpen_48 : decode cX4_readOpen 48 = .ok (.invokestatic 159, 3) := by decide +kernel
theorem dX4_readOpen_51 : decode cX4_readOpen 51 = .ok (.istore 4, 2) := by decide +kernel
theorem dX4_readOpen_53 : decode cX4_readOpen 53 = .ok (.aload_n 0, 1) := by decide +kernel
theorem dX4_readOpen_54 : decode cX4_readOpen 54 = .ok (.iload 4, 2) := by decide +kernel
theorem dX4_readOpen_56 : decode cX4_readOpen 56 = .ok (.invokevirtual 136, 3) := by decide +kernel
theorem dX4_readOpen_59 : decode cX4_readOpen 59 = .ok (.iload_n 1, 1) := by decide +kernel
theorem dX4_readOpen_60 : decode cX4_readOpen 60 = .ok (.if_icmp .ne 21, 3) := by decide +kernel
theorem dX4_readOpen_63 : decode cX4_readOpen 63 = .ok (.aload_n 0, 1) := by decide +kernel
theorem dX4_readOpen_64 : decode cX4_readOpen 64 = .ok (.iload_n 2, 1) := by decide +kernel
theorem dX4_readOpen_65 : decode cX4_readOpen 65 = .ok (.aload_n 0, 1) := by decide +kernel
theorem dX4_readOpen_66 : decode cX4_readOpen 66 = .ok (.getfield 26, 3) := by decide +kernel
theorem dX4_readOpen_69 : decode cX4_readOpen 69 = .ok (.iload_n 3, 1) := by decide +kernel
theorem dX4_readOpen_70 : decode cX4_readOpen 70 = .ok (.iconst 0, 1) := by decide +kernel
theorem dX4_readOpen_71 : decode cX4_readOpen 71 = .ok (.invokestatic 159, 3) := by decide +kernel
theorem dX4_readOpen_74 : decode cX4_readOpen 74 = .ok (.iload 4, 2) := by decide +kernel
theorem dX4_readOpen_76 : decode cX4_readOpen 76 = .ok (.iconst 1, 1) := by decide +kernel
theorem dX4_readOpen_77 : decode cX4_readOpen 77 = .ok (.iadd, 1) := by decide +kernel
theorem dX4_readOpen_78 : decode cX4_readOpen 78 = .ok (.invokevirtual 163, 3) := by decide +kernel
theorem dX4_readOpen_81 : decode cX4_readOpen 81 = .ok (.iinc 3 (-1), 3) := by decide +kernel
theorem dX4_readOpen_84 : decode cX4_readOpen 84 = .ok (.goto (-47), 3) := by decide +kernel
theorem dX4_readOpen_87 : decode cX4_readOpen 87 = .ok (.return_, 1) := by decide +kernel
def is_X4_readOpen (Rt : np_Rt) : List (Nat × np_Op) := [(0, np_ald 1 0), (1, nw_getf 4 5), (4, np_ald 1 0), (5, nw_getf 4 1), (8, nw_getf 8 2), (11, nw_callV 2 2 sp_X2_b 2 0 0 0 0), (14, nw_ist 1 1), (15, np_ald 1 0), (16, nw_getf 4 5), (19, np_ald 1 0), (20, nw_getf 4 1), (23, nw_getf 8 2), (26, nw_callV 2 2 sp_X2_a 2 0 0 0 0), (29, nw_ist 1 2), (30, np_ald 1 0), (31, np_push 2 (.int 60)), (33, nw_callV 4 2 sp_X4_gatherWords 6 0 0 0 0), (36, nw_ist 1 3), (37, np_ild 1 3), (38, nq_if (fun x => x < 0) 87), (41, np_ald 1 0), (42, nw_getf 4 4), (45, np_ild 1 3), (46, np_push 2 (.int 60)), (48, nq_call 3 sp_X11_at 3 0 0 0 0), (51, nw_ist 2 4), (53, np_ald 1 0), (54, np_ild 2 4), (56, nw_callV 4 2 sp_X4_ahead 2 0 0 0 0), (59, np_ild 1 1), (60, nq_icne 81), (63, np_ald 1 0), (64, np_ild 1 2), (65, np_ald 1 0), (66, nw_getf 4 3), (69, np_ild 1 3), (70, np_push 1 (.int 0)), (71, nq_call 3 sp_X11_at 3 0 0 0 0), (74, np_ild 2 4), (76, np_push 1 (.int 1)), (77, np_ib (fun x y => x + y)), (78, nw_callV 4 4 sp_X4_keepWay 6 0 0 0 0), (81, nw_iinc 3 (-1)), (84, np_goto 37), (87, np_ret Rt)]
set_option maxRecDepth 20000 in
theorem so_X4_readOpen {X : np_Ctx} {Rt : np_Rt} (hX : np_ok RX4 cX4_readOpen 5 4 130 0 0 .return_ X) (hR : ∀ st w ce sl, Rt st w ce sl → X.2.2.1 st w ce sl) : ∀ q ∈ is_X4_readOpen Rt, np_S X q.1 q.2 :=
  List.forall_mem_cons.mpr ⟨np_s_aload_n hX dX4_readOpen_0 rfl, List.forall_mem_cons.mpr ⟨np_S.mono (op := np_getf 4 5) (np_s_getf hX dX4_readOpen_1 (C := RX4) (T := TX4) (N := 11) rfl guX4 (by decide) gw228) nw_getf_le, List.forall_mem_cons.mpr ⟨np_s_aload_n hX dX4_readOpen_4 rfl, List.forall_mem_cons.mpr ⟨np_S.mono (op := np_getf 4 1) (np_s_getf hX dX4_readOpen_5 (C := RX4) (T := TX4) (N := 11) rfl guX4 (by decide) gw223) nw_getf_le, List.forall_mem_cons.mpr ⟨np_S.mono (op := np_getf 8 2) (np_s_getN hX dX4_readOpen_8 (C := RX8) (T := TX8) (N := 9) rfl guX8 (by decide) gw152) nw_getf_le, List.forall_mem_cons.mpr ⟨np_S.mono (op := np_callV 2 2 sp_X2_b 2 0 0 0 0) (np_s_callV hX C_X2_b dX4_readOpen_11 (q := (RX2, TX2, 5)) rfl rfl gw673 gw64 gw1023 gw671 gw672 ⟨by decide, by decide, by decide⟩ (by decide) (by decide)) nw_callV_le, List.forall_mem_cons.mpr ⟨np_S.mono (op := np_ist 1 1) (np_s_istore_n hX dX4_readOpen_14 rfl (by decide)) nw_ist_le, List.forall_mem_cons.mpr ⟨np_s_aload_n hX dX4_readOpen_15 rfl, List.forall_mem_cons.mpr ⟨np_S.mono (op := np_getf 4 5) (np_s_getf hX dX4_readOpen_16 (C := RX4) (T := TX4) (N := 11) rfl guX4 (by decide) gw228) nw_getf_le, List.forall_mem_cons.mpr ⟨np_s_aload_n hX dX4_readOpen_19 rfl, List.forall_mem_cons.mpr ⟨np_S.mono (op := np_getf 4 1) (np_s_getf hX dX4_readOpen_20 (C := RX4) (T := TX4) (N := 11) rfl guX4 (by decide) gw223) nw_getf_le, List.forall_mem_cons.mpr ⟨np_S.mono (op := np_getf 8 2) (np_s_getN hX dX4_readOpen_23 (C := RX8) (T := TX8) (N := 9) rfl guX8 (by decide) gw152) nw_getf_le, List.forall_mem_cons.mpr ⟨np_S.mono (op := np_callV 2 2 sp_X2_a 2 0 0 0 0) (np_s_callV hX C_X2_a dX4_readOpen_26 (q := (RX2, TX2, 5)) rfl rfl gw657 gw64 gw1033 gw655 gw656 ⟨by decide, by decide, by decide⟩ (by decide) (by decide)) nw_callV_le, List.forall_mem_cons.mpr ⟨np_S.mono (op := np_ist 1 2) (np_s_istore_n hX dX4_readOpen_29 rfl (by decide)) nw_ist_le, List.forall_mem_cons.mpr ⟨np_s_aload_n hX dX4_readOpen_30 rfl, List.forall_mem_cons.mpr ⟨np_s_bipush hX dX4_readOpen_31 (by decide), List.forall_mem_cons.mpr ⟨np_S.mono (op := np_callV 4 2 sp_X4_gatherWords 6 0 0 0 0) (np_s_callV hX C_X4_gatherWords dX4_readOpen_33 (q := (RX4, TX4, 11)) rfl rfl gw1050 gw67 gw1047 gw1049 gw25 ⟨by decide, by decide, by decide⟩ (by decide) (by decide)) nw_callV_le, List.forall_mem_cons.mpr ⟨np_S.mono (op := np_ist 1 3) (np_s_istore_n hX dX4_readOpen_36 rfl (by decide)) nw_ist_le, List.forall_mem_cons.mpr ⟨np_s_iload_n hX dX4_readOpen_37 rfl, List.forall_mem_cons.mpr ⟨np_S.mono (op := np_if (fun x => x < 0) 87) (np_s_if_lt hX dX4_readOpen_38 (by decide)) nq_if_le, List.forall_mem_cons.mpr ⟨np_s_aload_n hX dX4_readOpen_41 rfl, List.forall_mem_cons.mpr ⟨np_S.mono (op := np_getf 4 4) (np_s_getf hX dX4_readOpen_42 (C := RX4) (T := TX4) (N := 11) rfl guX4 (by decide) gw227) nw_getf_le, List.forall_mem_cons.mpr ⟨np_s_iload_n hX dX4_readOpen_45 rfl, List.forall_mem_cons.mpr ⟨np_s_bipush hX dX4_readOpen_46 (by decide), List.forall_mem_cons.mpr ⟨np_S.mono (op := np_call 3 sp_X11_at 3 0 0 0 0) (np_s_callSN hX C_X11_at dX4_readOpen_48 gw653 gw63 gw1032 gw652 ⟨by decide, by decide, by decide⟩ (by decide) (by decide)) nq_call_le, List.forall_mem_cons.mpr ⟨np_S.mono (op := np_ist 2 4) (np_s_istore hX dX4_readOpen_51 (by decide)) nw_ist_le, List.forall_mem_cons.mpr ⟨np_s_aload_n hX dX4_readOpen_53 rfl, List.forall_mem_cons.mpr ⟨np_s_iload hX dX4_readOpen_54, List.forall_mem_cons.mpr ⟨np_S.mono (op := np_callV 4 2 sp_X4_ahead 2 0 0 0 0) (np_s_callV hX C_X4_ahead dX4_readOpen_56 (q := (RX4, TX4, 11)) rfl rfl gw1027 gw67 gw1024 gw1026 gw22 ⟨by decide, by decide, by decide⟩ (by decide) (by decide)) nw_callV_le, List.forall_mem_cons.mpr ⟨np_s_iload_n hX dX4_readOpen_59 rfl, List.forall_mem_cons.mpr ⟨np_S.mono (op := np_icne 81) (np_s_icmp_ne hX dX4_readOpen_60 (by decide)) nq_icne_le, List.forall_mem_cons.mpr ⟨np_s_aload_n hX dX4_readOpen_63 rfl, List.forall_mem_cons.mpr ⟨np_s_iload_n hX dX4_readOpen_64 rfl, List.forall_mem_cons.mpr ⟨np_s_aload_n hX dX4_readOpen_65 rfl, List.forall_mem_cons.mpr ⟨np_S.mono (op := np_getf 4 3) (np_s_getf hX dX4_readOpen_66 (C := RX4) (T := TX4) (N := 11) rfl guX4 (by decide) gw226) nw_getf_le, List.forall_mem_cons.mpr ⟨np_s_iload_n hX dX4_readOpen_69 rfl, List.forall_mem_cons.mpr ⟨np_s_iconst hX dX4_readOpen_70 (by decide), List.forall_mem_cons.mpr ⟨np_S.mono (op := np_call 3 sp_X11_at 3 0 0 0 0) (np_s_callSN hX C_X11_at dX4_readOpen_71 gw653 gw63 gw1032 gw652 ⟨by decide, by decide, by decide⟩ (by decide) (by decide)) nq_call_le, List.forall_mem_cons.mpr ⟨np_s_iload hX dX4_readOpen_74, List.forall_mem_cons.mpr ⟨np_s_iconst hX dX4_readOpen_76 (by decide), List.forall_mem_cons.mpr ⟨np_s_iadd hX dX4_readOpen_77, List.forall_mem_cons.mpr ⟨np_S.mono (op := np_callV 4 4 sp_X4_keepWay 6 0 0 0 0) (np_s_callV hX C_X4_keepWay dX4_readOpen_78 (q := (RX4, TX4, 11)) rfl rfl gw1037 gw67 gw1034 gw1036 gw23 ⟨by decide, by decide, by decide⟩ (by decide) (by decide)) nw_callV_le, List.forall_mem_cons.mpr ⟨np_S.mono (op := np_iinc 3 (-1)) (np_s_iinc hX dX4_readOpen_81 (by decide)) nw_iinc_le, List.forall_mem_cons.mpr ⟨np_s_goto hX dX4_readOpen_84 (by decide), List.forall_mem_cons.mpr ⟨np_S.mono (op := np_ret X.2.2.1) (np_s_ret hX dX4_readOpen_87) (nq_ret_le hR), fun _ h => nomatch h⟩⟩⟩⟩⟩⟩⟩⟩⟩⟩⟩⟩⟩⟩⟩⟩⟩⟩⟩⟩⟩⟩⟩⟩⟩⟩⟩⟩⟩⟩⟩⟩⟩⟩⟩⟩⟩⟩⟩⟩⟩⟩⟩⟩⟩
noncomputable def m_X4_readOpen_37 : Nat → pw_S → Nat → Int32 → Int32 → Int32 → pw_R Unit
| 0, _, _, _, _, _ => none
| N + 1, S, v0, v1, v2, v3 =>
 if v3 < 0 then
 (some (S, ()))
 else
 (pw_b (m_X11_at S 32 0 v3 60) fun S1 r4 =>
 pw_l (r4 : Int32) fun z6 =>
 pw_b (m_X4_ahead S1 v0 z6) fun S7 r10 =>
 if r10 = v1 then
 (pw_b (m_X11_at S7 31 0 v3 0) fun S12 r15 =>
 pw_b (m_X4_keepWay S12 v0 v2 r15 (z6 + 1)) fun S17 r20 =>
 pw_l (v3 + (-1) : Int32) fun z22 =>
 m_X4_readOpen_37 N S17 v0 v1 v2 z22)
 else
 (pw_l (v3 + (-1) : Int32) fun z23 =>
 m_X4_readOpen_37 N S7 v0 v1 v2 z23))
set_option maxRecDepth 100000 in
set_option maxHeartbeats 8000000 in
theorem L_X4_readOpen_37 {X : np_Ctx} (hX : np_ok RX4 cX4_readOpen 5 4 130 0 0 .return_ X) {Q : Option Value → np_W → Prop} {q n : Nat} (hR : ∀ st w ce sl, np_rt none 0 0 Q st w ce sl → X.2.2.1 st w ce sl) : ∀ (N : Nat) (S : pw_S) (v0 : Nat) (v1 : Int32) (v2 : Int32) (v3 : Int32) (f : Nat → Option np_E) (hv0 : pw_ok q 59 v0 = true), pw_W q (n, f) S → pw_p (m_X4_readOpen_37 N S v0 v1 v2 v3) (fun S' r => ∀ f', pw_W q (n, f') S' → Q none (n, f')) → np_G X 37 [(0, .ref (pw_pl 59 v0)), (1, .int v1), (2, .int v2), (3, .int v3)] [] (n, f) 0 0 := by
  intro N
  induction N with
  | zero =>
    intro S v0 v1 v2 v3 f hv0 hW h
    exact (pw_pn h).elim
  | succ N ih =>
    intro S v0 v1 v2 v3 f hv0 hW h
    unfold m_X4_readOpen_37 at h
    refine np_soundW (so_X4_readOpen hX hR) [37] 400 37 _ _ _ _ _ ?_
    conv => whnf
    refine pw_br h (fun _ h => ?_) (fun _ h => ?_)
    · conv => whnf
      exact ⟨Nat.le_of_ble_eq_true rfl, Nat.le_of_ble_eq_true rfl, rfl, _, fun _ _ h9 => h9, pw_ps h _ hW⟩
    · conv => whnf
      refine np_rd_i (hW.g hv0) ?_
      conv => whnf
      refine ⟨q, S, 32, 0, v3, 60, rfl, rfl, rfl, hW, pw_bd h (fun S1 r4 h f2 hW3 => ?_)⟩
      conv => whnf
      refine pw_st h (fun z6 h => ?_)
      conv => whnf
      refine np_rd_i (hW3.g hv0) ?_
      conv => whnf
      refine ⟨q, S1, v0, z6, rfl, hv0, hW3, pw_bd h (fun S7 r10 h f8 hW9 => ?_)⟩
      conv => whnf
      refine pw_br h (fun _ h => ?_) (fun _ h => ?_)
      · conv => whnf
        refine np_rd_i (hW9.g hv0) ?_
        conv => whnf
        refine ⟨q, S7, 31, 0, v3, 0, rfl, rfl, rfl, hW9, pw_bd h (fun S12 r15 h f13 hW14 => ?_)⟩
        conv => whnf
        refine np_rd_i (hW14.g hv0) ?_
        conv => whnf
        refine ⟨q, S12, v0, v2, r15, (z6 + 1), rfl, hv0, hW14, pw_bd h (fun S17 r20 h f18 hW19 => ?_)⟩
        conv => whnf
        refine pw_st h (fun z22 h => ?_)
        conv => whnf
        exact np_gl (ih S17 v0 v1 v2 z22 f18 hv0 hW19 h) ⟨rfl, rfl, rfl, rfl, trivial⟩
      · conv => whnf
        refine pw_st h (fun z23 h => ?_)
        conv => whnf
        exact np_gl (ih S7 v0 v1 v2 z23 f8 hv0 hW9 h) ⟨rfl, rfl, rfl, rfl, trivial⟩
noncomputable def m_X4_readOpen (S : pw_S) (i0 : Nat) : pw_R Unit :=
 pw_b (m_X2_b S (pw_dn 8 (S 59 i0 5)) (S 50 407 2)) fun S24 r27 =>
 pw_l (r27 : Int32) fun z29 =>
 pw_b (m_X2_a S24 (pw_dn 8 (S24 59 i0 5)) (S24 50 407 2)) fun S30 r33 =>
 pw_l (r33 : Int32) fun z35 =>
 pw_b (m_X4_gatherWords S30 i0 60) fun S36 r39 =>
 pw_l (r39 : Int32) fun z41 =>
 m_X4_readOpen_37 (pw_F 20000) S36 i0 z29 z35 z41
def sp_X4_readOpen : np_Sp := fun vs w Q => ∃ (q : Nat) (S : pw_S) (i0 : Nat), vs = [.ref (pw_pl 59 i0)] ∧ pw_ok q 59 i0 = true ∧ pw_W q w S ∧ pw_p (m_X4_readOpen S i0) (fun S' r => ∀ f', pw_W q (w.1, f') S' → Q none (w.1, f'))
set_option maxRecDepth 100000 in
set_option maxHeartbeats 8000000 in
theorem C_X4_readOpen : np_C yX4_readOpen cX4_readOpen 5 none 4 130 0 0 sp_X4_readOpen := by
  refine np_of (by decide) ?_
  intro X vs w Q hsp hX hmn hRt hlt
  obtain ⟨q, S, i0, rfl, hi0, hW, h⟩ := hsp
  obtain ⟨n, f⟩ := w
  unfold m_X4_readOpen at h
  have hR : ∀ st w ce sl, np_rt none 0 0 Q st w ce sl → X.2.2.1 st w ce sl := fun _ _ _ _ h => by rw [hRt]; exact h
  refine np_soundW (so_X4_readOpen hX hR) [37] 400 0 _ _ _ _ _ ?_
  conv => whnf
  refine np_rd_i (hW.g hi0) ?_
  conv => whnf
  refine np_rd_i (hW.g hi0) ?_
  conv => whnf
  refine np_rd_i (hW.g rfl) ?_
  conv => whnf
  refine np_rd_i (hW.g (pw_okd (a := 51) (n := 8) rfl rfl rfl)) ?_
  conv => whnf
  refine ⟨q, S, (pw_dn 8 (S 59 i0 5)), (S 50 407 2), rfl, (pw_okd (a := 51) (n := 8) rfl rfl rfl), hW, pw_bd h (fun S24 r27 h f25 hW26 => ?_)⟩
  conv => whnf
  refine pw_st h (fun z29 h => ?_)
  conv => whnf
  refine np_rd_i (hW26.g hi0) ?_
  conv => whnf
  refine np_rd_i (hW26.g hi0) ?_
  conv => whnf
  refine np_rd_i (hW26.g rfl) ?_
  conv => whnf
  refine np_rd_i (hW26.g (pw_okd (a := 51) (n := 8) rfl rfl rfl)) ?_
  conv => whnf
  refine ⟨q, S24, (pw_dn 8 (S24 59 i0 5)), (S24 50 407 2), rfl, (pw_okd (a := 51) (n := 8) rfl rfl rfl), hW26, pw_bd h (fun S30 r33 h f31 hW32 => ?_)⟩
  conv => whnf
  refine pw_st h (fun z35 h => ?_)
  conv => whnf
  refine np_rd_i (hW32.g hi0) ?_
  conv => whnf
  refine ⟨q, S30, i0, 60, rfl, hi0, hW32, pw_bd h (fun S36 r39 h f37 hW38 => ?_)⟩
  conv => whnf
  refine pw_st h (fun z41 h => ?_)
  conv => whnf
  exact np_gl (L_X4_readOpen_37 hX hR (pw_F 20000) S36 i0 z29 z35 z41 f37 hi0 hW38 h) ⟨rfl, rfl, rfl, rfl, trivial⟩
theorem dX4_readBits_0 : decode cX4_readBits 0 = .ok (.aload_n 0, 1) := by decide +kernel
theorem dX4_readBits_1 : decode cX4_readBits 1 = .ok (.getfield 35, 3) := by decide +kernel
theorem dX4_readBits_4 : decode cX4_readBits 4 = .ok (.aload_n 0, 1) := by decide +kernel
theorem dX4_readBits_5 : decode cX4_readBits 5 = .ok (.getfield 18, 3) := by decide +kernel
theorem dX4_readBits_8 : decode cX4_readBits 8 = .ok (.getfield 78, 3) := by decide +kernel
theorem dX4_readBits_11 : decode cX4_readBits 11 = .ok (.invokevirtual 145, 3) := by decide +kernel
theorem dX4_readBits_14 : decode cX4_readBits 14 = .ok (.istore_n 1, 1) := by decide +kernel
theorem dX4_readBits_15 : decode cX4_readBits 15 = .ok (.iconst 0, 1) := by decide +kernel
theorem dX4_readBits_16 : decode cX4_readBits 16 = .ok (.istore_n 2, 1) := by decide +kernel
theorem dX4_readBits_17 : decode cX4_readBits 17 = .ok (.iconst 0, 1) := by decide +kernel
theorem dX4_readBits_18 : decode cX4_readBits 18 = .ok (.istore_n 3, 1) := by decide +kernel
theorem dX4_readBits_19 : decode cX4_readBits 19 = .ok (.iload_n 3, 1) := by decide +kernel
theorem dX4_readBits_20 : decode cX4_readBits 20 = .ok (.iload_n 1, 1) := by decide +kernel
theorem dX4_readBits_21 : decode cX4_readBits 21 = .ok (.if_icmp .ge 39, 3) := by decide +kernel
theorem dX4_readBits_24 : decode cX4_readBits 24 = .ok (.aload_n 0, 1) := by decide +kernel
theorem dX4_readBits_25 : decode cX4_readBits 25 = .ok (.iload_n 3, 1) := by decide +kernel
theorem dX4_readBits_26 : decode cX4_readBits 26 = .ok (.invokevirtual 136, 3) := by decide +kernel
theorem dX4_readBits_29 : decode cX4_readBits 29 = .ok (.bipush 120, 2) := by decide +kernel
theorem dX4_readBits_31 : decode cX4_readBits 31 = .ok (.if_icmp .ne 12, 3) := by decide +kernel
theorem dX4_readBits_34 : decode cX4_readBits 34 = .ok (.iload_n 2, 1) := by decide +kernel
theorem dX4_readBits_35 : decode cX4_readBits 35 = .ok (.iconst 1, 1) := by decide +kernel
theorem dX4_readBits_36 : decode cX4_readBits 36 = .ok (.iload_n 3, 1) := by decide +kernel
theorem dX4_readBits_37 : decode cX4_readBits 37 = .ok (.ishl, 1) := by decide +kernel
theorem dX4_readBits_38 : decode cX4_readBits 38 = .ok (.ior, 1) := by decide +kernel
theorem dX4_readBits_39 : decode cX4_readBits 39 = .ok (.istore_n 2, 1) := by decide +kernel
theorem dX4_readBits_40 : decode cX4_readBits 40 = .ok (.goto 14, 3) := by decide +kernel
theorem dX4_readBits_43 : decode cX4_readBits 43 = .ok (.aload_n 0, 1) := by decide +kernel
theorem dX4_readBits_44 : decode cX4_readBits 44 = .ok (.iload_n 3, 1) := by decide +kernel
theorem dX4_readBits_45 : decode cX4_readBits 45 = .ok (.invokevirtual 136, 3) := by decide +kernel
theorem dX4_readBits_48 : decode cX4_readBits 48 = .ok (.bipush 45, 2) := by decide +kernel
theorem dX4_readBits_50 : decode cX4_readBits 50 = .ok (.if_icmp .eq 4, 3) := by decide +kernel
theorem dX4_readBits_53 : decode cX4_readBits 53 = .ok (.return_, 1) := by decide +kernel
theorem dX4_readBits_54 : decode cX4_readBits 54 = .ok (.iinc 3 1, 3) := by decide +kernel
theorem dX4_readBits_57 : decode cX4_readBits 57 = .ok (.goto (-38), 3) := by decide +kernel
theorem dX4_readBits_60 : decode cX4_readBits 60 = .ok (.aload_n 0, 1) := by decide +kernel
theorem dX4_readBits_61 : decode cX4_readBits 61 = .ok (.aload_n 0, 1) := by decide +kernel
theorem dX4_readBits_62 : decode cX4_readBits 62 = .ok (.getfield 35, 3) := by decide +kernel
theorem dX4_readBits_65 : decode cX4_readBits 65 = .ok (.aload_n 0, 1) := by decide +kernel
theorem dX4_readBits_66 : decode cX4_readBits 66 = .ok (.getfield 18, 3) := by decide +kernel
theorem dX4_readBits_69 : decode cX4_readBits 69 = .ok (.getfield 78, 3) := by decide +kernel
theorem dX4_readBits_72 : decode cX4_readBits 72 = .ok (.invokevirtual 100, 3) := by decide +kernel
theorem dX4_readBits_75 : decode cX4_readBits 75 = .ok (.iload_n 2, 1) := by decide +kernel
theorem dX4_readBits_76 : decode cX4_readBits 76 = .ok (.iload_n 1, 1) := by decide +kernel
theorem dX4_readBits_77 : decode cX4_readBits 77 = .ok (.invokevirtual 163, 3) := by decide +kernel
theorem dX4_readBits_80 : decode cX4_readBits 80 = .ok (.return_, 1) := by decide +kernel
def is_X4_readBits (Rt : np_Rt) : List (Nat × np_Op) := [(0, np_ald 1 0), (1, nw_getf 4 5), (4, np_ald 1 0), (5, nw_getf 4 1), (8, nw_getf 8 2), (11, nw_callV 2 2 sp_X2_b 2 0 0 0 0), (14, nw_ist 1 1), (15, np_push 1 (.int 0)), (16, nw_ist 1 2), (17, np_push 1 (.int 0)), (18, nw_ist 1 3), (19, np_ild 1 3), (20, np_ild 1 1), (21, nq_ic (fun x y => y ≤ x) 60), (24, np_ald 1 0), (25, np_ild 1 3), (26, nw_callV 4 2 sp_X4_ahead 2 0 0 0 0), (29, np_push 2 (.int 120)), (31, nq_icne 43), (34, np_ild 1 2), (35, np_push 1 (.int 1)), (36, np_ild 1 3), (37, np_ib (fun x y => x <<< (y &&& 31))), (38, np_ib (fun x y => x ||| y)), (39, nw_ist 1 2), (40, np_goto 54), (43, np_ald 1 0), (44, np_ild 1 3), (45, nw_callV 4 2 sp_X4_ahead 2 0 0 0 0), (48, np_push 2 (.int 45)), (50, nq_ic (fun x y => x = y) 54), (53, np_ret Rt), (54, nw_iinc 3 1), (57, np_goto 19), (60, np_ald 1 0), (61, np_ald 1 0), (62, nw_getf 4 5), (65, np_ald 1 0), (66, nw_getf 4 1), (69, nw_getf 8 2), (72, nw_callV 2 2 sp_X2_a 2 0 0 0 0), (75, np_ild 1 2), (76, np_ild 1 1), (77, nw_callV 4 4 sp_X4_keepWay 6 0 0 0 0), (80, np_ret Rt)]
set_option maxRecDepth 20000 in
theorem so_X4_readBits {X : np_Ctx} {Rt : np_Rt} (hX : np_ok RX4 cX4_readBits 4 4 130 0 0 .return_ X) (hR : ∀ st w ce sl, Rt st w ce sl → X.2.2.1 st w ce sl) : ∀ q ∈ is_X4_readBits Rt, np_S X q.1 q.2 :=
  List.forall_mem_cons.mpr ⟨np_s_aload_n hX dX4_readBits_0 rfl, List.forall_mem_cons.mpr ⟨np_S.mono (op := np_getf 4 5) (np_s_getf hX dX4_readBits_1 (C := RX4) (T := TX4) (N := 11) rfl guX4 (by decide) gw228) nw_getf_le, List.forall_mem_cons.mpr ⟨np_s_aload_n hX dX4_readBits_4 rfl, List.forall_mem_cons.mpr ⟨np_S.mono (op := np_getf 4 1) (np_s_getf hX dX4_readBits_5 (C := RX4) (T := TX4) (N := 11) rfl guX4 (by decide) gw223) nw_getf_le, List.forall_mem_cons.mpr ⟨np_S.mono (op := np_getf 8 2) (np_s_getN hX dX4_readBits_8 (C := RX8) (T := TX8) (N := 9) rfl guX8 (by decide) gw152) nw_getf_le, List.forall_mem_cons.mpr ⟨np_S.mono (op := np_callV 2 2 sp_X2_b 2 0 0 0 0) (np_s_callV hX C_X2_b dX4_readBits_11 (q := (RX2, TX2, 5)) rfl rfl gw673 gw64 gw1023 gw671 gw672 ⟨by decide, by decide, by decide⟩ (by decide) (by decide)) nw_callV_le, List.forall_mem_cons.mpr ⟨np_S.mono (op := np_ist 1 1) (np_s_istore_n hX dX4_readBits_14 rfl (by decide)) nw_ist_le, List.forall_mem_cons.mpr ⟨np_s_iconst hX dX4_readBits_15 (by decide), List.forall_mem_cons.mpr ⟨np_S.mono (op := np_ist 1 2) (np_s_istore_n hX dX4_readBits_16 rfl (by decide)) nw_ist_le, List.forall_mem_cons.mpr ⟨np_s_iconst hX dX4_readBits_17 (by decide), List.forall_mem_cons.mpr ⟨np_S.mono (op := np_ist 1 3) (np_s_istore_n hX dX4_readBits_18 rfl (by decide)) nw_ist_le, List.forall_mem_cons.mpr ⟨np_s_iload_n hX dX4_readBits_19 rfl, List.forall_mem_cons.mpr ⟨np_s_iload_n hX dX4_readBits_20 rfl, List.forall_mem_cons.mpr ⟨np_S.mono (op := np_ic (fun x y => y ≤ x) 60) (np_s_icmp_ge hX dX4_readBits_21 (by decide)) nq_ic_le, List.forall_mem_cons.mpr ⟨np_s_aload_n hX dX4_readBits_24 rfl, List.forall_mem_cons.mpr ⟨np_s_iload_n hX dX4_readBits_25 rfl, List.forall_mem_cons.mpr ⟨np_S.mono (op := np_callV 4 2 sp_X4_ahead 2 0 0 0 0) (np_s_callV hX C_X4_ahead dX4_readBits_26 (q := (RX4, TX4, 11)) rfl rfl gw1027 gw67 gw1024 gw1026 gw22 ⟨by decide, by decide, by decide⟩ (by decide) (by decide)) nw_callV_le, List.forall_mem_cons.mpr ⟨np_s_bipush hX dX4_readBits_29 (by decide), List.forall_mem_cons.mpr ⟨np_S.mono (op := np_icne 43) (np_s_icmp_ne hX dX4_readBits_31 (by decide)) nq_icne_le, List.forall_mem_cons.mpr ⟨np_s_iload_n hX dX4_readBits_34 rfl, List.forall_mem_cons.mpr ⟨np_s_iconst hX dX4_readBits_35 (by decide), List.forall_mem_cons.mpr ⟨np_s_iload_n hX dX4_readBits_36 rfl, List.forall_mem_cons.mpr ⟨np_s_ishl hX dX4_readBits_37, List.forall_mem_cons.mpr ⟨np_s_ior hX dX4_readBits_38, List.forall_mem_cons.mpr ⟨np_S.mono (op := np_ist 1 2) (np_s_istore_n hX dX4_readBits_39 rfl (by decide)) nw_ist_le, List.forall_mem_cons.mpr ⟨np_s_goto hX dX4_readBits_40 (by decide), List.forall_mem_cons.mpr ⟨np_s_aload_n hX dX4_readBits_43 rfl, List.forall_mem_cons.mpr ⟨np_s_iload_n hX dX4_readBits_44 rfl, List.forall_mem_cons.mpr ⟨np_S.mono (op := np_callV 4 2 sp_X4_ahead 2 0 0 0 0) (np_s_callV hX C_X4_ahead dX4_readBits_45 (q := (RX4, TX4, 11)) rfl rfl gw1027 gw67 gw1024 gw1026 gw22 ⟨by decide, by decide, by decide⟩ (by decide) (by decide)) nw_callV_le, List.forall_mem_cons.mpr ⟨np_s_bipush hX dX4_readBits_48 (by decide), List.forall_mem_cons.mpr ⟨np_S.mono (op := np_ic (fun x y => x = y) 54) (np_s_icmp_eq hX dX4_readBits_50 (by decide)) nq_ic_le, List.forall_mem_cons.mpr ⟨np_S.mono (op := np_ret X.2.2.1) (np_s_ret hX dX4_readBits_53) (nq_ret_le hR), List.forall_mem_cons.mpr ⟨np_S.mono (op := np_iinc 3 1) (np_s_iinc hX dX4_readBits_54 (by decide)) nw_iinc_le, List.forall_mem_cons.mpr ⟨np_s_goto hX dX4_readBits_57 (by decide), List.forall_mem_cons.mpr ⟨np_s_aload_n hX dX4_readBits_60 rfl, List.forall_mem_cons.mpr ⟨np_s_aload_n hX dX4_readBits_61 rfl, List.forall_mem_cons.mpr ⟨np_S.mono (op := np_getf 4 5) (np_s_getf hX dX4_readBits_62 (C := RX4) (T := TX4) (N := 11) rfl guX4 (by decide) gw228) nw_getf_le, List.forall_mem_cons.mpr ⟨np_s_aload_n hX dX4_readBits_65 rfl, List.forall_mem_cons.mpr ⟨np_S.mono (op := np_getf 4 1) (np_s_getf hX dX4_readBits_66 (C := RX4) (T := TX4) (N := 11) rfl guX4 (by decide) gw223) nw_getf_le, List.forall_mem_cons.mpr ⟨np_S.mono (op := np_getf 8 2) (np_s_getN hX dX4_readBits_69 (C := RX8) (T := TX8) (N := 9) rfl guX8 (by decide) gw152) nw_getf_le, List.forall_mem_cons.mpr ⟨np_S.mono (op := np_callV 2 2 sp_X2_a 2 0 0 0 0) (np_s_callV hX C_X2_a dX4_readBits_72 (q := (RX2, TX2, 5)) rfl rfl gw657 gw64 gw1033 gw655 gw656 ⟨by decide, by decide, by decide⟩ (by decide) (by decide)) nw_callV_le, List.forall_mem_cons.mpr ⟨np_s_iload_n hX dX4_readBits_75 rfl, List.forall_mem_cons.mpr ⟨np_s_iload_n hX dX4_readBits_76 rfl, List.forall_mem_cons.mpr ⟨np_S.mono (op := np_callV 4 4 sp_X4_keepWay 6 0 0 0 0) (np_s_callV hX C_X4_keepWay dX4_readBits_77 (q := (RX4, TX4, 11)) rfl rfl gw1037 gw67 gw1034 gw1036 gw23 ⟨by decide, by decide, by decide⟩ (by decide) (by decide)) nw_callV_le, List.forall_mem_cons.mpr ⟨np_S.mono (op := np_ret X.2.2.1) (np_s_ret hX dX4_readBits_80) (nq_ret_le hR), fun _ h => nomatch h⟩⟩⟩⟩⟩⟩⟩⟩⟩⟩⟩⟩⟩⟩⟩⟩⟩⟩⟩⟩⟩⟩⟩⟩⟩⟩⟩⟩⟩⟩⟩⟩⟩⟩⟩⟩⟩⟩⟩⟩⟩⟩⟩⟩⟩
noncomputable def m_X4_readBits_19 : Nat → pw_S → Nat → Int32 → Int32 → Int32 → pw_R Unit
| 0, _, _, _, _, _ => none
| N + 1, S, v0, v1, v2, v3 =>
 if v1 ≤ v3 then
 (pw_b (m_X2_a S (pw_dn 8 (S 59 v0 5)) (S 50 407 2)) fun S1 r4 =>
 pw_b (m_X4_keepWay S1 v0 r4 v2 v1) fun S6 r9 =>
 some (S6, ()))
 else
 (pw_b (m_X4_ahead S v0 v3) fun S11 r14 =>
 if r14 = 120 then
 (pw_l ((v2 ||| (1 <<< (v3 &&& 31))) : Int32) fun z16 =>
 pw_l (v3 + 1 : Int32) fun z17 =>
 m_X4_readBits_19 N S11 v0 v1 z16 z17)
 else
 (pw_b (m_X4_ahead S11 v0 v3) fun S18 r21 =>
 if r21 = 45 then
 (pw_l (v3 + 1 : Int32) fun z23 =>
 m_X4_readBits_19 N S18 v0 v1 v2 z23)
 else
 (some (S18, ()))))
set_option maxRecDepth 100000 in
set_option maxHeartbeats 8000000 in
theorem L_X4_readBits_19 {X : np_Ctx} (hX : np_ok RX4 cX4_readBits 4 4 130 0 0 .return_ X) {Q : Option Value → np_W → Prop} {q n : Nat} (hR : ∀ st w ce sl, np_rt none 0 0 Q st w ce sl → X.2.2.1 st w ce sl) : ∀ (N : Nat) (S : pw_S) (v0 : Nat) (v1 : Int32) (v2 : Int32) (v3 : Int32) (f : Nat → Option np_E) (hv0 : pw_ok q 59 v0 = true), pw_W q (n, f) S → pw_p (m_X4_readBits_19 N S v0 v1 v2 v3) (fun S' r => ∀ f', pw_W q (n, f') S' → Q none (n, f')) → np_G X 19 [(0, .ref (pw_pl 59 v0)), (1, .int v1), (2, .int v2), (3, .int v3)] [] (n, f) 0 0 := by
  intro N
  induction N with
  | zero =>
    intro S v0 v1 v2 v3 f hv0 hW h
    exact (pw_pn h).elim
  | succ N ih =>
    intro S v0 v1 v2 v3 f hv0 hW h
    unfold m_X4_readBits_19 at h
    refine np_soundW (so_X4_readBits hX hR) [19] 400 19 _ _ _ _ _ ?_
    conv => whnf
    refine pw_br h (fun _ h => ?_) (fun _ h => ?_)
    · conv => whnf
      refine np_rd_i (hW.g hv0) ?_
      conv => whnf
      refine np_rd_i (hW.g hv0) ?_
      conv => whnf
      refine np_rd_i (hW.g rfl) ?_
      conv => whnf
      refine np_rd_i (hW.g (pw_okd (a := 51) (n := 8) rfl rfl rfl)) ?_
      conv => whnf
      refine ⟨q, S, (pw_dn 8 (S 59 v0 5)), (S 50 407 2), rfl, (pw_okd (a := 51) (n := 8) rfl rfl rfl), hW, pw_bd h (fun S1 r4 h f2 hW3 => ?_)⟩
      conv => whnf
      refine np_rd_i (hW3.g hv0) ?_
      conv => whnf
      refine ⟨q, S1, v0, r4, v2, v1, rfl, hv0, hW3, pw_bd h (fun S6 r9 h f7 hW8 => ?_)⟩
      conv => whnf
      exact ⟨Nat.le_of_ble_eq_true rfl, Nat.le_of_ble_eq_true rfl, rfl, _, fun _ _ h9 => h9, pw_ps h _ hW8⟩
    · conv => whnf
      refine np_rd_i (hW.g hv0) ?_
      conv => whnf
      refine ⟨q, S, v0, v3, rfl, hv0, hW, pw_bd h (fun S11 r14 h f12 hW13 => ?_)⟩
      conv => whnf
      refine pw_br h (fun _ h => ?_) (fun _ h => ?_)
      · conv => whnf
        refine pw_st h (fun z16 h => ?_)
        conv => whnf
        refine pw_st h (fun z17 h => ?_)
        conv => whnf
        exact np_gl (ih S11 v0 v1 z16 z17 f12 hv0 hW13 h) ⟨rfl, rfl, rfl, rfl, trivial⟩
      · conv => whnf
        refine np_rd_i (hW13.g hv0) ?_
        conv => whnf
        refine ⟨q, S11, v0, v3, rfl, hv0, hW13, pw_bd h (fun S18 r21 h f19 hW20 => ?_)⟩
        conv => whnf
        refine pw_br h (fun _ h => ?_) (fun _ h => ?_)
        · conv => whnf
          refine pw_st h (fun z23 h => ?_)
          conv => whnf
          exact np_gl (ih S18 v0 v1 v2 z23 f19 hv0 hW20 h) ⟨rfl, rfl, rfl, rfl, trivial⟩
        · conv => whnf
          exact ⟨Nat.le_of_ble_eq_true rfl, Nat.le_of_ble_eq_true rfl, rfl, _, fun _ _ h9 => h9, pw_ps h _ hW20⟩
noncomputable def m_X4_readBits (S : pw_S) (i0 : Nat) : pw_R Unit :=
 pw_b (m_X2_b S (pw_dn 8 (S 59 i0 5)) (S 50 407 2)) fun S24 r27 =>
 pw_l (r27 : Int32) fun z29 =>
 pw_l (0 : Int32) fun z30 =>
 pw_l (0 : Int32) fun z31 =>
 m_X4_readBits_19 (pw_F 20000) S24 i0 z29 z30 z31
def sp_X4_readBits : np_Sp := fun vs w Q => ∃ (q : Nat) (S : pw_S) (i0 : Nat), vs = [.ref (pw_pl 59 i0)] ∧ pw_ok q 59 i0 = true ∧ pw_W q w S ∧ pw_p (m_X4_readBits S i0) (fun S' r => ∀ f', pw_W q (w.1, f') S' → Q none (w.1, f'))
set_option maxRecDepth 100000 in
set_option maxHeartbeats 8000000 in
theorem C_X4_readBits : np_C yX4_readBits cX4_readBits 4 none 4 130 0 0 sp_X4_readBits := by
  refine np_of (by decide) ?_
  intro X vs w Q hsp hX hmn hRt hlt
  obtain ⟨q, S, i0, rfl, hi0, hW, h⟩ := hsp
  obtain ⟨n, f⟩ := w
  unfold m_X4_readBits at h
  have hR : ∀ st w ce sl, np_rt none 0 0 Q st w ce sl → X.2.2.1 st w ce sl := fun _ _ _ _ h => by rw [hRt]; exact h
  refine np_soundW (so_X4_readBits hX hR) [19] 400 0 _ _ _ _ _ ?_
  conv => whnf
  refine np_rd_i (hW.g hi0) ?_
  conv => whnf
  refine np_rd_i (hW.g hi0) ?_
  conv => whnf
  refine np_rd_i (hW.g rfl) ?_
  conv => whnf
  refine np_rd_i (hW.g (pw_okd (a := 51) (n := 8) rfl rfl rfl)) ?_
  conv => whnf
  refine ⟨q, S, (pw_dn 8 (S 59 i0 5)), (S 50 407 2), rfl, (pw_okd (a := 51) (n := 8) rfl rfl rfl), hW, pw_bd h (fun S24 r27 h f25 hW26 => ?_)⟩
  conv => whnf
  refine pw_st h (fun z29 h => ?_)
  conv => whnf
  refine pw_st h (fun z30 h => ?_)
  conv => whnf
  refine pw_st h (fun z31 h => ?_)
  conv => whnf
  exact np_gl (L_X4_readBits_19 hX hR (pw_F 20000) S24 i0 z29 z30 z31 f25 hi0 hW26 h) ⟨rfl, rfl, rfl, rfl, trivial⟩
theorem dX4_readCount_0 : decode cX4_readCount 0 = .ok (.aload_n 0, 1) := by decide +kernel
theorem dX4_readCount_1 : decode cX4_readCount 1 = .ok (.iconst 0, 1) := by decide +kernel
theorem dX4_readCount_2 : decode cX4_readCount 2 = .ok (.invokevirtual 136, 3) := by decide +kernel
theorem dX4_readCount_5 : decode cX4_readCount 5 = .ok (.bipush 48, 2) := by decide +kernel
theorem dX4_readCount_7 : decode cX4_readCount 7 = .ok (.isub, 1) := by decide +kernel
theorem dX4_readCount_8 : decode cX4_readCount 8 = .ok (.istore_n 1, 1) := by decide +kernel
theorem dX4_readCount_9 : decode cX4_readCount 9 = .ok (.iload_n 1, 1) := by decide +kernel
theorem dX4_readCount_10 : decode cX4_readCount 10 = .ok (.iconst 0, 1) := by decide +kernel
theorem dX4_readCount_11 : decode cX4_readCount 11 = .ok (.iconst 3, 1) := by decide +kernel
theorem dX4_readCount_12 : decode cX4_readCount 12 = .ok (.invokestatic 187, 3) := by decide +kernel
theorem dX4_readCount_15 : decode cX4_readCount 15 = .ok (.ifCond .eq 23, 3) := by decide +kernel
theorem dX4_readCount_18 : decode cX4_readCount 18 = .ok (.aload_n 0, 1) := by decide +kernel
theorem dX4_readCount_19 : decode cX4_readCount 19 = .ok (.aload_n 0, 1) := by decide +kernel
theorem dX4_readCount_20 : decode cX4_readCount 20 = .ok (.getfield 35, 3) := by decide +kernel
theorem dX4_readCount_23 : decode cX4_readCount 23 = .ok (.aload_n 0, 1) := by decide +kernel
theorem dX4_readCount_24 : decode cX4_readCount 24 = .ok (.getfield 18, 3) := by decide +kernel
theorem dX4_readCount_27 : decode cX4_readCount 27 = .ok (.getfield 78, 3) := by decide +kernel
theorem dX4_readCount_30 : decode cX4_readCount 30 = .ok (.invokevirtual 100, 3) := by decide +kernel
theorem dX4_readCount_33 : decode cX4_readCount 33 = .ok (.iload_n 1, 1) := by decide +kernel
theorem dX4_readCount_34 : decode cX4_readCount 34 = .ok (.iconst 1, 1) := by decide +kernel
theorem dX4_readCount_35 : decode cX4_readCount 35 = .ok (.invokevirtual 163, 3) := by decide +kernel
theorem dX4_readCount_38 : decode cX4_readCount 38 = .ok (.return_, 1) := by decide +kernel
def is_X4_readCount (Rt : np_Rt) : List (Nat × np_Op) := [(0, np_ald 1 0), (1, np_push 1 (.int 0)), (2, nw_callV 4 2 sp_X4_ahead 2 0 0 0 0), (5, np_push 2 (.int 48)), (7, np_ib (fun x y => x - y)), (8, nw_ist 1 1), (9, np_ild 1 1), (10, np_push 1 (.int 0)), (11, np_push 1 (.int 3)), (12, nq_call 3 sp_X11_isBetween 3 0 0 0 0), (15, nq_if (fun x => x = 0) 38), (18, np_ald 1 0), (19, np_ald 1 0), (20, nw_getf 4 5), (23, np_ald 1 0), (24, nw_getf 4 1), (27, nw_getf 8 2), (30, nw_callV 2 2 sp_X2_a 2 0 0 0 0), (33, np_ild 1 1), (34, np_push 1 (.int 1)), (35, nw_callV 4 4 sp_X4_keepWay 6 0 0 0 0), (38, np_ret Rt)]
set_option maxRecDepth 20000 in
theorem so_X4_readCount {X : np_Ctx} {Rt : np_Rt} (hX : np_ok RX4 cX4_readCount 2 4 130 0 0 .return_ X) (hR : ∀ st w ce sl, Rt st w ce sl → X.2.2.1 st w ce sl) : ∀ q ∈ is_X4_readCount Rt, np_S X q.1 q.2 :=
  List.forall_mem_cons.mpr ⟨np_s_aload_n hX dX4_readCount_0 rfl, List.forall_mem_cons.mpr ⟨np_s_iconst hX dX4_readCount_1 (by decide), List.forall_mem_cons.mpr ⟨np_S.mono (op := np_callV 4 2 sp_X4_ahead 2 0 0 0 0) (np_s_callV hX C_X4_ahead dX4_readCount_2 (q := (RX4, TX4, 11)) rfl rfl gw1027 gw67 gw1024 gw1026 gw22 ⟨by decide, by decide, by decide⟩ (by decide) (by decide)) nw_callV_le, List.forall_mem_cons.mpr ⟨np_s_bipush hX dX4_readCount_5 (by decide), List.forall_mem_cons.mpr ⟨np_s_isub hX dX4_readCount_7, List.forall_mem_cons.mpr ⟨np_S.mono (op := np_ist 1 1) (np_s_istore_n hX dX4_readCount_8 rfl (by decide)) nw_ist_le, List.forall_mem_cons.mpr ⟨np_s_iload_n hX dX4_readCount_9 rfl, List.forall_mem_cons.mpr ⟨np_s_iconst hX dX4_readCount_10 (by decide), List.forall_mem_cons.mpr ⟨np_s_iconst hX dX4_readCount_11 (by decide), List.forall_mem_cons.mpr ⟨np_S.mono (op := np_call 3 sp_X11_isBetween 3 0 0 0 0) (np_s_callSN hX C_X11_isBetween dX4_readCount_12 gw589 gw63 gw1056 gw588 ⟨by decide, by decide, by decide⟩ (by decide) (by decide)) nq_call_le, List.forall_mem_cons.mpr ⟨np_S.mono (op := np_if (fun x => x = 0) 38) (np_s_if_eq hX dX4_readCount_15 (by decide)) nq_if_le, List.forall_mem_cons.mpr ⟨np_s_aload_n hX dX4_readCount_18 rfl, List.forall_mem_cons.mpr ⟨np_s_aload_n hX dX4_readCount_19 rfl, List.forall_mem_cons.mpr ⟨np_S.mono (op := np_getf 4 5) (np_s_getf hX dX4_readCount_20 (C := RX4) (T := TX4) (N := 11) rfl guX4 (by decide) gw228) nw_getf_le, List.forall_mem_cons.mpr ⟨np_s_aload_n hX dX4_readCount_23 rfl, List.forall_mem_cons.mpr ⟨np_S.mono (op := np_getf 4 1) (np_s_getf hX dX4_readCount_24 (C := RX4) (T := TX4) (N := 11) rfl guX4 (by decide) gw223) nw_getf_le, List.forall_mem_cons.mpr ⟨np_S.mono (op := np_getf 8 2) (np_s_getN hX dX4_readCount_27 (C := RX8) (T := TX8) (N := 9) rfl guX8 (by decide) gw152) nw_getf_le, List.forall_mem_cons.mpr ⟨np_S.mono (op := np_callV 2 2 sp_X2_a 2 0 0 0 0) (np_s_callV hX C_X2_a dX4_readCount_30 (q := (RX2, TX2, 5)) rfl rfl gw657 gw64 gw1033 gw655 gw656 ⟨by decide, by decide, by decide⟩ (by decide) (by decide)) nw_callV_le, List.forall_mem_cons.mpr ⟨np_s_iload_n hX dX4_readCount_33 rfl, List.forall_mem_cons.mpr ⟨np_s_iconst hX dX4_readCount_34 (by decide), List.forall_mem_cons.mpr ⟨np_S.mono (op := np_callV 4 4 sp_X4_keepWay 6 0 0 0 0) (np_s_callV hX C_X4_keepWay dX4_readCount_35 (q := (RX4, TX4, 11)) rfl rfl gw1037 gw67 gw1034 gw1036 gw23 ⟨by decide, by decide, by decide⟩ (by decide) (by decide)) nw_callV_le, List.forall_mem_cons.mpr ⟨np_S.mono (op := np_ret X.2.2.1) (np_s_ret hX dX4_readCount_38) (nq_ret_le hR), fun _ h => nomatch h⟩⟩⟩⟩⟩⟩⟩⟩⟩⟩⟩⟩⟩⟩⟩⟩⟩⟩⟩⟩⟩⟩
noncomputable def m_X4_readCount (S : pw_S) (i0 : Nat) : pw_R Unit :=
 pw_b (m_X4_ahead S i0 0) fun S1 r4 =>
 pw_l ((r4 - 48) : Int32) fun z6 =>
 pw_b (m_X11_isBetween S1 z6 0 3) fun S7 r10 =>
 if r10 = 0 then
 (some (S7, ()))
 else
 (pw_b (m_X2_a S7 (pw_dn 8 (S7 59 i0 5)) (S7 50 407 2)) fun S12 r15 =>
 pw_b (m_X4_keepWay S12 i0 r15 z6 1) fun S17 r20 =>
 some (S17, ()))
def sp_X4_readCount : np_Sp := fun vs w Q => ∃ (q : Nat) (S : pw_S) (i0 : Nat), vs = [.ref (pw_pl 59 i0)] ∧ pw_ok q 59 i0 = true ∧ pw_W q w S ∧ pw_p (m_X4_readCount S i0) (fun S' r => ∀ f', pw_W q (w.1, f') S' → Q none (w.1, f'))
set_option maxRecDepth 100000 in
set_option maxHeartbeats 8000000 in
theorem C_X4_readCount : np_C yX4_readCount cX4_readCount 2 none 4 130 0 0 sp_X4_readCount := by
  refine np_of (by decide) ?_
  intro X vs w Q hsp hX hmn hRt hlt
  obtain ⟨q, S, i0, rfl, hi0, hW, h⟩ := hsp
  obtain ⟨n, f⟩ := w
  unfold m_X4_readCount at h
  have hR : ∀ st w ce sl, np_rt none 0 0 Q st w ce sl → X.2.2.1 st w ce sl := fun _ _ _ _ h => by rw [hRt]; exact h
  refine np_soundW (so_X4_readCount hX hR) [] 400 0 _ _ _ _ _ ?_
  conv => whnf
  refine np_rd_i (hW.g hi0) ?_
  conv => whnf
  refine ⟨q, S, i0, 0, rfl, hi0, hW, pw_bd h (fun S1 r4 h f2 hW3 => ?_)⟩
  conv => whnf
  refine pw_st h (fun z6 h => ?_)
  conv => whnf
  refine ⟨q, S1, z6, 0, 3, rfl, hW3, pw_bd h (fun S7 r10 h f8 hW9 => ?_)⟩
  conv => whnf
  refine pw_br h (fun _ h => ?_) (fun _ h => ?_)
  · conv => whnf
    exact ⟨Nat.le_of_ble_eq_true rfl, Nat.le_of_ble_eq_true rfl, rfl, _, fun _ _ h9 => h9, pw_ps h _ hW9⟩
  · conv => whnf
    refine np_rd_i (hW9.g hi0) ?_
    conv => whnf
    refine np_rd_i (hW9.g hi0) ?_
    conv => whnf
    refine np_rd_i (hW9.g rfl) ?_
    conv => whnf
    refine np_rd_i (hW9.g (pw_okd (a := 51) (n := 8) rfl rfl rfl)) ?_
    conv => whnf
    refine ⟨q, S7, (pw_dn 8 (S7 59 i0 5)), (S7 50 407 2), rfl, (pw_okd (a := 51) (n := 8) rfl rfl rfl), hW9, pw_bd h (fun S12 r15 h f13 hW14 => ?_)⟩
    conv => whnf
    refine np_rd_i (hW14.g hi0) ?_
    conv => whnf
    refine ⟨q, S12, i0, r15, z6, 1, rfl, hi0, hW14, pw_bd h (fun S17 r20 h f18 hW19 => ?_)⟩
    conv => whnf
    exact ⟨Nat.le_of_ble_eq_true rfl, Nat.le_of_ble_eq_true rfl, rfl, _, fun _ _ h9 => h9, pw_ps h _ hW19⟩
theorem dX4_readUnit_0 : decode cX4_readUnit 0 = .ok (.aload_n 0, 1) := by decide +kernel
theorem dX4_readUnit_1 : decode cX4_readUnit 1 = .ok (.iconst 0, 1) := by decide +kernel
theorem dX4_readUnit_2 : decode cX4_readUnit 2 = .ok (.invokevirtual 136, 3) := by decide +kernel
theorem dX4_readUnit_5 : decode cX4_readUnit 5 = .ok (.iload_n 1, 1) := by decide +kernel
theorem dX4_readUnit_6 : decode cX4_readUnit 6 = .ok (.if_icmp .ne 10, 3) := by decide +kernel
theorem dX4_readUnit_9 : decode cX4_readUnit 9 = .ok (.aload_n 0, 1) := by decide +kernel
theorem dX4_readUnit_10 : decode cX4_readUnit 10 = .ok (.iconst (-1), 1) := by decide +kernel
theorem dX4_readUnit_11 : decode cX4_readUnit 11 = .ok (.iconst 0, 1) := by decide +kernel
theorem dX4_readUnit_12 : decode cX4_readUnit 12 = .ok (.iconst 1, 1) := by decide +kernel
theorem dX4_readUnit_13 : decode cX4_readUnit 13 = .ok (.invokevirtual 163, 3) := by decide +kernel
theorem dX4_readUnit_16 : decode cX4_readUnit 16 = .ok (.return_, 1) := by decide +kernel
def is_X4_readUnit (Rt : np_Rt) : List (Nat × np_Op) := [(0, np_ald 1 0), (1, np_push 1 (.int 0)), (2, nw_callV 4 2 sp_X4_ahead 2 0 0 0 0), (5, np_ild 1 1), (6, nq_icne 16), (9, np_ald 1 0), (10, np_push 1 (.int (-1))), (11, np_push 1 (.int 0)), (12, np_push 1 (.int 1)), (13, nw_callV 4 4 sp_X4_keepWay 6 0 0 0 0), (16, np_ret Rt)]
set_option maxRecDepth 20000 in
theorem so_X4_readUnit {X : np_Ctx} {Rt : np_Rt} (hX : np_ok RX4 cX4_readUnit 2 4 130 0 0 .return_ X) (hR : ∀ st w ce sl, Rt st w ce sl → X.2.2.1 st w ce sl) : ∀ q ∈ is_X4_readUnit Rt, np_S X q.1 q.2 :=
  List.forall_mem_cons.mpr ⟨np_s_aload_n hX dX4_readUnit_0 rfl, List.forall_mem_cons.mpr ⟨np_s_iconst hX dX4_readUnit_1 (by decide), List.forall_mem_cons.mpr ⟨np_S.mono (op := np_callV 4 2 sp_X4_ahead 2 0 0 0 0) (np_s_callV hX C_X4_ahead dX4_readUnit_2 (q := (RX4, TX4, 11)) rfl rfl gw1027 gw67 gw1024 gw1026 gw22 ⟨by decide, by decide, by decide⟩ (by decide) (by decide)) nw_callV_le, List.forall_mem_cons.mpr ⟨np_s_iload_n hX dX4_readUnit_5 rfl, List.forall_mem_cons.mpr ⟨np_S.mono (op := np_icne 16) (np_s_icmp_ne hX dX4_readUnit_6 (by decide)) nq_icne_le, List.forall_mem_cons.mpr ⟨np_s_aload_n hX dX4_readUnit_9 rfl, List.forall_mem_cons.mpr ⟨np_s_iconst hX dX4_readUnit_10 (by decide), List.forall_mem_cons.mpr ⟨np_s_iconst hX dX4_readUnit_11 (by decide), List.forall_mem_cons.mpr ⟨np_s_iconst hX dX4_readUnit_12 (by decide), List.forall_mem_cons.mpr ⟨np_S.mono (op := np_callV 4 4 sp_X4_keepWay 6 0 0 0 0) (np_s_callV hX C_X4_keepWay dX4_readUnit_13 (q := (RX4, TX4, 11)) rfl rfl gw1037 gw67 gw1034 gw1036 gw23 ⟨by decide, by decide, by decide⟩ (by decide) (by decide)) nw_callV_le, List.forall_mem_cons.mpr ⟨np_S.mono (op := np_ret X.2.2.1) (np_s_ret hX dX4_readUnit_16) (nq_ret_le hR), fun _ h => nomatch h⟩⟩⟩⟩⟩⟩⟩⟩⟩⟩⟩
noncomputable def m_X4_readUnit (S : pw_S) (i0 : Nat) (x1 : Int32) : pw_R Unit :=
 pw_b (m_X4_ahead S i0 0) fun S1 r4 =>
 if r4 = x1 then
 (pw_b (m_X4_keepWay S1 i0 (-1) 0 1) fun S6 r9 =>
 some (S6, ()))
 else
 (some (S1, ()))
def sp_X4_readUnit : np_Sp := fun vs w Q => ∃ (q : Nat) (S : pw_S) (i0 : Nat) (x1 : Int32), vs = [.ref (pw_pl 59 i0), .int x1] ∧ pw_ok q 59 i0 = true ∧ pw_W q w S ∧ pw_p (m_X4_readUnit S i0 x1) (fun S' r => ∀ f', pw_W q (w.1, f') S' → Q none (w.1, f'))
set_option maxRecDepth 100000 in
set_option maxHeartbeats 8000000 in
theorem C_X4_readUnit : np_C yX4_readUnit cX4_readUnit 2 none 4 130 0 0 sp_X4_readUnit := by
  refine np_of (by decide) ?_
  intro X vs w Q hsp hX hmn hRt hlt
  obtain ⟨q, S, i0, x1, rfl, hi0, hW, h⟩ := hsp
  obtain ⟨n, f⟩ := w
  unfold m_X4_readUnit at h
  have hR : ∀ st w ce sl, np_rt none 0 0 Q st w ce sl → X.2.2.1 st w ce sl := fun _ _ _ _ h => by rw [hRt]; exact h
  refine np_soundW (so_X4_readUnit hX hR) [] 400 0 _ _ _ _ _ ?_
  conv => whnf
  refine np_rd_i (hW.g hi0) ?_
  conv => whnf
  refine ⟨q, S, i0, 0, rfl, hi0, hW, pw_bd h (fun S1 r4 h f2 hW3 => ?_)⟩
  conv => whnf
  refine pw_br h (fun _ h => ?_) (fun _ h => ?_)
  · conv => whnf
    refine np_rd_i (hW3.g hi0) ?_
    conv => whnf
    refine ⟨q, S1, i0, (-1), 0, 1, rfl, hi0, hW3, pw_bd h (fun S6 r9 h f7 hW8 => ?_)⟩
    conv => whnf
    exact ⟨Nat.le_of_ble_eq_true rfl, Nat.le_of_ble_eq_true rfl, rfl, _, fun _ _ h9 => h9, pw_ps h _ hW8⟩
  · conv => whnf
    exact ⟨Nat.le_of_ble_eq_true rfl, Nat.le_of_ble_eq_true rfl, rfl, _, fun _ _ h9 => h9, pw_ps h _ hW3⟩
theorem dX4_readPlace_0 : decode cX4_readPlace 0 = .ok (.iload_n 1, 1) := by decide +kernel
theorem dX4_readPlace_1 : decode cX4_readPlace 1 = .ok (.iconst 0, 1) := by decide +kernel
theorem dX4_readPlace_2 : decode cX4_readPlace 2 = .ok (.bipush 99, 2) := by decide +kernel
theorem dX4_readPlace_4 : decode cX4_readPlace 4 = .ok (.invokestatic 187, 3) := by decide +kernel
theorem dX4_readPlace_7 : decode cX4_readPlace 7 = .ok (.ifCond .ne 4, 3) := by decide +kernel
theorem dX4_readPlace_10 : decode cX4_readPlace 10 = .ok (.return_, 1) := by decide +kernel
theorem dX4_readPlace_11 : decode cX4_readPlace 11 = .ok (.aload_n 0, 1) := by decide +kernel
theorem dX4_readPlace_12 : decode cX4_readPlace 12 = .ok (.iconst 0, 1) := by decide +kernel
theorem dX4_readPlace_13 : decode cX4_readPlace 13 = .ok (.invokevirtual 136, 3) := by decide +kernel
theorem dX4_readPlace_16 : decode cX4_readPlace 16 = .ok (.bipush 48, 2) := by decide +kernel
theorem dX4_readPlace_18 : decode cX4_readPlace 18 = .ok (.iload_n 1, 1) := by decide +kernel
theorem dX4_readPlace_19 : decode cX4_readPlace 19 = .ok (.bipush 10, 2) := by decide +kernel
theorem dX4_readPlace_21 : decode cX4_readPlace 21 = .ok (.idiv, 1) := by decide +kernel
theorem dX4_readPlace_22 : decode cX4_readPlace 22 = .ok (.iadd, 1) := by decide +kernel
theorem dX4_readPlace_23 : decode cX4_readPlace 23 = .ok (.if_icmp .ne 25, 3) := by decide +kernel
theorem dX4_readPlace_26 : decode cX4_readPlace 26 = .ok (.aload_n 0, 1) := by decide +kernel
theorem dX4_readPlace_27 : decode cX4_readPlace 27 = .ok (.iconst 1, 1) := by decide +kernel
theorem dX4_readPlace_28 : decode cX4_readPlace 28 = .ok (.invokevirtual 136, 3) := by decide +kernel
theorem dX4_readPlace_31 : decode cX4_readPlace 31 = .ok (.bipush 48, 2) := by decide +kernel
theorem dX4_readPlace_33 : decode cX4_readPlace 33 = .ok (.iload_n 1, 1) := by decide +kernel
theorem dX4_readPlace_34 : decode cX4_readPlace 34 = .ok (.bipush 10, 2) := by decide +kernel
theorem dX4_readPlace_36 : decode cX4_readPlace 36 = .ok (.irem, 1) := by decide +kernel
theorem dX4_readPlace_37 : decode cX4_readPlace 37 = .ok (.iadd, 1) := by decide +kernel
theorem dX4_readPlace_38 : decode cX4_readPlace 38 = .ok (.if_icmp .ne 10, 3) := by decide +kernel
theorem dX4_readPlace_41 : decode cX4_readPlace 41 = .ok (.aload_n 0, 1) := by decide +kernel
theorem dX4_readPlace_42 : decode cX4_readPlace 42 = .ok (.iconst (-1), 1) := by decide +kernel
theorem dX4_readPlace_43 : decode cX4_readPlace 43 = .ok (.iconst 0, 1) := by decide +kernel
theorem dX4_readPlace_44 : decode cX4_readPlace 44 = .ok (.iconst 2, 1) := by decide +kernel
theorem dX4_readPlace_45 : decode cX4_readPlace 45 = .ok (.invokevirtual 163, 3) := by decide +kernel
theorem dX4_readPlace_48 : decode cX4_readPlace 48 = .ok (.return_, 1) := by decide +kernel
def is_X4_readPlace (Rt : np_Rt) : List (Nat × np_Op) := [(0, np_ild 1 1), (1, np_push 1 (.int 0)), (2, np_push 2 (.int 99)), (4, nq_call 3 sp_X11_isBetween 3 0 0 0 0), (7, nq_ifne 11), (10, np_ret Rt), (11, np_ald 1 0), (12, np_push 1 (.int 0)), (13, nw_callV 4 2 sp_X4_ahead 2 0 0 0 0), (16, np_push 2 (.int 48)), (18, np_ild 1 1), (19, np_push 2 (.int 10)), (21, nq_ibn (fun x y => x / y)), (22, np_ib (fun x y => x + y)), (23, nq_icne 48), (26, np_ald 1 0), (27, np_push 1 (.int 1)), (28, nw_callV 4 2 sp_X4_ahead 2 0 0 0 0), (31, np_push 2 (.int 48)), (33, np_ild 1 1), (34, np_push 2 (.int 10)), (36, nq_ibn (fun x y => x - x / y * y)), (37, np_ib (fun x y => x + y)), (38, nq_icne 48), (41, np_ald 1 0), (42, np_push 1 (.int (-1))), (43, np_push 1 (.int 0)), (44, np_push 1 (.int 2)), (45, nw_callV 4 4 sp_X4_keepWay 6 0 0 0 0), (48, np_ret Rt)]
set_option maxRecDepth 20000 in
theorem so_X4_readPlace {X : np_Ctx} {Rt : np_Rt} (hX : np_ok RX4 cX4_readPlace 2 4 130 0 0 .return_ X) (hR : ∀ st w ce sl, Rt st w ce sl → X.2.2.1 st w ce sl) : ∀ q ∈ is_X4_readPlace Rt, np_S X q.1 q.2 :=
  List.forall_mem_cons.mpr ⟨np_s_iload_n hX dX4_readPlace_0 rfl, List.forall_mem_cons.mpr ⟨np_s_iconst hX dX4_readPlace_1 (by decide), List.forall_mem_cons.mpr ⟨np_s_bipush hX dX4_readPlace_2 (by decide), List.forall_mem_cons.mpr ⟨np_S.mono (op := np_call 3 sp_X11_isBetween 3 0 0 0 0) (np_s_callSN hX C_X11_isBetween dX4_readPlace_4 gw589 gw63 gw1056 gw588 ⟨by decide, by decide, by decide⟩ (by decide) (by decide)) nq_call_le, List.forall_mem_cons.mpr ⟨np_S.mono (op := np_ifne 11) (np_s_if_ne hX dX4_readPlace_7 (by decide)) nq_ifne_le, List.forall_mem_cons.mpr ⟨np_S.mono (op := np_ret X.2.2.1) (np_s_ret hX dX4_readPlace_10) (nq_ret_le hR), List.forall_mem_cons.mpr ⟨np_s_aload_n hX dX4_readPlace_11 rfl, List.forall_mem_cons.mpr ⟨np_s_iconst hX dX4_readPlace_12 (by decide), List.forall_mem_cons.mpr ⟨np_S.mono (op := np_callV 4 2 sp_X4_ahead 2 0 0 0 0) (np_s_callV hX C_X4_ahead dX4_readPlace_13 (q := (RX4, TX4, 11)) rfl rfl gw1027 gw67 gw1024 gw1026 gw22 ⟨by decide, by decide, by decide⟩ (by decide) (by decide)) nw_callV_le, List.forall_mem_cons.mpr ⟨np_s_bipush hX dX4_readPlace_16 (by decide), List.forall_mem_cons.mpr ⟨np_s_iload_n hX dX4_readPlace_18 rfl, List.forall_mem_cons.mpr ⟨np_s_bipush hX dX4_readPlace_19 (by decide), List.forall_mem_cons.mpr ⟨np_S.mono (op := np_ibn (fun x y => x / y)) (np_s_idiv hX dX4_readPlace_21) nq_ibn_le, List.forall_mem_cons.mpr ⟨np_s_iadd hX dX4_readPlace_22, List.forall_mem_cons.mpr ⟨np_S.mono (op := np_icne 48) (np_s_icmp_ne hX dX4_readPlace_23 (by decide)) nq_icne_le, List.forall_mem_cons.mpr ⟨np_s_aload_n hX dX4_readPlace_26 rfl, List.forall_mem_cons.mpr ⟨np_s_iconst hX dX4_readPlace_27 (by decide), List.forall_mem_cons.mpr ⟨np_S.mono (op := np_callV 4 2 sp_X4_ahead 2 0 0 0 0) (np_s_callV hX C_X4_ahead dX4_readPlace_28 (q := (RX4, TX4, 11)) rfl rfl gw1027 gw67 gw1024 gw1026 gw22 ⟨by decide, by decide, by decide⟩ (by decide) (by decide)) nw_callV_le, List.forall_mem_cons.mpr ⟨np_s_bipush hX dX4_readPlace_31 (by decide), List.forall_mem_cons.mpr ⟨np_s_iload_n hX dX4_readPlace_33 rfl, List.forall_mem_cons.mpr ⟨np_s_bipush hX dX4_readPlace_34 (by decide), List.forall_mem_cons.mpr ⟨np_S.mono (op := np_ibn (fun x y => x - x / y * y)) (np_s_irem hX dX4_readPlace_36) nq_ibn_le, List.forall_mem_cons.mpr ⟨np_s_iadd hX dX4_readPlace_37, List.forall_mem_cons.mpr ⟨np_S.mono (op := np_icne 48) (np_s_icmp_ne hX dX4_readPlace_38 (by decide)) nq_icne_le, List.forall_mem_cons.mpr ⟨np_s_aload_n hX dX4_readPlace_41 rfl, List.forall_mem_cons.mpr ⟨np_s_iconst hX dX4_readPlace_42 (by decide), List.forall_mem_cons.mpr ⟨np_s_iconst hX dX4_readPlace_43 (by decide), List.forall_mem_cons.mpr ⟨np_s_iconst hX dX4_readPlace_44 (by decide), List.forall_mem_cons.mpr ⟨np_S.mono (op := np_callV 4 4 sp_X4_keepWay 6 0 0 0 0) (np_s_callV hX C_X4_keepWay dX4_readPlace_45 (q := (RX4, TX4, 11)) rfl rfl gw1037 gw67 gw1034 gw1036 gw23 ⟨by decide, by decide, by decide⟩ (by decide) (by decide)) nw_callV_le, List.forall_mem_cons.mpr ⟨np_S.mono (op := np_ret X.2.2.1) (np_s_ret hX dX4_readPlace_48) (nq_ret_le hR), fun _ h => nomatch h⟩⟩⟩⟩⟩⟩⟩⟩⟩⟩⟩⟩⟩⟩⟩⟩⟩⟩⟩⟩⟩⟩⟩⟩⟩⟩⟩⟩⟩⟩
noncomputable def m_X4_readPlace (S : pw_S) (i0 : Nat) (x1 : Int32) : pw_R Unit :=
 pw_b (m_X11_isBetween S x1 0 99) fun S1 r4 =>
 if r4 = 0 then
 (some (S1, ()))
 else
 (pw_b (m_X4_ahead S1 i0 0) fun S6 r9 =>
 if r9 = (48 + (x1 / 10)) then
 (pw_b (m_X4_ahead S6 i0 1) fun S11 r14 =>
 if r14 = (48 + (x1 - x1 / 10 * 10)) then
 (pw_b (m_X4_keepWay S11 i0 (-1) 0 2) fun S16 r19 =>
 some (S16, ()))
 else
 (some (S11, ())))
 else
 (some (S6, ())))
def sp_X4_readPlace : np_Sp := fun vs w Q => ∃ (q : Nat) (S : pw_S) (i0 : Nat) (x1 : Int32), vs = [.ref (pw_pl 59 i0), .int x1] ∧ pw_ok q 59 i0 = true ∧ pw_W q w S ∧ pw_p (m_X4_readPlace S i0 x1) (fun S' r => ∀ f', pw_W q (w.1, f') S' → Q none (w.1, f'))
set_option maxRecDepth 100000 in
set_option maxHeartbeats 8000000 in
theorem C_X4_readPlace : np_C yX4_readPlace cX4_readPlace 2 none 4 130 0 0 sp_X4_readPlace := by
  refine np_of (by decide) ?_
  intro X vs w Q hsp hX hmn hRt hlt
  obtain ⟨q, S, i0, x1, rfl, hi0, hW, h⟩ := hsp
  obtain ⟨n, f⟩ := w
  unfold m_X4_readPlace at h
  have hR : ∀ st w ce sl, np_rt none 0 0 Q st w ce sl → X.2.2.1 st w ce sl := fun _ _ _ _ h => by rw [hRt]; exact h
  refine np_soundW (so_X4_readPlace hX hR) [] 400 0 _ _ _ _ _ ?_
  conv => whnf
  refine ⟨q, S, x1, 0, 99, rfl, hW, pw_bd h (fun S1 r4 h f2 hW3 => ?_)⟩
  conv => whnf
  refine pw_br h (fun _ h => ?_) (fun _ h => ?_)
  · conv => whnf
    exact ⟨Nat.le_of_ble_eq_true rfl, Nat.le_of_ble_eq_true rfl, rfl, _, fun _ _ h9 => h9, pw_ps h _ hW3⟩
  · conv => whnf
    refine np_rd_i (hW3.g hi0) ?_
    conv => whnf
    refine ⟨q, S1, i0, 0, rfl, hi0, hW3, pw_bd h (fun S6 r9 h f7 hW8 => ?_)⟩
    conv => whnf
    refine pw_br h (fun _ h => ?_) (fun _ h => ?_)
    · conv => whnf
      refine np_rd_i (hW8.g hi0) ?_
      conv => whnf
      refine ⟨q, S6, i0, 1, rfl, hi0, hW8, pw_bd h (fun S11 r14 h f12 hW13 => ?_)⟩
      conv => whnf
      refine pw_br h (fun _ h => ?_) (fun _ h => ?_)
      · conv => whnf
        refine np_rd_i (hW13.g hi0) ?_
        conv => whnf
        refine ⟨q, S11, i0, (-1), 0, 2, rfl, hi0, hW13, pw_bd h (fun S16 r19 h f17 hW18 => ?_)⟩
        conv => whnf
        exact ⟨Nat.le_of_ble_eq_true rfl, Nat.le_of_ble_eq_true rfl, rfl, _, fun _ _ h9 => h9, pw_ps h _ hW18⟩
      · conv => whnf
        exact ⟨Nat.le_of_ble_eq_true rfl, Nat.le_of_ble_eq_true rfl, rfl, _, fun _ _ h9 => h9, pw_ps h _ hW13⟩
    · conv => whnf
      exact ⟨Nat.le_of_ble_eq_true rfl, Nat.le_of_ble_eq_true rfl, rfl, _, fun _ _ h9 => h9, pw_ps h _ hW8⟩
theorem dX4_enter_0 : decode cX4_enter 0 = .ok (.aload_n 0, 1) := by decide +kernel
theorem dX4_enter_1 : decode cX4_enter 1 = .ok (.aload_n 0, 1) := by decide +kernel
theorem dX4_enter_2 : decode cX4_enter 2 = .ok (.getfield 64, 3) := by decide +kernel
theorem dX4_enter_5 : decode cX4_enter 5 = .ok (.invokevirtual 57, 3) := by decide +kernel
theorem dX4_enter_8 : decode cX4_enter 8 = .ok (.astore_n 1, 1) := by decide +kernel
theorem dX4_enter_9 : decode cX4_enter 9 = .ok (.aload_n 1, 1) := by decide +kernel
theorem dX4_enter_10 : decode cX4_enter 10 = .ok (.ifnonnull 4, 3) := by decide +kernel
theorem dX4_enter_13 : decode cX4_enter 13 = .ok (.return_, 1) := by decide +kernel
theorem dX4_enter_14 : decode cX4_enter 14 = .ok (.aload_n 1, 1) := by decide +kernel
theorem dX4_enter_15 : decode cX4_enter 15 = .ok (.aload_n 0, 1) := by decide +kernel
theorem dX4_enter_16 : decode cX4_enter 16 = .ok (.getfield 18, 3) := by decide +kernel
theorem dX4_enter_19 : decode cX4_enter 19 = .ok (.invokevirtual 67, 3) := by decide +kernel
theorem dX4_enter_22 : decode cX4_enter 22 = .ok (.aload_n 1, 1) := by decide +kernel
theorem dX4_enter_23 : decode cX4_enter 23 = .ok (.aload_n 0, 1) := by decide +kernel
theorem dX4_enter_24 : decode cX4_enter 24 = .ok (.getfield 35, 3) := by decide +kernel
theorem dX4_enter_27 : decode cX4_enter 27 = .ok (.invokevirtual 120, 3) := by decide +kernel
theorem dX4_enter_30 : decode cX4_enter 30 = .ok (.aload_n 0, 1) := by decide +kernel
theorem dX4_enter_31 : decode cX4_enter 31 = .ok (.dup, 1) := by decide +kernel
theorem dX4_enter_32 : decode cX4_enter 32 = .ok (.getfield 64, 3) := by decide +kernel
theorem dX4_enter_35 : decode cX4_enter 35 = .ok (.iconst 1, 1) := by decide +kernel
theorem dX4_enter_36 : decode cX4_enter 36 = .ok (.iadd, 1) := by decide +kernel
theorem dX4_enter_37 : decode cX4_enter 37 = .ok (.putfield 64, 3) := by decide +kernel
theorem dX4_enter_40 : decode cX4_enter 40 = .ok (.return_, 1) := by decide +kernel
def is_X4_enter (Rt : np_Rt) : List (Nat × np_Op) := [(0, np_ald 1 0), (1, np_ald 1 0), (2, nw_getf 4 8), (5, nw_callV 4 2 sp_X4_beginningAt 2 0 0 0 0), (8, np_ast 1 1), (9, np_ald 1 1), (10, np_ifnonnull 14), (13, np_ret Rt), (14, np_ald 1 1), (15, np_ald 1 0), (16, nw_getf 4 1), (19, nw_callV 8 2 sp_X8_copyFrom 2 0 0 0 0), (22, np_ald 1 1), (23, np_ald 1 0), (24, nw_getf 4 5), (27, nw_callV 8 2 sp_X8_enter 5 0 0 0 0), (30, np_ald 1 0), (31, nq_dup), (32, nw_getf 4 8), (35, np_push 1 (.int 1)), (36, np_ib (fun x y => x + y)), (37, nw_putf 4 8 (.int)), (40, np_ret Rt)]
set_option maxRecDepth 20000 in
theorem so_X4_enter {X : np_Ctx} {Rt : np_Rt} (hX : np_ok RX4 cX4_enter 2 3 105 0 0 .return_ X) (hR : ∀ st w ce sl, Rt st w ce sl → X.2.2.1 st w ce sl) : ∀ q ∈ is_X4_enter Rt, np_S X q.1 q.2 :=
  List.forall_mem_cons.mpr ⟨np_s_aload_n hX dX4_enter_0 rfl, List.forall_mem_cons.mpr ⟨np_s_aload_n hX dX4_enter_1 rfl, List.forall_mem_cons.mpr ⟨np_S.mono (op := np_getf 4 8) (np_s_getf hX dX4_enter_2 (C := RX4) (T := TX4) (N := 11) rfl guX4 (by decide) gw231) nw_getf_le, List.forall_mem_cons.mpr ⟨np_S.mono (op := np_callV 4 2 sp_X4_beginningAt 2 0 0 0 0) (np_s_callV hX C_X4_beginningAt dX4_enter_5 (q := (RX4, TX4, 11)) rfl rfl gw1006 gw67 gw1003 gw1005 gw19 ⟨by decide, by decide, by decide⟩ (by decide) (by decide)) nw_callV_le, List.forall_mem_cons.mpr ⟨np_s_astore_n hX dX4_enter_8 rfl (by decide), List.forall_mem_cons.mpr ⟨np_s_aload_n hX dX4_enter_9 rfl, List.forall_mem_cons.mpr ⟨np_s_ifnonnull hX dX4_enter_10 (by decide), List.forall_mem_cons.mpr ⟨np_S.mono (op := np_ret X.2.2.1) (np_s_ret hX dX4_enter_13) (nq_ret_le hR), List.forall_mem_cons.mpr ⟨np_s_aload_n hX dX4_enter_14 rfl, List.forall_mem_cons.mpr ⟨np_s_aload_n hX dX4_enter_15 rfl, List.forall_mem_cons.mpr ⟨np_S.mono (op := np_getf 4 1) (np_s_getf hX dX4_enter_16 (C := RX4) (T := TX4) (N := 11) rfl guX4 (by decide) gw223) nw_getf_le, List.forall_mem_cons.mpr ⟨np_S.mono (op := np_callV 8 2 sp_X8_copyFrom 2 0 0 0 0) (np_s_callV hX C_X8_copyFrom dX4_enter_19 (q := (RX8, TX8, 9)) rfl rfl gw890 gw66 gw1012 gw888 gw889 ⟨by decide, by decide, by decide⟩ (by decide) (by decide)) nw_callV_le, List.forall_mem_cons.mpr ⟨np_s_aload_n hX dX4_enter_22 rfl, List.forall_mem_cons.mpr ⟨np_s_aload_n hX dX4_enter_23 rfl, List.forall_mem_cons.mpr ⟨np_S.mono (op := np_getf 4 5) (np_s_getf hX dX4_enter_24 (C := RX4) (T := TX4) (N := 11) rfl guX4 (by decide) gw228) nw_getf_le, List.forall_mem_cons.mpr ⟨np_S.mono (op := np_callV 8 2 sp_X8_enter 5 0 0 0 0) (np_s_callV hX C_X8_enter dX4_enter_27 (q := (RX8, TX8, 9)) rfl rfl gw764 gw66 gw1090 gw762 gw763 ⟨by decide, by decide, by decide⟩ (by decide) (by decide)) nw_callV_le, List.forall_mem_cons.mpr ⟨np_s_aload_n hX dX4_enter_30 rfl, List.forall_mem_cons.mpr ⟨np_S.mono (op := np_dup) (np_s_dup hX dX4_enter_31) nq_dup_le, List.forall_mem_cons.mpr ⟨np_S.mono (op := np_getf 4 8) (np_s_getf hX dX4_enter_32 (C := RX4) (T := TX4) (N := 11) rfl guX4 (by decide) gw231) nw_getf_le, List.forall_mem_cons.mpr ⟨np_s_iconst hX dX4_enter_35 (by decide), List.forall_mem_cons.mpr ⟨np_s_iadd hX dX4_enter_36, List.forall_mem_cons.mpr ⟨np_S.mono (op := np_putf 4 8 (.int)) (np_s_putf hX dX4_enter_37 (C := RX4) (T := TX4) (N := 11) (ty0 := tyX4) rfl guX4 tyX4_ok nmX4 (by decide) gw231 rfl rfl) nw_putf_le, List.forall_mem_cons.mpr ⟨np_S.mono (op := np_ret X.2.2.1) (np_s_ret hX dX4_enter_40) (nq_ret_le hR), fun _ h => nomatch h⟩⟩⟩⟩⟩⟩⟩⟩⟩⟩⟩⟩⟩⟩⟩⟩⟩⟩⟩⟩⟩⟩⟩
noncomputable def m_X4_enter (S : pw_S) (i0 : Nat) : pw_R Unit :=
 pw_b (m_X4_beginningAt S i0 (S 59 i0 8)) fun S1 r4 =>
 pw_o r4 (
 (some (S1, ()))) (fun j6 =>
 (pw_b (m_X8_copyFrom S1 j6 407) fun S7 r10 =>
 pw_b (m_X8_enter S7 j6 (pw_dn 8 (S7 59 i0 5))) fun S12 r15 =>
 pw_l (pw_up S12 59 i0 (upd (S12 59 i0) 8 ((S12 59 i0 8) + 1))) fun S17 =>
 some (S17, ())))
def sp_X4_enter : np_Sp := fun vs w Q => ∃ (q : Nat) (S : pw_S) (i0 : Nat), vs = [.ref (pw_pl 59 i0)] ∧ pw_ok q 59 i0 = true ∧ pw_W q w S ∧ pw_p (m_X4_enter S i0) (fun S' r => ∀ f', pw_W q (w.1, f') S' → Q none (w.1, f'))
set_option maxRecDepth 100000 in
set_option maxHeartbeats 8000000 in
theorem C_X4_enter : np_C yX4_enter cX4_enter 2 none 3 105 0 0 sp_X4_enter := by
  refine np_of (by decide) ?_
  intro X vs w Q hsp hX hmn hRt hlt
  obtain ⟨q, S, i0, rfl, hi0, hW, h⟩ := hsp
  obtain ⟨n, f⟩ := w
  unfold m_X4_enter at h
  have hR : ∀ st w ce sl, np_rt none 0 0 Q st w ce sl → X.2.2.1 st w ce sl := fun _ _ _ _ h => by rw [hRt]; exact h
  refine np_soundW (so_X4_enter hX hR) [] 400 0 _ _ _ _ _ ?_
  conv => whnf
  refine np_rd_i (hW.g hi0) ?_
  conv => whnf
  refine np_rd_i (hW.g hi0) ?_
  conv => whnf
  refine ⟨q, S, i0, (S 59 i0 8), rfl, hi0, hW, pw_bd h (fun S1 r4 h f2 hW3 ho5 => ?_)⟩
  rcases r4 with _ | j6
  · replace h := pw_on h
    conv => whnf
    exact ⟨Nat.le_of_ble_eq_true rfl, Nat.le_of_ble_eq_true rfl, rfl, _, fun _ _ h9 => h9, pw_ps h _ hW3⟩
  · replace h := pw_os h
    replace ho5 : pw_ok q 50 j6 = true := ho5
    conv => whnf
    refine np_rd_i (hW3.g hi0) ?_
    conv => whnf
    refine np_rd_i (hW3.g ho5) ?_
    conv => whnf
    refine ⟨q, S1, j6, 407, rfl, ho5, rfl, hW3, pw_bd h (fun S7 r10 h f8 hW9 => ?_)⟩
    conv => whnf
    refine np_rd_i (hW9.g hi0) ?_
    conv => whnf
    refine np_rd_i (hW9.g ho5) ?_
    conv => whnf
    refine ⟨q, S7, j6, (pw_dn 8 (S7 59 i0 5)), rfl, ho5, (pw_okd (a := 51) (n := 8) rfl rfl rfl), hW9, pw_bd h (fun S12 r15 h f13 hW14 => ?_)⟩
    conv => whnf
    refine np_rd_i (hW14.g hi0) ?_
    conv => whnf
    refine np_rd_i (hW14.g hi0) ?_
    conv => whnf
    refine pw_wr (a := 59) (i := i0) (d := upd (S12 59 i0) 8 ((S12 59 i0 8) + 1)) hW14 hi0 rfl h (fun S17 f18 hW19 h => ?_)
    conv => whnf
    exact ⟨Nat.le_of_ble_eq_true rfl, Nat.le_of_ble_eq_true rfl, rfl, _, fun _ _ h9 => h9, pw_ps h _ hW19⟩
theorem dX4_branch_0 : decode cX4_branch 0 = .ok (.aload_n 0, 1) := by decide +kernel
theorem dX4_branch_1 : decode cX4_branch 1 = .ok (.getfield 35, 3) := by decide +kernel
theorem dX4_branch_4 : decode cX4_branch 4 = .ok (.aload_n 0, 1) := by decide +kernel
theorem dX4_branch_5 : decode cX4_branch 5 = .ok (.getfield 18, 3) := by decide +kernel
theorem dX4_branch_8 : decode cX4_branch 8 = .ok (.getfield 78, 3) := by decide +kernel
theorem dX4_branch_11 : decode cX4_branch 11 = .ok (.invokevirtual 81, 3) := by decide +kernel
theorem dX4_branch_14 : decode cX4_branch 14 = .ok (.tableswitch 152 0 9 #[54, 61, 68, 75, 110, 89, 82, 152, 152, 124], 54) := by decide +kernel
theorem dX4_branch_68 : decode cX4_branch 68 = .ok (.aload_n 0, 1) := by decide +kernel
theorem dX4_branch_69 : decode cX4_branch 69 = .ok (.invokevirtual 85, 3) := by decide +kernel
theorem dX4_branch_72 : decode cX4_branch 72 = .ok (.goto 98, 3) := by decide +kernel
theorem dX4_branch_75 : decode cX4_branch 75 = .ok (.aload_n 0, 1) := by decide +kernel
theorem dX4_branch_76 : decode cX4_branch 76 = .ok (.invokevirtual 88, 3) := by decide +kernel
theorem dX4_branch_79 : decode cX4_branch 79 = .ok (.goto 91, 3) := by decide +kernel
theorem dX4_branch_82 : decode cX4_branch 82 = .ok (.aload_n 0, 1) := by decide +kernel
theorem dX4_branch_83 : decode cX4_branch 83 = .ok (.invokevirtual 91, 3) := by decide +kernel
theorem dX4_branch_86 : decode cX4_branch 86 = .ok (.goto 84, 3) := by decide +kernel
theorem dX4_branch_89 : decode cX4_branch 89 = .ok (.aload_n 0, 1) := by decide +kernel
theorem dX4_branch_90 : decode cX4_branch 90 = .ok (.invokevirtual 94, 3) := by decide +kernel
theorem dX4_branch_93 : decode cX4_branch 93 = .ok (.goto 77, 3) := by decide +kernel
theorem dX4_branch_96 : decode cX4_branch 96 = .ok (.aload_n 0, 1) := by decide +kernel
theorem dX4_branch_97 : decode cX4_branch 97 = .ok (.invokevirtual 97, 3) := by decide +kernel
theorem dX4_branch_100 : decode cX4_branch 100 = .ok (.goto 70, 3) := by decide +kernel
theorem dX4_branch_103 : decode cX4_branch 103 = .ok (.aload_n 0, 1) := by decide +kernel
theorem dX4_branch_104 : decode cX4_branch 104 = .ok (.aload_n 0, 1) := by decide +kernel
theorem dX4_branch_105 : decode cX4_branch 105 = .ok (.getfield 35, 3) := by decide +kernel
theorem dX4_branch_108 : decode cX4_branch 108 = .ok (.aload_n 0, 1) := by decide +kernel
theorem dX4_branch_109 : decode cX4_branch 109 = .ok (.getfield 18, 3) := by decide +kernel
theorem dX4_branch_112 : decode cX4_branch 112 = .ok (.getfield 78, 3) := by decide +kernel
theorem dX4_branch_115 : decode cX4_branch 115 = .ok (.invokevirtual 100, 3) := by decide +kernel
theorem dX4_branch_118 : decode cX4_branch 118 = .ok (.invokevirtual 103, 3) := by decide +kernel
theorem dX4_branch_121 : decode cX4_branch 121 = .ok (.goto 49, 3) := by decide +kernel
theorem dX4_branch_124 : decode cX4_branch 124 = .ok (.aload_n 0, 1) := by decide +kernel
theorem dX4_branch_125 : decode cX4_branch 125 = .ok (.aload_n 0, 1) := by decide +kernel
theorem dX4_branch_126 : decode cX4_branch 126 = .ok (.getfield 18, 3) := by decide +kernel
theorem dX4_branch_129 : decode cX4_branch 129 = .ok (.invokevirtual 107, 3) := by decide +kernel
theorem dX4_branch_132 : decode cX4_branch 132 = .ok (.invokevirtual 103, 3) := by decide +kernel
theorem dX4_branch_135 : decode cX4_branch 135 = .ok (.goto 35, 3) := by decide +kernel
theorem dX4_branch_138 : decode cX4_branch 138 = .ok (.aload_n 0, 1) := by decide +kernel
theorem dX4_branch_139 : decode cX4_branch 139 = .ok (.aload_n 0, 1) := by decide +kernel
theorem dX4_branch_140 : decode cX4_branch 140 = .ok (.getfield 18, 3) := by decide +kernel
theorem dX4_branch_143 : decode cX4_branch 143 = .ok (.aload_n 0, 1) := by decide +kernel
theorem dX4_branch_144 : decode cX4_branch 144 = .ok (.getfield 35, 3) := by decide +kernel
theorem dX4_branch_147 : decode cX4_branch 147 = .ok (.aload_n 0, 1) := by decide +kernel
theorem dX4_branch_148 : decode cX4_branch 148 = .ok (.getfield 18, 3) := by decide +kernel
theorem dX4_branch_151 : decode cX4_branch 151 = .ok (.getfield 78, 3) := by decide +kernel
theorem dX4_branch_154 : decode cX4_branch 154 = .ok (.invokevirtual 100, 3) := by decide +kernel
theorem dX4_branch_157 : decode cX4_branch 157 = .ok (.invokevirtual 111, 3) := by decide +kernel
theorem dX4_branch_160 : decode cX4_branch 160 = .ok (.invokevirtual 114, 3) := by decide +kernel
theorem dX4_branch_163 : decode cX4_branch 163 = .ok (.goto 7, 3) := by decide +kernel
theorem dX4_branch_166 : decode cX4_branch 166 = .ok (.aload_n 0, 1) := by decide +kernel
theorem dX4_branch_167 : decode cX4_branch 167 = .ok (.invokevirtual 117, 3) := by decide +kernel
theorem dX4_branch_170 : decode cX4_branch 170 = .ok (.return_, 1) := by decide +kernel
def is_X4_branch (Rt : np_Rt) : List (Nat × np_Op) := [(0, np_ald 1 0), (1, nw_getf 4 5), (4, np_ald 1 0), (5, nw_getf 4 1), (8, nw_getf 8 2), (11, nw_callV 2 2 sp_X2_kind 2 0 0 0 0), (14, nq_tsw (0) [68, 75, 82, 89, 124, 103, 96, 166, 166, 138] 166), (68, np_ald 1 0), (69, nw_callV 4 1 sp_X4_readNumber 4 0 0 0 0), (72, np_goto 170), (75, np_ald 1 0), (76, nw_callV 4 1 sp_X4_readWord 6 0 0 0 0), (79, np_goto 170), (82, np_ald 1 0), (83, nw_callV 4 1 sp_X4_readOpen 5 0 0 0 0), (86, np_goto 170), (89, np_ald 1 0), (90, nw_callV 4 1 sp_X4_readBits 4 0 0 0 0), (93, np_goto 170), (96, np_ald 1 0), (97, nw_callV 4 1 sp_X4_readCount 2 0 0 0 0), (100, np_goto 170), (103, np_ald 1 0), (104, np_ald 1 0), (105, nw_getf 4 5), (108, np_ald 1 0), (109, nw_getf 4 1), (112, nw_getf 8 2), (115, nw_callV 2 2 sp_X2_a 2 0 0 0 0), (118, nw_callV 4 2 sp_X4_readUnit 2 0 0 0 0), (121, np_goto 170), (124, np_ald 1 0), (125, np_ald 1 0), (126, nw_getf 4 1), (129, nw_callV 8 1 sp_X8_checkDigit 1 0 0 0 0), (132, nw_callV 4 2 sp_X4_readUnit 2 0 0 0 0), (135, np_goto 170), (138, np_ald 1 0), (139, np_ald 1 0), (140, nw_getf 4 1), (143, np_ald 1 0), (144, nw_getf 4 5), (147, np_ald 1 0), (148, nw_getf 4 1), (151, nw_getf 8 2), (154, nw_callV 2 2 sp_X2_a 2 0 0 0 0), (157, nw_callV 8 2 sp_X8_startOf 2 0 0 0 0), (160, nw_callV 4 2 sp_X4_readPlace 2 0 0 0 0), (163, np_goto 170), (166, np_ald 1 0), (167, nw_callV 4 1 sp_X4_enter 2 0 0 0 0), (170, np_ret Rt)]
set_option maxRecDepth 20000 in
theorem so_X4_branch {X : np_Ctx} {Rt : np_Rt} (hX : np_ok RX4 cX4_branch 1 5 155 0 0 .return_ X) (hR : ∀ st w ce sl, Rt st w ce sl → X.2.2.1 st w ce sl) : ∀ q ∈ is_X4_branch Rt, np_S X q.1 q.2 :=
  List.forall_mem_cons.mpr ⟨np_s_aload_n hX dX4_branch_0 rfl, List.forall_mem_cons.mpr ⟨np_S.mono (op := np_getf 4 5) (np_s_getf hX dX4_branch_1 (C := RX4) (T := TX4) (N := 11) rfl guX4 (by decide) gw228) nw_getf_le, List.forall_mem_cons.mpr ⟨np_s_aload_n hX dX4_branch_4 rfl, List.forall_mem_cons.mpr ⟨np_S.mono (op := np_getf 4 1) (np_s_getf hX dX4_branch_5 (C := RX4) (T := TX4) (N := 11) rfl guX4 (by decide) gw223) nw_getf_le, List.forall_mem_cons.mpr ⟨np_S.mono (op := np_getf 8 2) (np_s_getN hX dX4_branch_8 (C := RX8) (T := TX8) (N := 9) rfl guX8 (by decide) gw152) nw_getf_le, List.forall_mem_cons.mpr ⟨np_S.mono (op := np_callV 2 2 sp_X2_kind 2 0 0 0 0) (np_s_callV hX C_X2_kind dX4_branch_11 (q := (RX2, TX2, 5)) rfl rfl gw650 gw64 gw1018 gw648 gw649 ⟨by decide, by decide, by decide⟩ (by decide) (by decide)) nw_callV_le, List.forall_mem_cons.mpr ⟨np_S.mono (op := np_tsw (0) (9) [68, 75, 82, 89, 124, 103, 96, 166, 166, 138] 166) (np_s_tsw hX dX4_branch_14 (by decide) (by decide) (by decide)) (nq_tsw_le (by decide)), List.forall_mem_cons.mpr ⟨np_s_aload_n hX dX4_branch_68 rfl, List.forall_mem_cons.mpr ⟨np_S.mono (op := np_callV 4 1 sp_X4_readNumber 4 0 0 0 0) (np_s_callV hX C_X4_readNumber dX4_branch_69 (q := (RX4, TX4, 11)) rfl rfl gw1022 gw67 gw1019 gw1021 gw21 ⟨by decide, by decide, by decide⟩ (by decide) (by decide)) nw_callV_le, List.forall_mem_cons.mpr ⟨np_s_goto hX dX4_branch_72 (by decide), List.forall_mem_cons.mpr ⟨np_s_aload_n hX dX4_branch_75 rfl, List.forall_mem_cons.mpr ⟨np_S.mono (op := np_callV 4 1 sp_X4_readWord 6 0 0 0 0) (np_s_callV hX C_X4_readWord dX4_branch_76 (q := (RX4, TX4, 11)) rfl rfl gw1045 gw67 gw1042 gw1044 gw24 ⟨by decide, by decide, by decide⟩ (by decide) (by decide)) nw_callV_le, List.forall_mem_cons.mpr ⟨np_s_goto hX dX4_branch_79 (by decide), List.forall_mem_cons.mpr ⟨np_s_aload_n hX dX4_branch_82 rfl, List.forall_mem_cons.mpr ⟨np_S.mono (op := np_callV 4 1 sp_X4_readOpen 5 0 0 0 0) (np_s_callV hX C_X4_readOpen dX4_branch_83 (q := (RX4, TX4, 11)) rfl rfl gw1067 gw67 gw1064 gw1066 gw28 ⟨by decide, by decide, by decide⟩ (by decide) (by decide)) nw_callV_le, List.forall_mem_cons.mpr ⟨np_s_goto hX dX4_branch_86 (by decide), List.forall_mem_cons.mpr ⟨np_s_aload_n hX dX4_branch_89 rfl, List.forall_mem_cons.mpr ⟨np_S.mono (op := np_callV 4 1 sp_X4_readBits 4 0 0 0 0) (np_s_callV hX C_X4_readBits dX4_branch_90 (q := (RX4, TX4, 11)) rfl rfl gw1071 gw67 gw1068 gw1070 gw29 ⟨by decide, by decide, by decide⟩ (by decide) (by decide)) nw_callV_le, List.forall_mem_cons.mpr ⟨np_s_goto hX dX4_branch_93 (by decide), List.forall_mem_cons.mpr ⟨np_s_aload_n hX dX4_branch_96 rfl, List.forall_mem_cons.mpr ⟨np_S.mono (op := np_callV 4 1 sp_X4_readCount 2 0 0 0 0) (np_s_callV hX C_X4_readCount dX4_branch_97 (q := (RX4, TX4, 11)) rfl rfl gw1075 gw67 gw1072 gw1074 gw30 ⟨by decide, by decide, by decide⟩ (by decide) (by decide)) nw_callV_le, List.forall_mem_cons.mpr ⟨np_s_goto hX dX4_branch_100 (by decide), List.forall_mem_cons.mpr ⟨np_s_aload_n hX dX4_branch_103 rfl, List.forall_mem_cons.mpr ⟨np_s_aload_n hX dX4_branch_104 rfl, List.forall_mem_cons.mpr ⟨np_S.mono (op := np_getf 4 5) (np_s_getf hX dX4_branch_105 (C := RX4) (T := TX4) (N := 11) rfl guX4 (by decide) gw228) nw_getf_le, List.forall_mem_cons.mpr ⟨np_s_aload_n hX dX4_branch_108 rfl, List.forall_mem_cons.mpr ⟨np_S.mono (op := np_getf 4 1) (np_s_getf hX dX4_branch_109 (C := RX4) (T := TX4) (N := 11) rfl guX4 (by decide) gw223) nw_getf_le, List.forall_mem_cons.mpr ⟨np_S.mono (op := np_getf 8 2) (np_s_getN hX dX4_branch_112 (C := RX8) (T := TX8) (N := 9) rfl guX8 (by decide) gw152) nw_getf_le, List.forall_mem_cons.mpr ⟨np_S.mono (op := np_callV 2 2 sp_X2_a 2 0 0 0 0) (np_s_callV hX C_X2_a dX4_branch_115 (q := (RX2, TX2, 5)) rfl rfl gw657 gw64 gw1033 gw655 gw656 ⟨by decide, by decide, by decide⟩ (by decide) (by decide)) nw_callV_le, List.forall_mem_cons.mpr ⟨np_S.mono (op := np_callV 4 2 sp_X4_readUnit 2 0 0 0 0) (np_s_callV hX C_X4_readUnit dX4_branch_118 (q := (RX4, TX4, 11)) rfl rfl gw1079 gw67 gw1076 gw1078 gw31 ⟨by decide, by decide, by decide⟩ (by decide) (by decide)) nw_callV_le, List.forall_mem_cons.mpr ⟨np_s_goto hX dX4_branch_121 (by decide), List.forall_mem_cons.mpr ⟨np_s_aload_n hX dX4_branch_124 rfl, List.forall_mem_cons.mpr ⟨np_s_aload_n hX dX4_branch_125 rfl, List.forall_mem_cons.mpr ⟨np_S.mono (op := np_getf 4 1) (np_s_getf hX dX4_branch_126 (C := RX4) (T := TX4) (N := 11) rfl guX4 (by decide) gw223) nw_getf_le, List.forall_mem_cons.mpr ⟨np_S.mono (op := np_callV 8 1 sp_X8_checkDigit 1 0 0 0 0) (np_s_callV hX C_X8_checkDigit dX4_branch_129 (q := (RX8, TX8, 9)) rfl rfl gw875 gw66 gw1080 gw873 gw874 ⟨by decide, by decide, by decide⟩ (by decide) (by decide)) nw_callV_le, List.forall_mem_cons.mpr ⟨np_S.mono (op := np_callV 4 2 sp_X4_readUnit 2 0 0 0 0) (np_s_callV hX C_X4_readUnit dX4_branch_132 (q := (RX4, TX4, 11)) rfl rfl gw1079 gw67 gw1076 gw1078 gw31 ⟨by decide, by decide, by decide⟩ (by decide) (by decide)) nw_callV_le, List.forall_mem_cons.mpr ⟨np_s_goto hX dX4_branch_135 (by decide), List.forall_mem_cons.mpr ⟨np_s_aload_n hX dX4_branch_138 rfl, List.forall_mem_cons.mpr ⟨np_s_aload_n hX dX4_branch_139 rfl, List.forall_mem_cons.mpr ⟨np_S.mono (op := np_getf 4 1) (np_s_getf hX dX4_branch_140 (C := RX4) (T := TX4) (N := 11) rfl guX4 (by decide) gw223) nw_getf_le, List.forall_mem_cons.mpr ⟨np_s_aload_n hX dX4_branch_143 rfl, List.forall_mem_cons.mpr ⟨np_S.mono (op := np_getf 4 5) (np_s_getf hX dX4_branch_144 (C := RX4) (T := TX4) (N := 11) rfl guX4 (by decide) gw228) nw_getf_le, List.forall_mem_cons.mpr ⟨np_s_aload_n hX dX4_branch_147 rfl, List.forall_mem_cons.mpr ⟨np_S.mono (op := np_getf 4 1) (np_s_getf hX dX4_branch_148 (C := RX4) (T := TX4) (N := 11) rfl guX4 (by decide) gw223) nw_getf_le, List.forall_mem_cons.mpr ⟨np_S.mono (op := np_getf 8 2) (np_s_getN hX dX4_branch_151 (C := RX8) (T := TX8) (N := 9) rfl guX8 (by decide) gw152) nw_getf_le, List.forall_mem_cons.mpr ⟨np_S.mono (op := np_callV 2 2 sp_X2_a 2 0 0 0 0) (np_s_callV hX C_X2_a dX4_branch_154 (q := (RX2, TX2, 5)) rfl rfl gw657 gw64 gw1033 gw655 gw656 ⟨by decide, by decide, by decide⟩ (by decide) (by decide)) nw_callV_le, List.forall_mem_cons.mpr ⟨np_S.mono (op := np_callV 8 2 sp_X8_startOf 2 0 0 0 0) (np_s_callV hX C_X8_startOf dX4_branch_157 (q := (RX8, TX8, 9)) rfl rfl gw813 gw66 gw1081 gw811 gw812 ⟨by decide, by decide, by decide⟩ (by decide) (by decide)) nw_callV_le, List.forall_mem_cons.mpr ⟨np_S.mono (op := np_callV 4 2 sp_X4_readPlace 2 0 0 0 0) (np_s_callV hX C_X4_readPlace dX4_branch_160 (q := (RX4, TX4, 11)) rfl rfl gw1085 gw67 gw1082 gw1084 gw32 ⟨by decide, by decide, by decide⟩ (by decide) (by decide)) nw_callV_le, List.forall_mem_cons.mpr ⟨np_s_goto hX dX4_branch_163 (by decide), List.forall_mem_cons.mpr ⟨np_s_aload_n hX dX4_branch_166 rfl, List.forall_mem_cons.mpr ⟨np_S.mono (op := np_callV 4 1 sp_X4_enter 2 0 0 0 0) (np_s_callV hX C_X4_enter dX4_branch_167 (q := (RX4, TX4, 11)) rfl rfl gw1089 gw67 gw1086 gw1088 gw33 ⟨by decide, by decide, by decide⟩ (by decide) (by decide)) nw_callV_le, List.forall_mem_cons.mpr ⟨np_S.mono (op := np_ret X.2.2.1) (np_s_ret hX dX4_branch_170) (nq_ret_le hR), fun _ h => nomatch h⟩⟩⟩⟩⟩⟩⟩⟩⟩⟩⟩⟩⟩⟩⟩⟩⟩⟩⟩⟩⟩⟩⟩⟩⟩⟩⟩⟩⟩⟩⟩⟩⟩⟩⟩⟩⟩⟩⟩⟩⟩⟩⟩⟩⟩⟩⟩⟩⟩⟩⟩⟩
noncomputable def m_X4_branch (S : pw_S) (i0 : Nat) : pw_R Unit :=
 pw_b (m_X2_kind S (pw_dn 8 (S 59 i0 5)) (S 50 407 2)) fun S1 r4 =>
 if (r4 : Int32).toInt = 0 then
 (pw_b (m_X4_readNumber S1 i0) fun S6 r9 =>
 some (S6, ()))
 else if (r4 : Int32).toInt = (0 + 1) then
 (pw_b (m_X4_readWord S1 i0) fun S11 r14 =>
 some (S11, ()))
 else if (r4 : Int32).toInt = ((0 + 1) + 1) then
 (pw_b (m_X4_readOpen S1 i0) fun S16 r19 =>
 some (S16, ()))
 else if (r4 : Int32).toInt = (((0 + 1) + 1) + 1) then
 (pw_b (m_X4_readBits S1 i0) fun S21 r24 =>
 some (S21, ()))
 else if (r4 : Int32).toInt = ((((0 + 1) + 1) + 1) + 1) then
 (pw_b (m_X8_checkDigit S1 407) fun S26 r29 =>
 pw_b (m_X4_readUnit S26 i0 r29) fun S31 r34 =>
 some (S31, ()))
 else if (r4 : Int32).toInt = (((((0 + 1) + 1) + 1) + 1) + 1) then
 (pw_b (m_X2_a S1 (pw_dn 8 (S1 59 i0 5)) (S1 50 407 2)) fun S36 r39 =>
 pw_b (m_X4_readUnit S36 i0 r39) fun S41 r44 =>
 some (S41, ()))
 else if (r4 : Int32).toInt = ((((((0 + 1) + 1) + 1) + 1) + 1) + 1) then
 (pw_b (m_X4_readCount S1 i0) fun S46 r49 =>
 some (S46, ()))
 else if (r4 : Int32).toInt = (((((((0 + 1) + 1) + 1) + 1) + 1) + 1) + 1) then
 (pw_b (m_X4_enter S1 i0) fun S51 r54 =>
 some (S51, ()))
 else if (r4 : Int32).toInt = ((((((((0 + 1) + 1) + 1) + 1) + 1) + 1) + 1) + 1) then
 (pw_b (m_X4_enter S1 i0) fun S56 r59 =>
 some (S56, ()))
 else if (r4 : Int32).toInt = (((((((((0 + 1) + 1) + 1) + 1) + 1) + 1) + 1) + 1) + 1) then
 (pw_b (m_X2_a S1 (pw_dn 8 (S1 59 i0 5)) (S1 50 407 2)) fun S61 r64 =>
 pw_b (m_X8_startOf S61 407 r64) fun S66 r69 =>
 pw_b (m_X4_readPlace S66 i0 r69) fun S71 r74 =>
 some (S71, ()))
 else 
 (pw_b (m_X4_enter S1 i0) fun S76 r79 =>
 some (S76, ()))
def sp_X4_branch : np_Sp := fun vs w Q => ∃ (q : Nat) (S : pw_S) (i0 : Nat), vs = [.ref (pw_pl 59 i0)] ∧ pw_ok q 59 i0 = true ∧ pw_W q w S ∧ pw_p (m_X4_branch S i0) (fun S' r => ∀ f', pw_W q (w.1, f') S' → Q none (w.1, f'))
set_option maxRecDepth 100000 in
set_option maxHeartbeats 8000000 in
theorem C_X4_branch : np_C yX4_branch cX4_branch 1 none 5 155 0 0 sp_X4_branch := by
  refine np_of (by decide) ?_
  intro X vs w Q hsp hX hmn hRt hlt
  obtain ⟨q, S, i0, rfl, hi0, hW, h⟩ := hsp
  obtain ⟨n, f⟩ := w
  unfold m_X4_branch at h
  have hR : ∀ st w ce sl, np_rt none 0 0 Q st w ce sl → X.2.2.1 st w ce sl := fun _ _ _ _ h => by rw [hRt]; exact h
  refine np_soundW (so_X4_branch hX hR) [] 400 0 _ _ _ _ _ ?_
  conv => whnf
  refine np_rd_i (hW.g hi0) ?_
  conv => whnf
  refine np_rd_i (hW.g hi0) ?_
  conv => whnf
  refine np_rd_i (hW.g rfl) ?_
  conv => whnf
  refine np_rd_i (hW.g (pw_okd (a := 51) (n := 8) rfl rfl rfl)) ?_
  conv => whnf
  refine ⟨q, S, (pw_dn 8 (S 59 i0 5)), (S 50 407 2), rfl, (pw_okd (a := 51) (n := 8) rfl rfl rfl), hW, pw_bd h (fun S1 r4 h f2 hW3 => ?_)⟩
  conv => whnf
  refine pw_br h (fun _ h => ?_) (fun _ h => ?_)
  · conv => whnf
    refine np_rd_i (hW3.g hi0) ?_
    conv => whnf
    refine ⟨q, S1, i0, rfl, hi0, hW3, pw_bd h (fun S6 r9 h f7 hW8 => ?_)⟩
    conv => whnf
    exact ⟨Nat.le_of_ble_eq_true rfl, Nat.le_of_ble_eq_true rfl, rfl, _, fun _ _ h9 => h9, pw_ps h _ hW8⟩
  conv => whnf
  refine pw_br h (fun _ h => ?_) (fun _ h => ?_)
  · conv => whnf
    refine np_rd_i (hW3.g hi0) ?_
    conv => whnf
    refine ⟨q, S1, i0, rfl, hi0, hW3, pw_bd h (fun S11 r14 h f12 hW13 => ?_)⟩
    conv => whnf
    exact ⟨Nat.le_of_ble_eq_true rfl, Nat.le_of_ble_eq_true rfl, rfl, _, fun _ _ h9 => h9, pw_ps h _ hW13⟩
  conv => whnf
  refine pw_br h (fun _ h => ?_) (fun _ h => ?_)
  · conv => whnf
    refine np_rd_i (hW3.g hi0) ?_
    conv => whnf
    refine ⟨q, S1, i0, rfl, hi0, hW3, pw_bd h (fun S16 r19 h f17 hW18 => ?_)⟩
    conv => whnf
    exact ⟨Nat.le_of_ble_eq_true rfl, Nat.le_of_ble_eq_true rfl, rfl, _, fun _ _ h9 => h9, pw_ps h _ hW18⟩
  conv => whnf
  refine pw_br h (fun _ h => ?_) (fun _ h => ?_)
  · conv => whnf
    refine np_rd_i (hW3.g hi0) ?_
    conv => whnf
    refine ⟨q, S1, i0, rfl, hi0, hW3, pw_bd h (fun S21 r24 h f22 hW23 => ?_)⟩
    conv => whnf
    exact ⟨Nat.le_of_ble_eq_true rfl, Nat.le_of_ble_eq_true rfl, rfl, _, fun _ _ h9 => h9, pw_ps h _ hW23⟩
  conv => whnf
  refine pw_br h (fun _ h => ?_) (fun _ h => ?_)
  · conv => whnf
    refine np_rd_i (hW3.g hi0) ?_
    conv => whnf
    refine np_rd_i (hW3.g rfl) ?_
    conv => whnf
    refine ⟨q, S1, 407, rfl, rfl, hW3, pw_bd h (fun S26 r29 h f27 hW28 => ?_)⟩
    conv => whnf
    refine np_rd_i (hW28.g hi0) ?_
    conv => whnf
    refine ⟨q, S26, i0, r29, rfl, hi0, hW28, pw_bd h (fun S31 r34 h f32 hW33 => ?_)⟩
    conv => whnf
    exact ⟨Nat.le_of_ble_eq_true rfl, Nat.le_of_ble_eq_true rfl, rfl, _, fun _ _ h9 => h9, pw_ps h _ hW33⟩
  conv => whnf
  refine pw_br h (fun _ h => ?_) (fun _ h => ?_)
  · conv => whnf
    refine np_rd_i (hW3.g hi0) ?_
    conv => whnf
    refine np_rd_i (hW3.g hi0) ?_
    conv => whnf
    refine np_rd_i (hW3.g rfl) ?_
    conv => whnf
    refine np_rd_i (hW3.g (pw_okd (a := 51) (n := 8) rfl rfl rfl)) ?_
    conv => whnf
    refine ⟨q, S1, (pw_dn 8 (S1 59 i0 5)), (S1 50 407 2), rfl, (pw_okd (a := 51) (n := 8) rfl rfl rfl), hW3, pw_bd h (fun S36 r39 h f37 hW38 => ?_)⟩
    conv => whnf
    refine np_rd_i (hW38.g hi0) ?_
    conv => whnf
    refine ⟨q, S36, i0, r39, rfl, hi0, hW38, pw_bd h (fun S41 r44 h f42 hW43 => ?_)⟩
    conv => whnf
    exact ⟨Nat.le_of_ble_eq_true rfl, Nat.le_of_ble_eq_true rfl, rfl, _, fun _ _ h9 => h9, pw_ps h _ hW43⟩
  conv => whnf
  refine pw_br h (fun _ h => ?_) (fun _ h => ?_)
  · conv => whnf
    refine np_rd_i (hW3.g hi0) ?_
    conv => whnf
    refine ⟨q, S1, i0, rfl, hi0, hW3, pw_bd h (fun S46 r49 h f47 hW48 => ?_)⟩
    conv => whnf
    exact ⟨Nat.le_of_ble_eq_true rfl, Nat.le_of_ble_eq_true rfl, rfl, _, fun _ _ h9 => h9, pw_ps h _ hW48⟩
  conv => whnf
  refine pw_br h (fun _ h => ?_) (fun _ h => ?_)
  · conv => whnf
    refine np_rd_i (hW3.g hi0) ?_
    conv => whnf
    refine ⟨q, S1, i0, rfl, hi0, hW3, pw_bd h (fun S51 r54 h f52 hW53 => ?_)⟩
    conv => whnf
    exact ⟨Nat.le_of_ble_eq_true rfl, Nat.le_of_ble_eq_true rfl, rfl, _, fun _ _ h9 => h9, pw_ps h _ hW53⟩
  conv => whnf
  refine pw_br h (fun _ h => ?_) (fun _ h => ?_)
  · conv => whnf
    refine np_rd_i (hW3.g hi0) ?_
    conv => whnf
    refine ⟨q, S1, i0, rfl, hi0, hW3, pw_bd h (fun S56 r59 h f57 hW58 => ?_)⟩
    conv => whnf
    exact ⟨Nat.le_of_ble_eq_true rfl, Nat.le_of_ble_eq_true rfl, rfl, _, fun _ _ h9 => h9, pw_ps h _ hW58⟩
  conv => whnf
  refine pw_br h (fun _ h => ?_) (fun _ h => ?_)
  · conv => whnf
    refine np_rd_i (hW3.g hi0) ?_
    conv => whnf
    refine np_rd_i (hW3.g hi0) ?_
    conv => whnf
    refine np_rd_i (hW3.g hi0) ?_
    conv => whnf
    refine np_rd_i (hW3.g rfl) ?_
    conv => whnf
    refine np_rd_i (hW3.g (pw_okd (a := 51) (n := 8) rfl rfl rfl)) ?_
    conv => whnf
    refine ⟨q, S1, (pw_dn 8 (S1 59 i0 5)), (S1 50 407 2), rfl, (pw_okd (a := 51) (n := 8) rfl rfl rfl), hW3, pw_bd h (fun S61 r64 h f62 hW63 => ?_)⟩
    conv => whnf
    refine np_rd_i (hW63.g rfl) ?_
    conv => whnf
    refine ⟨q, S61, 407, r64, rfl, rfl, hW63, pw_bd h (fun S66 r69 h f67 hW68 => ?_)⟩
    conv => whnf
    refine np_rd_i (hW68.g hi0) ?_
    conv => whnf
    refine ⟨q, S66, i0, r69, rfl, hi0, hW68, pw_bd h (fun S71 r74 h f72 hW73 => ?_)⟩
    conv => whnf
    exact ⟨Nat.le_of_ble_eq_true rfl, Nat.le_of_ble_eq_true rfl, rfl, _, fun _ _ h9 => h9, pw_ps h _ hW73⟩
  conv => whnf
  refine np_rd_i (hW3.g hi0) ?_
  conv => whnf
  refine ⟨q, S1, i0, rfl, hi0, hW3, pw_bd h (fun S76 r79 h f77 hW78 => ?_)⟩
  conv => whnf
  exact ⟨Nat.le_of_ble_eq_true rfl, Nat.le_of_ble_eq_true rfl, rfl, _, fun _ _ h9 => h9, pw_ps h _ hW78⟩
theorem dX4_goToNext_0 : decode cX4_goToNext 0 = .ok (.iconst 0, 1) := by decide +kernel
theorem dX4_goToNext_1 : decode cX4_goToNext 1 = .ok (.istore_n 1, 1) := by decide +kernel
theorem dX4_goToNext_2 : decode cX4_goToNext 2 = .ok (.iload_n 1, 1) := by decide +kernel
theorem dX4_goToNext_3 : decode cX4_goToNext 3 = .ok (.sipush 10000, 3) := by decide +kernel
theorem dX4_goToNext_6 : decode cX4_goToNext 6 = .ok (.if_icmp .ge 112, 3) := by decide +kernel
theorem dX4_goToNext_9 : decode cX4_goToNext 9 = .ok (.aload_n 0, 1) := by decide +kernel
theorem dX4_goToNext_10 : decode cX4_goToNext 10 = .ok (.getfield 64, 3) := by decide +kernel
theorem dX4_goToNext_13 : decode cX4_goToNext 13 = .ok (.ifCond .le 105, 3) := by decide +kernel
theorem dX4_goToNext_16 : decode cX4_goToNext 16 = .ok (.aload_n 0, 1) := by decide +kernel
theorem dX4_goToNext_17 : decode cX4_goToNext 17 = .ok (.getfield 53, 3) := by decide +kernel
theorem dX4_goToNext_20 : decode cX4_goToNext 20 = .ok (.ifCond .ne 98, 3) := by decide +kernel
theorem dX4_goToNext_23 : decode cX4_goToNext 23 = .ok (.aload_n 0, 1) := by decide +kernel
theorem dX4_goToNext_24 : decode cX4_goToNext 24 = .ok (.dup, 1) := by decide +kernel
theorem dX4_goToNext_25 : decode cX4_goToNext 25 = .ok (.getfield 64, 3) := by decide +kernel
theorem dX4_goToNext_28 : decode cX4_goToNext 28 = .ok (.iconst 1, 1) := by decide +kernel
theorem dX4_goToNext_29 : decode cX4_goToNext 29 = .ok (.isub, 1) := by decide +kernel
theorem dX4_goToNext_30 : decode cX4_goToNext 30 = .ok (.putfield 64, 3) := by decide +kernel
theorem dX4_goToNext_33 : decode cX4_goToNext 33 = .ok (.aload_n 0, 1) := by decide +kernel
theorem dX4_goToNext_34 : decode cX4_goToNext 34 = .ok (.aload_n 0, 1) := by decide +kernel
theorem dX4_goToNext_35 : decode cX4_goToNext 35 = .ok (.getfield 64, 3) := by decide +kernel
theorem dX4_goToNext_38 : decode cX4_goToNext 38 = .ok (.invokevirtual 57, 3) := by decide +kernel
theorem dX4_goToNext_41 : decode cX4_goToNext 41 = .ok (.astore_n 2, 1) := by decide +kernel
theorem dX4_goToNext_42 : decode cX4_goToNext 42 = .ok (.aload_n 2, 1) := by decide +kernel
theorem dX4_goToNext_43 : decode cX4_goToNext 43 = .ok (.ifnonnull 5, 3) := by decide +kernel
theorem dX4_goToNext_46 : decode cX4_goToNext 46 = .ok (.iconst 0, 1) := by decide +kernel
theorem dX4_goToNext_47 : decode cX4_goToNext 47 = .ok (.ireturn, 1) := by decide +kernel
theorem dX4_goToNext_48 : decode cX4_goToNext 48 = .ok (.aload_n 0, 1) := by decide +kernel
theorem dX4_goToNext_49 : decode cX4_goToNext 49 = .ok (.getfield 18, 3) := by decide +kernel
theorem dX4_goToNext_52 : decode cX4_goToNext 52 = .ok (.aload_n 2, 1) := by decide +kernel
theorem dX4_goToNext_53 : decode cX4_goToNext 53 = .ok (.invokevirtual 67, 3) := by decide +kernel
theorem dX4_goToNext_56 : decode cX4_goToNext 56 = .ok (.aload_n 0, 1) := by decide +kernel
theorem dX4_goToNext_57 : decode cX4_goToNext 57 = .ok (.getfield 18, 3) := by decide +kernel
theorem dX4_goToNext_60 : decode cX4_goToNext 60 = .ok (.aload_n 0, 1) := by decide +kernel
theorem dX4_goToNext_61 : decode cX4_goToNext 61 = .ok (.getfield 35, 3) := by decide +kernel
theorem dX4_goToNext_64 : decode cX4_goToNext 64 = .ok (.invokevirtual 71, 3) := by decide +kernel
theorem dX4_goToNext_67 : decode cX4_goToNext 67 = .ok (.ifCond .eq 5, 3) := by decide +kernel
theorem dX4_goToNext_70 : decode cX4_goToNext 70 = .ok (.iconst 1, 1) := by decide +kernel
theorem dX4_goToNext_71 : decode cX4_goToNext 71 = .ok (.ireturn, 1) := by decide +kernel
theorem dX4_goToNext_72 : decode cX4_goToNext 72 = .ok (.aload_n 0, 1) := by decide +kernel
theorem dX4_goToNext_73 : decode cX4_goToNext 73 = .ok (.dup, 1) := by decide +kernel
theorem dX4_goToNext_74 : decode cX4_goToNext 74 = .ok (.getfield 50, 3) := by decide +kernel
theorem dX4_goToNext_77 : decode cX4_goToNext 77 = .ok (.iconst 1, 1) := by decide +kernel
theorem dX4_goToNext_78 : decode cX4_goToNext 78 = .ok (.iadd, 1) := by decide +kernel
theorem dX4_goToNext_79 : decode cX4_goToNext 79 = .ok (.putfield 50, 3) := by decide +kernel
theorem dX4_goToNext_82 : decode cX4_goToNext 82 = .ok (.aload_n 0, 1) := by decide +kernel
theorem dX4_goToNext_83 : decode cX4_goToNext 83 = .ok (.aload_n 0, 1) := by decide +kernel
theorem dX4_goToNext_84 : decode cX4_goToNext 84 = .ok (.getfield 50, 3) := by decide +kernel
theorem dX4_goToNext_87 : decode cX4_goToNext 87 = .ok (.sipush 400, 3) := by decide +kernel
theorem dX4_goToNext_90 : decode cX4_goToNext 90 = .ok (.if_icmp .le 7, 3) := by decide +kernel
theorem dX4_goToNext_93 : decode cX4_goToNext 93 = .ok (.iconst 1, 1) := by decide +kernel
theorem dX4_goToNext_94 : decode cX4_goToNext 94 = .ok (.goto 4, 3) := by decide +kernel
theorem dX4_goToNext_97 : decode cX4_goToNext 97 = .ok (.iconst 0, 1) := by decide +kernel
theorem dX4_goToNext_98 : decode cX4_goToNext 98 = .ok (.putfield 53, 3) := by decide +kernel
theorem dX4_goToNext_101 : decode cX4_goToNext 101 = .ok (.aload_n 0, 1) := by decide +kernel
theorem dX4_goToNext_102 : decode cX4_goToNext 102 = .ok (.getfield 53, 3) := by decide +kernel
theorem dX4_goToNext_105 : decode cX4_goToNext 105 = .ok (.ifCond .ne 7, 3) := by decide +kernel
theorem dX4_goToNext_108 : decode cX4_goToNext 108 = .ok (.aload_n 0, 1) := by decide +kernel
theorem dX4_goToNext_109 : decode cX4_goToNext 109 = .ok (.invokevirtual 75, 3) := by decide +kernel
theorem dX4_goToNext_112 : decode cX4_goToNext 112 = .ok (.iinc 1 1, 3) := by decide +kernel
theorem dX4_goToNext_115 : decode cX4_goToNext 115 = .ok (.goto (-113), 3) := by decide +kernel
theorem dX4_goToNext_118 : decode cX4_goToNext 118 = .ok (.iconst 0, 1) := by decide +kernel
theorem dX4_goToNext_119 : decode cX4_goToNext 119 = .ok (.ireturn, 1) := by decide +kernel
def is_X4_goToNext (Rt : np_Rt) : List (Nat × np_Op) := [(0, np_push 1 (.int 0)), (1, nw_ist 1 1), (2, np_ild 1 1), (3, np_push 3 (.int 10000)), (6, nq_ic (fun x y => y ≤ x) 118), (9, np_ald 1 0), (10, nw_getf 4 8), (13, nq_if (fun x => x ≤ 0) 118), (16, np_ald 1 0), (17, nw_getf 4 10), (20, nq_ifne 118), (23, np_ald 1 0), (24, nq_dup), (25, nw_getf 4 8), (28, np_push 1 (.int 1)), (29, np_ib (fun x y => x - y)), (30, nw_putf 4 8 (.int)), (33, np_ald 1 0), (34, np_ald 1 0), (35, nw_getf 4 8), (38, nw_callV 4 2 sp_X4_beginningAt 2 0 0 0 0), (41, np_ast 1 2), (42, np_ald 1 2), (43, np_ifnonnull 48), (46, np_push 1 (.int 0)), (47, np_ret Rt), (48, np_ald 1 0), (49, nw_getf 4 1), (52, np_ald 1 2), (53, nw_callV 8 2 sp_X8_copyFrom 2 0 0 0 0), (56, np_ald 1 0), (57, nw_getf 4 1), (60, np_ald 1 0), (61, nw_getf 4 5), (64, nw_callV 8 2 sp_X8_isOver 2 0 0 0 0), (67, nq_if (fun x => x = 0) 72), (70, np_push 1 (.int 1)), (71, np_ret Rt), (72, np_ald 1 0), (73, nq_dup), (74, nw_getf 4 9), (77, np_push 1 (.int 1)), (78, np_ib (fun x y => x + y)), (79, nw_putf 4 9 (.int)), (82, np_ald 1 0), (83, np_ald 1 0), (84, nw_getf 4 9), (87, np_push 3 (.int 400)), (90, nq_ic (fun x y => x ≤ y) 97), (93, np_push 1 (.int 1)), (94, np_goto 98), (97, np_push 1 (.int 0)), (98, nw_putf 4 10 (.boolean)), (101, np_ald 1 0), (102, nw_getf 4 10), (105, nq_ifne 112), (108, np_ald 1 0), (109, nw_callV 4 1 sp_X4_branch 1 0 0 0 0), (112, nw_iinc 1 1), (115, np_goto 2), (118, np_push 1 (.int 0)), (119, np_ret Rt)]
set_option maxRecDepth 20000 in
theorem so_X4_goToNext {X : np_Ctx} {Rt : np_Rt} (hX : np_ok RX4 cX4_goToNext 3 6 175 0 0 .ireturn X) (hR : ∀ st w ce sl, Rt st w ce sl → X.2.2.1 st w ce sl) : ∀ q ∈ is_X4_goToNext Rt, np_S X q.1 q.2 :=
  List.forall_mem_cons.mpr ⟨np_s_iconst hX dX4_goToNext_0 (by decide), List.forall_mem_cons.mpr ⟨np_S.mono (op := np_ist 1 1) (np_s_istore_n hX dX4_goToNext_1 rfl (by decide)) nw_ist_le, List.forall_mem_cons.mpr ⟨np_s_iload_n hX dX4_goToNext_2 rfl, List.forall_mem_cons.mpr ⟨np_s_sipush hX dX4_goToNext_3 (by decide), List.forall_mem_cons.mpr ⟨np_S.mono (op := np_ic (fun x y => y ≤ x) 118) (np_s_icmp_ge hX dX4_goToNext_6 (by decide)) nq_ic_le, List.forall_mem_cons.mpr ⟨np_s_aload_n hX dX4_goToNext_9 rfl, List.forall_mem_cons.mpr ⟨np_S.mono (op := np_getf 4 8) (np_s_getf hX dX4_goToNext_10 (C := RX4) (T := TX4) (N := 11) rfl guX4 (by decide) gw231) nw_getf_le, List.forall_mem_cons.mpr ⟨np_S.mono (op := np_if (fun x => x ≤ 0) 118) (np_s_if_le hX dX4_goToNext_13 (by decide)) nq_if_le, List.forall_mem_cons.mpr ⟨np_s_aload_n hX dX4_goToNext_16 rfl, List.forall_mem_cons.mpr ⟨np_S.mono (op := np_getf 4 10) (np_s_getf hX dX4_goToNext_17 (C := RX4) (T := TX4) (N := 11) rfl guX4 (by decide) gw233) nw_getf_le, List.forall_mem_cons.mpr ⟨np_S.mono (op := np_ifne 118) (np_s_if_ne hX dX4_goToNext_20 (by decide)) nq_ifne_le, List.forall_mem_cons.mpr ⟨np_s_aload_n hX dX4_goToNext_23 rfl, List.forall_mem_cons.mpr ⟨np_S.mono (op := np_dup) (np_s_dup hX dX4_goToNext_24) nq_dup_le, List.forall_mem_cons.mpr ⟨np_S.mono (op := np_getf 4 8) (np_s_getf hX dX4_goToNext_25 (C := RX4) (T := TX4) (N := 11) rfl guX4 (by decide) gw231) nw_getf_le, List.forall_mem_cons.mpr ⟨np_s_iconst hX dX4_goToNext_28 (by decide), List.forall_mem_cons.mpr ⟨np_s_isub hX dX4_goToNext_29, List.forall_mem_cons.mpr ⟨np_S.mono (op := np_putf 4 8 (.int)) (np_s_putf hX dX4_goToNext_30 (C := RX4) (T := TX4) (N := 11) (ty0 := tyX4) rfl guX4 tyX4_ok nmX4 (by decide) gw231 rfl rfl) nw_putf_le, List.forall_mem_cons.mpr ⟨np_s_aload_n hX dX4_goToNext_33 rfl, List.forall_mem_cons.mpr ⟨np_s_aload_n hX dX4_goToNext_34 rfl, List.forall_mem_cons.mpr ⟨np_S.mono (op := np_getf 4 8) (np_s_getf hX dX4_goToNext_35 (C := RX4) (T := TX4) (N := 11) rfl guX4 (by decide) gw231) nw_getf_le, List.forall_mem_cons.mpr ⟨np_S.mono (op := np_callV 4 2 sp_X4_beginningAt 2 0 0 0 0) (np_s_callV hX C_X4_beginningAt dX4_goToNext_38 (q := (RX4, TX4, 11)) rfl rfl gw1006 gw67 gw1003 gw1005 gw19 ⟨by decide, by decide, by decide⟩ (by decide) (by decide)) nw_callV_le, List.forall_mem_cons.mpr ⟨np_s_astore_n hX dX4_goToNext_41 rfl (by decide), List.forall_mem_cons.mpr ⟨np_s_aload_n hX dX4_goToNext_42 rfl, List.forall_mem_cons.mpr ⟨np_s_ifnonnull hX dX4_goToNext_43 (by decide), List.forall_mem_cons.mpr ⟨np_s_iconst hX dX4_goToNext_46 (by decide), List.forall_mem_cons.mpr ⟨np_S.mono (op := np_ret X.2.2.1) (np_s_ret hX dX4_goToNext_47) (nq_ret_le hR), List.forall_mem_cons.mpr ⟨np_s_aload_n hX dX4_goToNext_48 rfl, List.forall_mem_cons.mpr ⟨np_S.mono (op := np_getf 4 1) (np_s_getf hX dX4_goToNext_49 (C := RX4) (T := TX4) (N := 11) rfl guX4 (by decide) gw223) nw_getf_le, List.forall_mem_cons.mpr ⟨np_s_aload_n hX dX4_goToNext_52 rfl, List.forall_mem_cons.mpr ⟨np_S.mono (op := np_callV 8 2 sp_X8_copyFrom 2 0 0 0 0) (np_s_callV hX C_X8_copyFrom dX4_goToNext_53 (q := (RX8, TX8, 9)) rfl rfl gw890 gw66 gw1012 gw888 gw889 ⟨by decide, by decide, by decide⟩ (by decide) (by decide)) nw_callV_le, List.forall_mem_cons.mpr ⟨np_s_aload_n hX dX4_goToNext_56 rfl, List.forall_mem_cons.mpr ⟨np_S.mono (op := np_getf 4 1) (np_s_getf hX dX4_goToNext_57 (C := RX4) (T := TX4) (N := 11) rfl guX4 (by decide) gw223) nw_getf_le, List.forall_mem_cons.mpr ⟨np_s_aload_n hX dX4_goToNext_60 rfl, List.forall_mem_cons.mpr ⟨np_S.mono (op := np_getf 4 5) (np_s_getf hX dX4_goToNext_61 (C := RX4) (T := TX4) (N := 11) rfl guX4 (by decide) gw228) nw_getf_le, List.forall_mem_cons.mpr ⟨np_S.mono (op := np_callV 8 2 sp_X8_isOver 2 0 0 0 0) (np_s_callV hX C_X8_isOver dX4_goToNext_64 (q := (RX8, TX8, 9)) rfl rfl gw758 gw66 gw1013 gw756 gw757 ⟨by decide, by decide, by decide⟩ (by decide) (by decide)) nw_callV_le, List.forall_mem_cons.mpr ⟨np_S.mono (op := np_if (fun x => x = 0) 72) (np_s_if_eq hX dX4_goToNext_67 (by decide)) nq_if_le, List.forall_mem_cons.mpr ⟨np_s_iconst hX dX4_goToNext_70 (by decide), List.forall_mem_cons.mpr ⟨np_S.mono (op := np_ret X.2.2.1) (np_s_ret hX dX4_goToNext_71) (nq_ret_le hR), List.forall_mem_cons.mpr ⟨np_s_aload_n hX dX4_goToNext_72 rfl, List.forall_mem_cons.mpr ⟨np_S.mono (op := np_dup) (np_s_dup hX dX4_goToNext_73) nq_dup_le, List.forall_mem_cons.mpr ⟨np_S.mono (op := np_getf 4 9) (np_s_getf hX dX4_goToNext_74 (C := RX4) (T := TX4) (N := 11) rfl guX4 (by decide) gw232) nw_getf_le, List.forall_mem_cons.mpr ⟨np_s_iconst hX dX4_goToNext_77 (by decide), List.forall_mem_cons.mpr ⟨np_s_iadd hX dX4_goToNext_78, List.forall_mem_cons.mpr ⟨np_S.mono (op := np_putf 4 9 (.int)) (np_s_putf hX dX4_goToNext_79 (C := RX4) (T := TX4) (N := 11) (ty0 := tyX4) rfl guX4 tyX4_ok nmX4 (by decide) gw232 rfl rfl) nw_putf_le, List.forall_mem_cons.mpr ⟨np_s_aload_n hX dX4_goToNext_82 rfl, List.forall_mem_cons.mpr ⟨np_s_aload_n hX dX4_goToNext_83 rfl, List.forall_mem_cons.mpr ⟨np_S.mono (op := np_getf 4 9) (np_s_getf hX dX4_goToNext_84 (C := RX4) (T := TX4) (N := 11) rfl guX4 (by decide) gw232) nw_getf_le, List.forall_mem_cons.mpr ⟨np_s_sipush hX dX4_goToNext_87 (by decide), List.forall_mem_cons.mpr ⟨np_S.mono (op := np_ic (fun x y => x ≤ y) 97) (np_s_icmp_le hX dX4_goToNext_90 (by decide)) nq_ic_le, List.forall_mem_cons.mpr ⟨np_s_iconst hX dX4_goToNext_93 (by decide), List.forall_mem_cons.mpr ⟨np_s_goto hX dX4_goToNext_94 (by decide), List.forall_mem_cons.mpr ⟨np_s_iconst hX dX4_goToNext_97 (by decide), List.forall_mem_cons.mpr ⟨np_S.mono (op := np_putf 4 10 (.boolean)) (np_s_putf hX dX4_goToNext_98 (C := RX4) (T := TX4) (N := 11) (ty0 := tyX4) rfl guX4 tyX4_ok nmX4 (by decide) gw233 rfl rfl) nw_putf_le, List.forall_mem_cons.mpr ⟨np_s_aload_n hX dX4_goToNext_101 rfl, List.forall_mem_cons.mpr ⟨np_S.mono (op := np_getf 4 10) (np_s_getf hX dX4_goToNext_102 (C := RX4) (T := TX4) (N := 11) rfl guX4 (by decide) gw233) nw_getf_le, List.forall_mem_cons.mpr ⟨np_S.mono (op := np_ifne 112) (np_s_if_ne hX dX4_goToNext_105 (by decide)) nq_ifne_le, List.forall_mem_cons.mpr ⟨np_s_aload_n hX dX4_goToNext_108 rfl, List.forall_mem_cons.mpr ⟨np_S.mono (op := np_callV 4 1 sp_X4_branch 1 0 0 0 0) (np_s_callV hX C_X4_branch dX4_goToNext_109 (q := (RX4, TX4, 11)) rfl rfl gw1017 gw67 gw1014 gw1016 gw20 ⟨by decide, by decide, by decide⟩ (by decide) (by decide)) nw_callV_le, List.forall_mem_cons.mpr ⟨np_S.mono (op := np_iinc 1 1) (np_s_iinc hX dX4_goToNext_112 (by decide)) nw_iinc_le, List.forall_mem_cons.mpr ⟨np_s_goto hX dX4_goToNext_115 (by decide), List.forall_mem_cons.mpr ⟨np_s_iconst hX dX4_goToNext_118 (by decide), List.forall_mem_cons.mpr ⟨np_S.mono (op := np_ret X.2.2.1) (np_s_ret hX dX4_goToNext_119) (nq_ret_le hR), fun _ h => nomatch h⟩⟩⟩⟩⟩⟩⟩⟩⟩⟩⟩⟩⟩⟩⟩⟩⟩⟩⟩⟩⟩⟩⟩⟩⟩⟩⟩⟩⟩⟩⟩⟩⟩⟩⟩⟩⟩⟩⟩⟩⟩⟩⟩⟩⟩⟩⟩⟩⟩⟩⟩⟩⟩⟩⟩⟩⟩⟩⟩⟩⟩⟩
noncomputable def m_X4_goToNext_2 : Nat → pw_S → Nat → Int32 → pw_R Int32
| 0, _, _, _ => none
| N + 1, S, v0, v1 =>
 if 10000 ≤ v1 then
 (some (S, 0))
 else
 (if (S 59 v0 8) ≤ 0 then
 (some (S, 0))
 else
 (if (S 59 v0 10) = 0 then
 (pw_l (pw_up S 59 v0 (upd (S 59 v0) 8 ((S 59 v0 8) - 1))) fun S1 =>
 pw_b (m_X4_beginningAt S1 v0 (S1 59 v0 8)) fun S4 r7 =>
 pw_o r7 (
 (some (S4, 0))) (fun j9 =>
 (pw_b (m_X8_copyFrom S4 407 j9) fun S10 r13 =>
 pw_b (m_X8_isOver S10 407 (pw_dn 8 (S10 59 v0 5))) fun S15 r18 =>
 if r18 = 0 then
 (pw_l (pw_up S15 59 v0 (upd (S15 59 v0) 9 ((S15 59 v0 9) + 1))) fun S20 =>
 if (S20 59 v0 9) ≤ 400 then
 (pw_l (pw_up S20 59 v0 (upd (S20 59 v0) 10 0)) fun S23 =>
 if (S23 59 v0 10) = 0 then
 (pw_b (m_X4_branch S23 v0) fun S26 r29 =>
 pw_l (v1 + 1 : Int32) fun z31 =>
 m_X4_goToNext_2 N S26 v0 z31)
 else
 (pw_l (v1 + 1 : Int32) fun z32 =>
 m_X4_goToNext_2 N S23 v0 z32))
 else
 (pw_l (pw_up S20 59 v0 (upd (S20 59 v0) 10 1)) fun S33 =>
 if (S33 59 v0 10) = 0 then
 (pw_b (m_X4_branch S33 v0) fun S36 r39 =>
 pw_l (v1 + 1 : Int32) fun z41 =>
 m_X4_goToNext_2 N S36 v0 z41)
 else
 (pw_l (v1 + 1 : Int32) fun z42 =>
 m_X4_goToNext_2 N S33 v0 z42)))
 else
 (some (S15, 1)))))
 else
 (some (S, 0))))
set_option maxRecDepth 100000 in
set_option maxHeartbeats 8000000 in
theorem L_X4_goToNext_2 {X : np_Ctx} (hX : np_ok RX4 cX4_goToNext 3 6 175 0 0 .ireturn X) {Q : Option Value → np_W → Prop} {q n : Nat} (hR : ∀ st w ce sl, np_rt (some .boolean) 0 0 Q st w ce sl → X.2.2.1 st w ce sl) : ∀ (N : Nat) (S : pw_S) (v0 : Nat) (v1 : Int32) (f : Nat → Option np_E) (hv0 : pw_ok q 59 v0 = true), pw_W q (n, f) S → pw_p (m_X4_goToNext_2 N S v0 v1) (fun S' r => ∀ f', pw_W q (n, f') S' → Q (some (.int r)) (n, f')) → np_G X 2 [(0, .ref (pw_pl 59 v0)), (1, .int v1)] [] (n, f) 0 0 := by
  intro N
  induction N with
  | zero =>
    intro S v0 v1 f hv0 hW h
    exact (pw_pn h).elim
  | succ N ih =>
    intro S v0 v1 f hv0 hW h
    unfold m_X4_goToNext_2 at h
    refine np_soundW (so_X4_goToNext hX hR) [2] 400 2 _ _ _ _ _ ?_
    conv => whnf
    refine pw_br h (fun _ h => ?_) (fun _ h => ?_)
    · conv => whnf
      exact ⟨Nat.le_of_ble_eq_true rfl, Nat.le_of_ble_eq_true rfl, ⟨_, rfl, by decide⟩, _, fun _ _ h9 => h9, pw_ps h _ hW⟩
    · conv => whnf
      refine np_rd_i (hW.g hv0) ?_
      conv => whnf
      refine pw_br h (fun _ h => ?_) (fun _ h => ?_)
      · conv => whnf
        exact ⟨Nat.le_of_ble_eq_true rfl, Nat.le_of_ble_eq_true rfl, ⟨_, rfl, by decide⟩, _, fun _ _ h9 => h9, pw_ps h _ hW⟩
      · conv => whnf
        refine np_rd_i (hW.g hv0) ?_
        conv => whnf
        refine pw_br h (fun _ h => ?_) (fun _ h => ?_)
        · conv => whnf
          refine np_rd_i (hW.g hv0) ?_
          conv => whnf
          refine np_rd_i (hW.g hv0) ?_
          conv => whnf
          refine pw_wr (a := 59) (i := v0) (d := upd (S 59 v0) 8 ((S 59 v0 8) - 1)) hW hv0 rfl h (fun S1 f2 hW3 h => ?_)
          conv => whnf
          refine np_rd_i (hW3.g hv0) ?_
          conv => whnf
          refine np_rd_i (hW3.g hv0) ?_
          conv => whnf
          refine ⟨q, S1, v0, (S1 59 v0 8), rfl, hv0, hW3, pw_bd h (fun S4 r7 h f5 hW6 ho8 => ?_)⟩
          rcases r7 with _ | j9
          · replace h := pw_on h
            conv => whnf
            exact ⟨Nat.le_of_ble_eq_true rfl, Nat.le_of_ble_eq_true rfl, ⟨_, rfl, by decide⟩, _, fun _ _ h9 => h9, pw_ps h _ hW6⟩
          · replace h := pw_os h
            replace ho8 : pw_ok q 50 j9 = true := ho8
            conv => whnf
            refine np_rd_i (hW6.g hv0) ?_
            conv => whnf
            refine np_rd_i (hW6.g rfl) ?_
            conv => whnf
            refine ⟨q, S4, 407, j9, rfl, rfl, ho8, hW6, pw_bd h (fun S10 r13 h f11 hW12 => ?_)⟩
            conv => whnf
            refine np_rd_i (hW12.g hv0) ?_
            conv => whnf
            refine np_rd_i (hW12.g hv0) ?_
            conv => whnf
            refine np_rd_i (hW12.g rfl) ?_
            conv => whnf
            refine ⟨q, S10, 407, (pw_dn 8 (S10 59 v0 5)), rfl, rfl, (pw_okd (a := 51) (n := 8) rfl rfl rfl), hW12, pw_bd h (fun S15 r18 h f16 hW17 => ?_)⟩
            conv => whnf
            refine pw_br h (fun _ h => ?_) (fun _ h => ?_)
            · conv => whnf
              refine np_rd_i (hW17.g hv0) ?_
              conv => whnf
              refine np_rd_i (hW17.g hv0) ?_
              conv => whnf
              refine pw_wr (a := 59) (i := v0) (d := upd (S15 59 v0) 9 ((S15 59 v0 9) + 1)) hW17 hv0 rfl h (fun S20 f21 hW22 h => ?_)
              conv => whnf
              refine np_rd_i (hW22.g hv0) ?_
              conv => whnf
              refine pw_br h (fun _ h => ?_) (fun _ h => ?_)
              · conv => whnf
                refine np_rd_i (hW22.g hv0) ?_
                conv => whnf
                refine pw_wr (a := 59) (i := v0) (d := upd (S20 59 v0) 10 0) hW22 hv0 rfl h (fun S23 f24 hW25 h => ?_)
                conv => whnf
                refine np_rd_i (hW25.g hv0) ?_
                conv => whnf
                refine pw_br h (fun _ h => ?_) (fun _ h => ?_)
                · conv => whnf
                  refine np_rd_i (hW25.g hv0) ?_
                  conv => whnf
                  refine ⟨q, S23, v0, rfl, hv0, hW25, pw_bd h (fun S26 r29 h f27 hW28 => ?_)⟩
                  conv => whnf
                  refine pw_st h (fun z31 h => ?_)
                  conv => whnf
                  exact np_gl (ih S26 v0 z31 f27 hv0 hW28 h) ⟨rfl, rfl, trivial⟩
                · conv => whnf
                  refine pw_st h (fun z32 h => ?_)
                  conv => whnf
                  exact np_gl (ih S23 v0 z32 f24 hv0 hW25 h) ⟨rfl, rfl, trivial⟩
              · conv => whnf
                refine np_rd_i (hW22.g hv0) ?_
                conv => whnf
                refine pw_wr (a := 59) (i := v0) (d := upd (S20 59 v0) 10 1) hW22 hv0 rfl h (fun S33 f34 hW35 h => ?_)
                conv => whnf
                refine np_rd_i (hW35.g hv0) ?_
                conv => whnf
                refine pw_br h (fun _ h => ?_) (fun _ h => ?_)
                · conv => whnf
                  refine np_rd_i (hW35.g hv0) ?_
                  conv => whnf
                  refine ⟨q, S33, v0, rfl, hv0, hW35, pw_bd h (fun S36 r39 h f37 hW38 => ?_)⟩
                  conv => whnf
                  refine pw_st h (fun z41 h => ?_)
                  conv => whnf
                  exact np_gl (ih S36 v0 z41 f37 hv0 hW38 h) ⟨rfl, rfl, trivial⟩
                · conv => whnf
                  refine pw_st h (fun z42 h => ?_)
                  conv => whnf
                  exact np_gl (ih S33 v0 z42 f34 hv0 hW35 h) ⟨rfl, rfl, trivial⟩
            · conv => whnf
              exact ⟨Nat.le_of_ble_eq_true rfl, Nat.le_of_ble_eq_true rfl, ⟨_, rfl, by decide⟩, _, fun _ _ h9 => h9, pw_ps h _ hW17⟩
        · conv => whnf
          exact ⟨Nat.le_of_ble_eq_true rfl, Nat.le_of_ble_eq_true rfl, ⟨_, rfl, by decide⟩, _, fun _ _ h9 => h9, pw_ps h _ hW⟩
noncomputable def m_X4_goToNext (S : pw_S) (i0 : Nat) : pw_R Int32 :=
 pw_l (0 : Int32) fun z43 =>
 m_X4_goToNext_2 (pw_F 20000) S i0 z43
def sp_X4_goToNext : np_Sp := fun vs w Q => ∃ (q : Nat) (S : pw_S) (i0 : Nat), vs = [.ref (pw_pl 59 i0)] ∧ pw_ok q 59 i0 = true ∧ pw_W q w S ∧ pw_p (m_X4_goToNext S i0) (fun S' r => ∀ f', pw_W q (w.1, f') S' → Q (some (.int r)) (w.1, f'))
set_option maxRecDepth 100000 in
set_option maxHeartbeats 8000000 in
theorem C_X4_goToNext : np_C yX4_goToNext cX4_goToNext 3 (some .boolean) 6 175 0 0 sp_X4_goToNext := by
  refine np_of (by decide) ?_
  intro X vs w Q hsp hX hmn hRt hlt
  obtain ⟨q, S, i0, rfl, hi0, hW, h⟩ := hsp
  obtain ⟨n, f⟩ := w
  unfold m_X4_goToNext at h
  have hR : ∀ st w ce sl, np_rt (some .boolean) 0 0 Q st w ce sl → X.2.2.1 st w ce sl := fun _ _ _ _ h => by rw [hRt]; exact h
  refine np_soundW (so_X4_goToNext hX hR) [2] 400 0 _ _ _ _ _ ?_
  conv => whnf
  refine pw_st h (fun z43 h => ?_)
  conv => whnf
  exact np_gl (L_X4_goToNext_2 hX hR (pw_F 20000) S i0 z43 f hi0 hW h) ⟨rfl, rfl, trivial⟩
