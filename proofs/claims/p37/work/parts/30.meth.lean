theorem gw17 : (Jvm.Cond.selects "NotationPress" ({ cls := "NotationPress", name := "fileOf", desc := "(I)LNotationPress$Text;" } : Jvm.MethodName) ({ cls := "NotationPress", name := "fileOf", desc := "(I)LNotationPress$Text;" } : Jvm.MethodName)) ∈ np_gw := np_gwi 17 (by decide +kernel) rfl
theorem gw124 : (Jvm.Cond.constant "NotationPress" (182 : Nat) (-2147483648 : Int32)) ∈ np_gw := np_gwi 124 (by decide +kernel) rfl
theorem gw147 : (Jvm.Cond.fieldLinkNest "NotationPress" (202 : Nat) "NotationPress$Trace" "values" "[I" "NotationPress") ∈ np_nw := np_nwi 147 (by decide +kernel) rfl
theorem gw160 : (Jvm.Cond.fieldLinkNest "NotationPress" (282 : Nat) "NotationPress$Trace" "length" "I" "NotationPress") ∈ np_nw := np_nwi 160 (by decide +kernel) rfl
theorem gw211 : (Jvm.Cond.fieldLinkNest "NotationPress" (232 : Nat) "NotationPress$Text" "length" "I" "NotationPress") ∈ np_nw := np_nwi 211 (by decide +kernel) rfl
theorem gw213 : (Jvm.Cond.fieldLinkNest "NotationPress" (246 : Nat) "NotationPress$Text" "open" "Z" "NotationPress") ∈ np_nw := np_nwi 213 (by decide +kernel) rfl
theorem gw224 : (Jvm.Cond.fieldLinkNest "NotationPress" (278 : Nat) "NotationPress$Reader" "current" "LNotationPress$Trace;" "NotationPress") ∈ np_nw := np_nwi 224 (by decide +kernel) rfl
theorem gw234 : (Jvm.Cond.fieldLinkNest "NotationPress" (265 : Nat) "NotationPress$Reader" "tooFar" "Z" "NotationPress") ∈ np_nw := np_nwi 234 (by decide +kernel) rfl
theorem gw444 : (Jvm.Cond.fieldLink "NotationPress" (28 : Nat) "NotationPress" "record" "[I") ∈ np_gw := np_gwi 444 (by decide +kernel) rfl
theorem gw445 : (Jvm.Cond.fieldLink "NotationPress" (34 : Nat) "NotationPress" "files" "[LNotationPress$Text;") ∈ np_gw := np_gwi 445 (by decide +kernel) rfl
theorem gw447 : (Jvm.Cond.fieldLink "NotationPress" (47 : Nat) "NotationPress" "printer" "LNotationPress$Printer;") ∈ np_gw := np_gwi 447 (by decide +kernel) rfl
theorem gw448 : (Jvm.Cond.fieldLink "NotationPress" (54 : Nat) "NotationPress" "reader" "LNotationPress$Reader;") ∈ np_gw := np_gwi 448 (by decide +kernel) rfl
theorem gw449 : (Jvm.Cond.fieldLink "NotationPress" (61 : Nat) "NotationPress" "sampler" "LNotationPress$Sampler;") ∈ np_gw := np_gwi 449 (by decide +kernel) rfl
theorem gw719 : (Jvm.Cond.methodLink "NotationPress" (172 : Nat) ({ cls := "NotationPress", name := "isCell", desc := "(II)Z" } : Jvm.MethodName)) ∈ np_gw := np_gwi 719 (by decide +kernel) rfl
theorem gw723 : (Jvm.Cond.methodLink "NotationPress" (178 : Nat) ({ cls := "NotationPress", name := "cellPlace", desc := "(II)I" } : Jvm.MethodName)) ∈ np_gw := np_gwi 723 (by decide +kernel) rfl
theorem gw726 : (Jvm.Cond.methodLink "NotationPress" (183 : Nat) ({ cls := "NotationPress", name := "at", desc := "([III)I" } : Jvm.MethodName)) ∈ np_gw := np_gwi 726 (by decide +kernel) rfl
theorem gw731 : (Jvm.Cond.constant "NotationPress" (195 : Nat) (1000000 : Int32)) ∈ np_gw := np_gwi 731 (by decide +kernel) rfl
theorem gw733 : (Jvm.Cond.methodLink "NotationPress" (198 : Nat) ({ cls := "NotationPress$Sampler", name := "search", desc := "(LNotationPress$Description;ILNotationPress$Printer;)LNotationPress$Trace;" } : Jvm.MethodName)) ∈ np_gw := np_gwi 733 (by decide +kernel) rfl
theorem gw734 : (Jvm.Cond.instanceMethod ({ cls := "NotationPress$Sampler", name := "search", desc := "(LNotationPress$Description;ILNotationPress$Printer;)LNotationPress$Trace;" } : Jvm.MethodName)) ∈ np_gw := np_gwi 734 (by decide +kernel) rfl
theorem gw735 : (Jvm.Cond.selects "NotationPress$Sampler" ({ cls := "NotationPress$Sampler", name := "search", desc := "(LNotationPress$Description;ILNotationPress$Printer;)LNotationPress$Trace;" } : Jvm.MethodName) ({ cls := "NotationPress$Sampler", name := "search", desc := "(LNotationPress$Description;ILNotationPress$Printer;)LNotationPress$Trace;" } : Jvm.MethodName)) ∈ np_gw := np_gwi 735 (by decide +kernel) rfl
theorem gw736 : (Jvm.Cond.code ({ cls := "NotationPress$Sampler", name := "search", desc := "(LNotationPress$Description;ILNotationPress$Printer;)LNotationPress$Trace;" } : Jvm.MethodName) prog_7_method_2_code (9 : Nat) (Option.some (Jvm.ClassFile.FieldType.object "NotationPress$Trace"))) ∈ np_gw := np_gwi 736 (by decide +kernel) rfl
theorem gw917 : (Jvm.Cond.methodLink "NotationPress" (207 : Nat) ({ cls := "NotationPress", name := "copyCells", desc := "([II[III)V" } : Jvm.MethodName)) ∈ np_gw := np_gwi 917 (by decide +kernel) rfl
theorem gw925 : (Jvm.Cond.methodLink "NotationPress" (191 : Nat) ({ cls := "NotationPress$Description", name := "firstBroken", desc := "([I)I" } : Jvm.MethodName)) ∈ np_gw := np_gwi 925 (by decide +kernel) rfl
theorem gw938 : (Jvm.Cond.methodLink "NotationPress" (211 : Nat) ({ cls := "NotationPress", name := "fileOf", desc := "(I)LNotationPress$Text;" } : Jvm.MethodName)) ∈ np_gw := np_gwi 938 (by decide +kernel) rfl
theorem gw940 : (Jvm.Cond.instanceMethod ({ cls := "NotationPress", name := "fileOf", desc := "(I)LNotationPress$Text;" } : Jvm.MethodName)) ∈ np_gw := np_gwi 940 (by decide +kernel) rfl
theorem gw941 : (Jvm.Cond.code ({ cls := "NotationPress", name := "fileOf", desc := "(I)LNotationPress$Text;" } : Jvm.MethodName) prog_1_method_37_code (2 : Nat) (Option.some (Jvm.ClassFile.FieldType.object "NotationPress$Text"))) ∈ np_gw := np_gwi 941 (by decide +kernel) rfl
theorem gw943 : (Jvm.Cond.methodLink "NotationPress" (235 : Nat) ({ cls := "NotationPress$Printer", name := "canPrint", desc := "(LNotationPress$Items;[I)Z" } : Jvm.MethodName)) ∈ np_gw := np_gwi 943 (by decide +kernel) rfl
theorem gw945 : (Jvm.Cond.methodLink "NotationPress" (241 : Nat) ({ cls := "NotationPress$Printer", name := "length", desc := "()I" } : Jvm.MethodName)) ∈ np_gw := np_gwi 945 (by decide +kernel) rfl
theorem gw946 : (Jvm.Cond.instanceMethod ({ cls := "NotationPress$Printer", name := "length", desc := "()I" } : Jvm.MethodName)) ∈ np_gw := np_gwi 946 (by decide +kernel) rfl
theorem gw947 : (Jvm.Cond.selects "NotationPress$Printer" ({ cls := "NotationPress$Printer", name := "length", desc := "()I" } : Jvm.MethodName) ({ cls := "NotationPress$Printer", name := "length", desc := "()I" } : Jvm.MethodName)) ∈ np_gw := np_gwi 947 (by decide +kernel) rfl
theorem gw948 : (Jvm.Cond.code ({ cls := "NotationPress$Printer", name := "length", desc := "()I" } : Jvm.MethodName) prog_5_method_2_code (1 : Nat) (Option.some Jvm.ClassFile.FieldType.int)) ∈ np_gw := np_gwi 948 (by decide +kernel) rfl
theorem gw949 : (Jvm.Cond.methodLink "NotationPress" (223 : Nat) ({ cls := "NotationPress$Text", name := "takes", desc := "(I)Z" } : Jvm.MethodName)) ∈ np_gw := np_gwi 949 (by decide +kernel) rfl
theorem gw950 : (Jvm.Cond.instanceMethod ({ cls := "NotationPress$Text", name := "takes", desc := "(I)Z" } : Jvm.MethodName)) ∈ np_gw := np_gwi 950 (by decide +kernel) rfl
theorem gw951 : (Jvm.Cond.selects "NotationPress$Text" ({ cls := "NotationPress$Text", name := "takes", desc := "(I)Z" } : Jvm.MethodName) ({ cls := "NotationPress$Text", name := "takes", desc := "(I)Z" } : Jvm.MethodName)) ∈ np_gw := np_gwi 951 (by decide +kernel) rfl
theorem gw952 : (Jvm.Cond.code ({ cls := "NotationPress$Text", name := "takes", desc := "(I)Z" } : Jvm.MethodName) prog_9_method_4_code (2 : Nat) (Option.some Jvm.ClassFile.FieldType.boolean)) ∈ np_gw := np_gwi 952 (by decide +kernel) rfl
theorem gw954 : (Jvm.Cond.methodLink "NotationPress" (243 : Nat) ({ cls := "NotationPress$Printer", name := "unitAt", desc := "(I)I" } : Jvm.MethodName)) ∈ np_gw := np_gwi 954 (by decide +kernel) rfl
theorem gw955 : (Jvm.Cond.instanceMethod ({ cls := "NotationPress$Printer", name := "unitAt", desc := "(I)I" } : Jvm.MethodName)) ∈ np_gw := np_gwi 955 (by decide +kernel) rfl
theorem gw956 : (Jvm.Cond.selects "NotationPress$Printer" ({ cls := "NotationPress$Printer", name := "unitAt", desc := "(I)I" } : Jvm.MethodName) ({ cls := "NotationPress$Printer", name := "unitAt", desc := "(I)I" } : Jvm.MethodName)) ∈ np_gw := np_gwi 956 (by decide +kernel) rfl
theorem gw957 : (Jvm.Cond.code ({ cls := "NotationPress$Printer", name := "unitAt", desc := "(I)I" } : Jvm.MethodName) prog_5_method_3_code (2 : Nat) (Option.some Jvm.ClassFile.FieldType.int)) ∈ np_gw := np_gwi 957 (by decide +kernel) rfl
theorem gw958 : (Jvm.Cond.methodLink "NotationPress" (228 : Nat) ({ cls := "NotationPress$Text", name := "append", desc := "(I)V" } : Jvm.MethodName)) ∈ np_gw := np_gwi 958 (by decide +kernel) rfl
theorem gw959 : (Jvm.Cond.instanceMethod ({ cls := "NotationPress$Text", name := "append", desc := "(I)V" } : Jvm.MethodName)) ∈ np_gw := np_gwi 959 (by decide +kernel) rfl
theorem gw960 : (Jvm.Cond.selects "NotationPress$Text" ({ cls := "NotationPress$Text", name := "append", desc := "(I)V" } : Jvm.MethodName) ({ cls := "NotationPress$Text", name := "append", desc := "(I)V" } : Jvm.MethodName)) ∈ np_gw := np_gwi 960 (by decide +kernel) rfl
theorem gw961 : (Jvm.Cond.code ({ cls := "NotationPress$Text", name := "append", desc := "(I)V" } : Jvm.MethodName) prog_9_method_5_code (2 : Nat) (Option.none : Option Jvm.ClassFile.FieldType)) ∈ np_gw := np_gwi 961 (by decide +kernel) rfl
theorem gw966 : (Jvm.Cond.methodLink "NotationPress" (217 : Nat) ({ cls := "NotationPress", name := "charactersIn", desc := "(I)I" } : Jvm.MethodName)) ∈ np_gw := np_gwi 966 (by decide +kernel) rfl
theorem gw967 : (Jvm.Cond.static ({ cls := "NotationPress", name := "charactersIn", desc := "(I)I" } : Jvm.MethodName)) ∈ np_gw := np_gwi 967 (by decide +kernel) rfl
theorem gw968 : (Jvm.Cond.code ({ cls := "NotationPress", name := "charactersIn", desc := "(I)I" } : Jvm.MethodName) prog_1_method_52_code (4 : Nat) (Option.some Jvm.ClassFile.FieldType.int)) ∈ np_gw := np_gwi 968 (by decide +kernel) rfl
theorem gw999 : (Jvm.Cond.methodLink "NotationPress" (258 : Nat) ({ cls := "NotationPress$Reader", name := "begin", desc := "(LNotationPress$Items;LNotationPress$Text;I)V" } : Jvm.MethodName)) ∈ np_gw := np_gwi 999 (by decide +kernel) rfl
theorem gw1000 : (Jvm.Cond.instanceMethod ({ cls := "NotationPress$Reader", name := "begin", desc := "(LNotationPress$Items;LNotationPress$Text;I)V" } : Jvm.MethodName)) ∈ np_gw := np_gwi 1000 (by decide +kernel) rfl
theorem gw1001 : (Jvm.Cond.selects "NotationPress$Reader" ({ cls := "NotationPress$Reader", name := "begin", desc := "(LNotationPress$Items;LNotationPress$Text;I)V" } : Jvm.MethodName) ({ cls := "NotationPress$Reader", name := "begin", desc := "(LNotationPress$Items;LNotationPress$Text;I)V" } : Jvm.MethodName)) ∈ np_gw := np_gwi 1001 (by decide +kernel) rfl
theorem gw1002 : (Jvm.Cond.code ({ cls := "NotationPress$Reader", name := "begin", desc := "(LNotationPress$Items;LNotationPress$Text;I)V" } : Jvm.MethodName) prog_6_method_2_code (5 : Nat) (Option.none : Option Jvm.ClassFile.FieldType)) ∈ np_gw := np_gwi 1002 (by decide +kernel) rfl
theorem gw1008 : (Jvm.Cond.methodLink "NotationPress" (262 : Nat) ({ cls := "NotationPress$Reader", name := "goToNext", desc := "()Z" } : Jvm.MethodName)) ∈ np_gw := np_gwi 1008 (by decide +kernel) rfl
theorem gw1009 : (Jvm.Cond.instanceMethod ({ cls := "NotationPress$Reader", name := "goToNext", desc := "()Z" } : Jvm.MethodName)) ∈ np_gw := np_gwi 1009 (by decide +kernel) rfl
theorem gw1010 : (Jvm.Cond.selects "NotationPress$Reader" ({ cls := "NotationPress$Reader", name := "goToNext", desc := "()Z" } : Jvm.MethodName) ({ cls := "NotationPress$Reader", name := "goToNext", desc := "()Z" } : Jvm.MethodName)) ∈ np_gw := np_gwi 1010 (by decide +kernel) rfl
theorem gw1011 : (Jvm.Cond.code ({ cls := "NotationPress$Reader", name := "goToNext", desc := "()Z" } : Jvm.MethodName) prog_6_method_3_code (3 : Nat) (Option.some Jvm.ClassFile.FieldType.boolean)) ∈ np_gw := np_gwi 1011 (by decide +kernel) rfl
theorem gw1097 : (Jvm.Cond.methodLink "NotationPress" (268 : Nat) ({ cls := "java/lang/Math", name := "min", desc := "(II)I" } : Jvm.MethodName)) ∈ np_gw := np_gwi 1097 (by decide +kernel) rfl
theorem gw1098 : (Jvm.Cond.static ({ cls := "java/lang/Math", name := "min", desc := "(II)I" } : Jvm.MethodName)) ∈ np_gw := np_gwi 1098 (by decide +kernel) rfl
theorem gw1099 : (Jvm.Cond.code ({ cls := "java/lang/Math", name := "min", desc := "(II)I" } : Jvm.MethodName) prog_19_method_69_code (2 : Nat) (Option.some Jvm.ClassFile.FieldType.int)) ∈ np_gw := np_gwi 1099 (by decide +kernel) rfl
theorem gw1135 : (Jvm.Cond.methodLink "NotationPress" (253 : Nat) ({ cls := "NotationPress$Text", name := "hasPlace", desc := "(I)Z" } : Jvm.MethodName)) ∈ np_gw := np_gwi 1135 (by decide +kernel) rfl
theorem gw1136 : (Jvm.Cond.instanceMethod ({ cls := "NotationPress$Text", name := "hasPlace", desc := "(I)Z" } : Jvm.MethodName)) ∈ np_gw := np_gwi 1136 (by decide +kernel) rfl
theorem gw1137 : (Jvm.Cond.selects "NotationPress$Text" ({ cls := "NotationPress$Text", name := "hasPlace", desc := "(I)Z" } : Jvm.MethodName) ({ cls := "NotationPress$Text", name := "hasPlace", desc := "(I)Z" } : Jvm.MethodName)) ∈ np_gw := np_gwi 1137 (by decide +kernel) rfl
theorem gw1138 : (Jvm.Cond.code ({ cls := "NotationPress$Text", name := "hasPlace", desc := "(I)Z" } : Jvm.MethodName) prog_9_method_2_code (2 : Nat) (Option.some Jvm.ClassFile.FieldType.boolean)) ∈ np_gw := np_gwi 1138 (by decide +kernel) rfl
theorem gw1182 : (Jvm.Cond.methodLink "NotationPress" (250 : Nat) ({ cls := "NotationPress$Text", name := "unitAt", desc := "(I)I" } : Jvm.MethodName)) ∈ np_gw := np_gwi 1182 (by decide +kernel) rfl
theorem gw1197 : (Jvm.Cond.methodLink "NotationPress" (273 : Nat) ({ cls := "NotationPress$Reader", name := "countItemByItem", desc := "()I" } : Jvm.MethodName)) ∈ np_gw := np_gwi 1197 (by decide +kernel) rfl
theorem gw1198 : (Jvm.Cond.instanceMethod ({ cls := "NotationPress$Reader", name := "countItemByItem", desc := "()I" } : Jvm.MethodName)) ∈ np_gw := np_gwi 1198 (by decide +kernel) rfl
theorem gw1199 : (Jvm.Cond.selects "NotationPress$Reader" ({ cls := "NotationPress$Reader", name := "countItemByItem", desc := "()I" } : Jvm.MethodName) ({ cls := "NotationPress$Reader", name := "countItemByItem", desc := "()I" } : Jvm.MethodName)) ∈ np_gw := np_gwi 1199 (by decide +kernel) rfl
theorem gw1200 : (Jvm.Cond.code ({ cls := "NotationPress$Reader", name := "countItemByItem", desc := "()I" } : Jvm.MethodName) prog_6_method_4_code (6 : Nat) (Option.some Jvm.ClassFile.FieldType.int)) ∈ np_gw := np_gwi 1200 (by decide +kernel) rfl
theorem gw1347 : (Jvm.Cond.methodLink "NotationPress" (187 : Nat) ({ cls := "NotationPress", name := "put", desc := "([III)V" } : Jvm.MethodName)) ∈ np_gw := np_gwi 1347 (by decide +kernel) rfl
theorem sw722 : (Jvm.Cond.stringRef "NotationPress" (176 : Nat) "no such slot or round") ∈ lw_tbl := List.mem_of_getElem? (i := 722) (by decide +kernel)
theorem sw732 : (Jvm.Cond.stringRef "NotationPress" (196 : Nat) "no such seed") ∈ lw_tbl := List.mem_of_getElem? (i := 732) (by decide +kernel)
theorem sw942 : (Jvm.Cond.stringRef "NotationPress" (215 : Nat) "no such file") ∈ lw_tbl := List.mem_of_getElem? (i := 942) (by decide +kernel)
theorem sw944 : (Jvm.Cond.stringRef "NotationPress" (239 : Nat) "no record to be printed") ∈ lw_tbl := List.mem_of_getElem? (i := 944) (by decide +kernel)
theorem sw953 : (Jvm.Cond.stringRef "NotationPress" (226 : Nat) "the file takes no more") ∈ lw_tbl := List.mem_of_getElem? (i := 953) (by decide +kernel)
theorem sw969 : (Jvm.Cond.stringRef "NotationPress" (221 : Nat) "no such characters") ∈ lw_tbl := List.mem_of_getElem? (i := 969) (by decide +kernel)
theorem sw1139 : (Jvm.Cond.stringRef "NotationPress" (256 : Nat) "no such file or place") ∈ lw_tbl := List.mem_of_getElem? (i := 1139) (by decide +kernel)
theorem sw1140 : (Jvm.Cond.stringRef "NotationPress" (276 : Nat) "no such reading") ∈ lw_tbl := List.mem_of_getElem? (i := 1140) (by decide +kernel)
theorem sw1183 : (Jvm.Cond.stringRef "NotationPress" (251 : Nat) "no such unit") ∈ lw_tbl := List.mem_of_getElem? (i := 1183) (by decide +kernel)
theorem dX11_set_0 : decode cX11_set 0 = .ok (.iload_n 1, 1) := by decide +kernel
theorem dX11_set_1 : decode cX11_set 1 = .ok (.iload_n 2, 1) := by decide +kernel
theorem dX11_set_2 : decode cX11_set 2 = .ok (.invokestatic 172, 3) := by decide +kernel
theorem dX11_set_5 : decode cX11_set 5 = .ok (.ifCond .ne 13, 3) := by decide +kernel
theorem dX11_set_8 : decode cX11_set 8 = .ok (.new 96, 3) := by decide +kernel
theorem dX11_set_11 : decode cX11_set 11 = .ok (.dup, 1) := by decide +kernel
theorem dX11_set_12 : decode cX11_set 12 = .ok (.ldc 176, 2) := by decide +kernel
theorem dX11_set_14 : decode cX11_set 14 = .ok (.invokespecial 100, 3) := by decide +kernel
theorem dX11_set_17 : decode cX11_set 17 = .ok (.athrow, 1) := by decide +kernel
theorem dX11_set_18 : decode cX11_set 18 = .ok (.aload_n 0, 1) := by decide +kernel
theorem dX11_set_19 : decode cX11_set 19 = .ok (.getfield 28, 3) := by decide +kernel
theorem dX11_set_22 : decode cX11_set 22 = .ok (.iload_n 1, 1) := by decide +kernel
theorem dX11_set_23 : decode cX11_set 23 = .ok (.iload_n 2, 1) := by decide +kernel
theorem dX11_set_24 : decode cX11_set 24 = .ok (.invokestatic 178, 3) := by decide +kernel
theorem dX11_set_27 : decode cX11_set 27 = .ok (.ldc 182, 2) := by decide +kernel
theorem dX11_set_29 : decode cX11_set 29 = .ok (.invokestatic 183, 3) := by decide +kernel
theorem dX11_set_32 : decode cX11_set 32 = .ok (.istore 4, 2) := by decide +kernel
theorem dX11_set_34 : decode cX11_set 34 = .ok (.aload_n 0, 1) := by decide +kernel
theorem dX11_set_35 : decode cX11_set 35 = .ok (.getfield 28, 3) := by decide +kernel
theorem dX11_set_38 : decode cX11_set 38 = .ok (.iload_n 1, 1) := by decide +kernel
theorem dX11_set_39 : decode cX11_set 39 = .ok (.iload_n 2, 1) := by decide +kernel
theorem dX11_set_40 : decode cX11_set 40 = .ok (.invokestatic 178, 3) := by decide +kernel
theorem dX11_set_43 : decode cX11_set 43 = .ok (.iload_n 3, 1) := by decide +kernel
theorem dX11_set_44 : decode cX11_set 44 = .ok (.invokestatic 187, 3) := by decide +kernel
theorem dX11_set_47 : decode cX11_set 47 = .ok (.iload 4, 2) := by decide +kernel
theorem dX11_set_49 : decode cX11_set 49 = .ok (.ireturn, 1) := by decide +kernel
def is_X11_set (Rt : np_Rt) (Th : np_Th) : List (Nat × np_Op) := [(0, np_ild 1 1), (1, np_ild 1 2), (2, nq_call 2 sp_X11_isCell 2 0 0 1 6), (5, nq_ifne 18), (8, nq_throw Th 0), (18, np_ald 1 0), (19, nw_getf 11 3), (22, np_ild 1 1), (23, np_ild 1 2), (24, nq_call 2 sp_X11_cellPlace 2 0 0 1 6), (27, np_push 2 (.int (-2147483648))), (29, nq_call 3 sp_X11_at 3 0 0 1 6), (32, nw_ist 2 4), (34, np_ald 1 0), (35, nw_getf 11 3), (38, np_ild 1 1), (39, np_ild 1 2), (40, nq_call 2 sp_X11_cellPlace 2 0 0 1 6), (43, np_ild 1 3), (44, nq_call 3 sp_X11_put 3 0 0 1 6), (47, np_ild 2 4), (49, np_ret Rt)]
set_option maxRecDepth 20000 in
theorem so_X11_set {X : np_Ctx} {Rt : np_Rt} {Th : np_Th} (hX : np_ok RX11 cX11_set 5 6 100 1 6 .ireturn X) (hR : ∀ st w ce sl, Rt st w ce sl → X.2.2.1 st w ce sl) (hT : ∀ i w ce sl, Th i w ce sl → X.2.2.2 i w ce sl) : ∀ q ∈ is_X11_set Rt Th, np_S X q.1 q.2 :=
  List.forall_mem_cons.mpr ⟨np_s_iload_n hX dX11_set_0 rfl, List.forall_mem_cons.mpr ⟨np_s_iload_n hX dX11_set_1 rfl, List.forall_mem_cons.mpr ⟨np_S.mono (op := np_call 2 sp_X11_isCell 2 0 0 1 6) (np_s_callS hX C_X11_isCell dX11_set_2 gw721 gw63 gw719 gw720 ⟨by decide, by decide, by decide⟩ (by decide) (by decide)) nq_call_le, List.forall_mem_cons.mpr ⟨np_S.mono (op := np_ifne 18) (np_s_if_ne hX dX11_set_5 (by decide)) nq_ifne_le, List.forall_mem_cons.mpr ⟨np_S.mono (op := np_throw X.2.2.2 0) (np_s_throw hX ⟨96, 176, 100, _, gw516, gw78, sw722, twX11_100, toX11_100_96, Or.inl ⟨dX11_set_8, dX11_set_11, dX11_set_12, dX11_set_14, dX11_set_17⟩⟩) (nq_throw_le hT), List.forall_mem_cons.mpr ⟨np_s_aload_n hX dX11_set_18 rfl, List.forall_mem_cons.mpr ⟨np_S.mono (op := np_getf 11 3) (np_s_getf hX dX11_set_19 (C := RX11) (T := TX11) (N := 14) rfl guX11 (by decide) gw444) nw_getf_le, List.forall_mem_cons.mpr ⟨np_s_iload_n hX dX11_set_22 rfl, List.forall_mem_cons.mpr ⟨np_s_iload_n hX dX11_set_23 rfl, List.forall_mem_cons.mpr ⟨np_S.mono (op := np_call 2 sp_X11_cellPlace 2 0 0 1 6) (np_s_callS hX C_X11_cellPlace dX11_set_24 gw725 gw63 gw723 gw724 ⟨by decide, by decide, by decide⟩ (by decide) (by decide)) nq_call_le, List.forall_mem_cons.mpr ⟨np_s_ldc hX dX11_set_27 gw124, List.forall_mem_cons.mpr ⟨np_S.mono (op := np_call 3 sp_X11_at 3 0 0 1 6) (np_s_callS hX C_X11_at dX11_set_29 gw653 gw63 gw726 gw652 ⟨by decide, by decide, by decide⟩ (by decide) (by decide)) nq_call_le, List.forall_mem_cons.mpr ⟨np_S.mono (op := np_ist 2 4) (np_s_istore hX dX11_set_32 (by decide)) nw_ist_le, List.forall_mem_cons.mpr ⟨np_s_aload_n hX dX11_set_34 rfl, List.forall_mem_cons.mpr ⟨np_S.mono (op := np_getf 11 3) (np_s_getf hX dX11_set_35 (C := RX11) (T := TX11) (N := 14) rfl guX11 (by decide) gw444) nw_getf_le, List.forall_mem_cons.mpr ⟨np_s_iload_n hX dX11_set_38 rfl, List.forall_mem_cons.mpr ⟨np_s_iload_n hX dX11_set_39 rfl, List.forall_mem_cons.mpr ⟨np_S.mono (op := np_call 2 sp_X11_cellPlace 2 0 0 1 6) (np_s_callS hX C_X11_cellPlace dX11_set_40 gw725 gw63 gw723 gw724 ⟨by decide, by decide, by decide⟩ (by decide) (by decide)) nq_call_le, List.forall_mem_cons.mpr ⟨np_s_iload_n hX dX11_set_43 rfl, List.forall_mem_cons.mpr ⟨np_S.mono (op := np_call 3 sp_X11_put 3 0 0 1 6) (np_s_callS hX C_X11_put dX11_set_44 gw632 gw63 gw1347 gw631 ⟨by decide, by decide, by decide⟩ (by decide) (by decide)) nq_call_le, List.forall_mem_cons.mpr ⟨np_s_iload hX dX11_set_47, List.forall_mem_cons.mpr ⟨np_S.mono (op := np_ret X.2.2.1) (np_s_ret hX dX11_set_49) (nq_ret_le hR), fun _ h => nomatch h⟩⟩⟩⟩⟩⟩⟩⟩⟩⟩⟩⟩⟩⟩⟩⟩⟩⟩⟩⟩⟩⟩
noncomputable def m_X11_set (S : pw_S) (i0 : Nat) (x1 : Int32) (x2 : Int32) (x3 : Int32) : pw_R (Int32 ⊕ Nat) :=
 pw_b (m_X11_isCell S x1 x2) fun S1 r4 =>
 if r4 = 0 then
 (some (S1, .inr 0))
 else
 (pw_b (m_X11_cellPlace S1 x1 x2) fun S6 r9 =>
 pw_b (m_X11_at S6 35 0 r9 (-2147483648)) fun S11 r14 =>
 pw_l (r14 : Int32) fun z16 =>
 pw_b (m_X11_cellPlace S11 x1 x2) fun S17 r20 =>
 pw_b (m_X11_put S17 35 0 r20 x3) fun S22 r25 =>
 some (S22, .inl z16))
def sp_X11_set : np_SpX := fun vs w Q QX => ∃ (q : Nat) (S : pw_S) (i0 : Nat) (x1 : Int32) (x2 : Int32) (x3 : Int32), vs = [.ref (pw_pl 61 i0), .int x1, .int x2, .int x3] ∧ pw_ok q 61 i0 = true ∧ pw_W q w S ∧ pw_p (m_X11_set S i0 x1 x2 x3) (fun S' rx => ∀ f', pw_W q (w.1, f') S' → match rx with | .inl r => Q (some (.int r)) (w.1, f') | .inr e => QX e (w.1, f'))
set_option maxRecDepth 100000 in
set_option maxHeartbeats 8000000 in
theorem C_X11_set : np_CX yX11_set cX11_set 5 (some .int) 6 100 1 6 sp_X11_set := by
  refine np_ofX (by decide) (by decide) (by decide) ?_
  intro X vs w Q QX hsp hX hmn hRt hTh
  obtain ⟨q, S, i0, x1, x2, x3, rfl, hi0, hW, h⟩ := hsp
  obtain ⟨n, f⟩ := w
  unfold m_X11_set at h
  have hR : ∀ st w ce sl, np_rq (some .int) 1 6 Q st w ce sl → X.2.2.1 st w ce sl := fun _ _ _ _ h => by rw [hRt]; exact h
  have hT : ∀ i w ce sl, np_thq 1 6 QX i w ce sl → X.2.2.2 i w ce sl := fun _ _ _ _ h => by rw [hTh]; exact h
  refine np_soundW (so_X11_set hX hR hT) [] 400 0 _ _ _ _ _ ?_
  conv => whnf
  refine ⟨q, S, x1, x2, rfl, hW, pw_bd h (fun S1 r4 h f2 hW3 => ?_)⟩
  conv => whnf
  refine pw_br h (fun _ h => ?_) (fun _ h => ?_)
  · conv => whnf
    exact ⟨Nat.le_of_ble_eq_true rfl, Nat.le_of_ble_eq_true rfl, pw_ps h _ hW3⟩
  · conv => whnf
    refine np_rd_i (hW3.g hi0) ?_
    conv => whnf
    refine ⟨q, S1, x1, x2, rfl, hW3, pw_bd h (fun S6 r9 h f7 hW8 => ?_)⟩
    conv => whnf
    refine ⟨q, S6, 35, 0, r9, (-2147483648), rfl, rfl, rfl, hW8, pw_bd h (fun S11 r14 h f12 hW13 => ?_)⟩
    conv => whnf
    refine pw_st h (fun z16 h => ?_)
    conv => whnf
    refine np_rd_i (hW13.g hi0) ?_
    conv => whnf
    refine ⟨q, S11, x1, x2, rfl, hW13, pw_bd h (fun S17 r20 h f18 hW19 => ?_)⟩
    conv => whnf
    refine ⟨q, S17, 35, 0, r20, x3, rfl, rfl, rfl, hW19, pw_bd h (fun S22 r25 h f23 hW24 => ?_)⟩
    conv => whnf
    exact ⟨Nat.le_of_ble_eq_true rfl, Nat.le_of_ble_eq_true rfl, trivial, pw_ps h _ hW24⟩
theorem dX11_get_0 : decode cX11_get 0 = .ok (.iload_n 1, 1) := by decide +kernel
theorem dX11_get_1 : decode cX11_get 1 = .ok (.iload_n 2, 1) := by decide +kernel
theorem dX11_get_2 : decode cX11_get 2 = .ok (.invokestatic 172, 3) := by decide +kernel
theorem dX11_get_5 : decode cX11_get 5 = .ok (.ifCond .ne 13, 3) := by decide +kernel
theorem dX11_get_8 : decode cX11_get 8 = .ok (.new 96, 3) := by decide +kernel
theorem dX11_get_11 : decode cX11_get 11 = .ok (.dup, 1) := by decide +kernel
theorem dX11_get_12 : decode cX11_get 12 = .ok (.ldc 176, 2) := by decide +kernel
theorem dX11_get_14 : decode cX11_get 14 = .ok (.invokespecial 100, 3) := by decide +kernel
theorem dX11_get_17 : decode cX11_get 17 = .ok (.athrow, 1) := by decide +kernel
theorem dX11_get_18 : decode cX11_get 18 = .ok (.aload_n 0, 1) := by decide +kernel
theorem dX11_get_19 : decode cX11_get 19 = .ok (.getfield 28, 3) := by decide +kernel
theorem dX11_get_22 : decode cX11_get 22 = .ok (.iload_n 1, 1) := by decide +kernel
theorem dX11_get_23 : decode cX11_get 23 = .ok (.iload_n 2, 1) := by decide +kernel
theorem dX11_get_24 : decode cX11_get 24 = .ok (.invokestatic 178, 3) := by decide +kernel
theorem dX11_get_27 : decode cX11_get 27 = .ok (.ldc 182, 2) := by decide +kernel
theorem dX11_get_29 : decode cX11_get 29 = .ok (.invokestatic 183, 3) := by decide +kernel
theorem dX11_get_32 : decode cX11_get 32 = .ok (.ireturn, 1) := by decide +kernel
def is_X11_get (Rt : np_Rt) (Th : np_Th) : List (Nat × np_Op) := [(0, np_ild 1 1), (1, np_ild 1 2), (2, nq_call 2 sp_X11_isCell 2 0 0 1 6), (5, nq_ifne 18), (8, nq_throw Th 0), (18, np_ald 1 0), (19, nw_getf 11 3), (22, np_ild 1 1), (23, np_ild 1 2), (24, nq_call 2 sp_X11_cellPlace 2 0 0 1 6), (27, np_push 2 (.int (-2147483648))), (29, nq_call 3 sp_X11_at 3 0 0 1 6), (32, np_ret Rt)]
set_option maxRecDepth 20000 in
theorem so_X11_get {X : np_Ctx} {Rt : np_Rt} {Th : np_Th} (hX : np_ok RX11 cX11_get 3 6 100 1 6 .ireturn X) (hR : ∀ st w ce sl, Rt st w ce sl → X.2.2.1 st w ce sl) (hT : ∀ i w ce sl, Th i w ce sl → X.2.2.2 i w ce sl) : ∀ q ∈ is_X11_get Rt Th, np_S X q.1 q.2 :=
  List.forall_mem_cons.mpr ⟨np_s_iload_n hX dX11_get_0 rfl, List.forall_mem_cons.mpr ⟨np_s_iload_n hX dX11_get_1 rfl, List.forall_mem_cons.mpr ⟨np_S.mono (op := np_call 2 sp_X11_isCell 2 0 0 1 6) (np_s_callS hX C_X11_isCell dX11_get_2 gw721 gw63 gw719 gw720 ⟨by decide, by decide, by decide⟩ (by decide) (by decide)) nq_call_le, List.forall_mem_cons.mpr ⟨np_S.mono (op := np_ifne 18) (np_s_if_ne hX dX11_get_5 (by decide)) nq_ifne_le, List.forall_mem_cons.mpr ⟨np_S.mono (op := np_throw X.2.2.2 0) (np_s_throw hX ⟨96, 176, 100, _, gw516, gw78, sw722, twX11_100, toX11_100_96, Or.inl ⟨dX11_get_8, dX11_get_11, dX11_get_12, dX11_get_14, dX11_get_17⟩⟩) (nq_throw_le hT), List.forall_mem_cons.mpr ⟨np_s_aload_n hX dX11_get_18 rfl, List.forall_mem_cons.mpr ⟨np_S.mono (op := np_getf 11 3) (np_s_getf hX dX11_get_19 (C := RX11) (T := TX11) (N := 14) rfl guX11 (by decide) gw444) nw_getf_le, List.forall_mem_cons.mpr ⟨np_s_iload_n hX dX11_get_22 rfl, List.forall_mem_cons.mpr ⟨np_s_iload_n hX dX11_get_23 rfl, List.forall_mem_cons.mpr ⟨np_S.mono (op := np_call 2 sp_X11_cellPlace 2 0 0 1 6) (np_s_callS hX C_X11_cellPlace dX11_get_24 gw725 gw63 gw723 gw724 ⟨by decide, by decide, by decide⟩ (by decide) (by decide)) nq_call_le, List.forall_mem_cons.mpr ⟨np_s_ldc hX dX11_get_27 gw124, List.forall_mem_cons.mpr ⟨np_S.mono (op := np_call 3 sp_X11_at 3 0 0 1 6) (np_s_callS hX C_X11_at dX11_get_29 gw653 gw63 gw726 gw652 ⟨by decide, by decide, by decide⟩ (by decide) (by decide)) nq_call_le, List.forall_mem_cons.mpr ⟨np_S.mono (op := np_ret X.2.2.1) (np_s_ret hX dX11_get_32) (nq_ret_le hR), fun _ h => nomatch h⟩⟩⟩⟩⟩⟩⟩⟩⟩⟩⟩⟩⟩
noncomputable def m_X11_get (S : pw_S) (i0 : Nat) (x1 : Int32) (x2 : Int32) : pw_R (Int32 ⊕ Nat) :=
 pw_b (m_X11_isCell S x1 x2) fun S1 r4 =>
 if r4 = 0 then
 (some (S1, .inr 0))
 else
 (pw_b (m_X11_cellPlace S1 x1 x2) fun S6 r9 =>
 pw_b (m_X11_at S6 35 0 r9 (-2147483648)) fun S11 r14 =>
 some (S11, .inl r14))
def sp_X11_get : np_SpX := fun vs w Q QX => ∃ (q : Nat) (S : pw_S) (i0 : Nat) (x1 : Int32) (x2 : Int32), vs = [.ref (pw_pl 61 i0), .int x1, .int x2] ∧ pw_ok q 61 i0 = true ∧ pw_W q w S ∧ pw_p (m_X11_get S i0 x1 x2) (fun S' rx => ∀ f', pw_W q (w.1, f') S' → match rx with | .inl r => Q (some (.int r)) (w.1, f') | .inr e => QX e (w.1, f'))
set_option maxRecDepth 100000 in
set_option maxHeartbeats 8000000 in
theorem C_X11_get : np_CX yX11_get cX11_get 3 (some .int) 6 100 1 6 sp_X11_get := by
  refine np_ofX (by decide) (by decide) (by decide) ?_
  intro X vs w Q QX hsp hX hmn hRt hTh
  obtain ⟨q, S, i0, x1, x2, rfl, hi0, hW, h⟩ := hsp
  obtain ⟨n, f⟩ := w
  unfold m_X11_get at h
  have hR : ∀ st w ce sl, np_rq (some .int) 1 6 Q st w ce sl → X.2.2.1 st w ce sl := fun _ _ _ _ h => by rw [hRt]; exact h
  have hT : ∀ i w ce sl, np_thq 1 6 QX i w ce sl → X.2.2.2 i w ce sl := fun _ _ _ _ h => by rw [hTh]; exact h
  refine np_soundW (so_X11_get hX hR hT) [] 400 0 _ _ _ _ _ ?_
  conv => whnf
  refine ⟨q, S, x1, x2, rfl, hW, pw_bd h (fun S1 r4 h f2 hW3 => ?_)⟩
  conv => whnf
  refine pw_br h (fun _ h => ?_) (fun _ h => ?_)
  · conv => whnf
    exact ⟨Nat.le_of_ble_eq_true rfl, Nat.le_of_ble_eq_true rfl, pw_ps h _ hW3⟩
  · conv => whnf
    refine np_rd_i (hW3.g hi0) ?_
    conv => whnf
    refine ⟨q, S1, x1, x2, rfl, hW3, pw_bd h (fun S6 r9 h f7 hW8 => ?_)⟩
    conv => whnf
    refine ⟨q, S6, 35, 0, r9, (-2147483648), rfl, rfl, rfl, hW8, pw_bd h (fun S11 r14 h f12 hW13 => ?_)⟩
    conv => whnf
    exact ⟨Nat.le_of_ble_eq_true rfl, Nat.le_of_ble_eq_true rfl, trivial, pw_ps h _ hW13⟩
theorem dX11_message_0 : decode cX11_message 0 = .ok (.aload_n 0, 1) := by decide +kernel
theorem dX11_message_1 : decode cX11_message 1 = .ok (.iload_n 1, 1) := by decide +kernel
theorem dX11_message_2 : decode cX11_message 2 = .ok (.invokevirtual 147, 3) := by decide +kernel
theorem dX11_message_5 : decode cX11_message 5 = .ok (.astore_n 2, 1) := by decide +kernel
theorem dX11_message_6 : decode cX11_message 6 = .ok (.aload_n 2, 1) := by decide +kernel
theorem dX11_message_7 : decode cX11_message 7 = .ok (.ifnonnull 13, 3) := by decide +kernel
theorem dX11_message_10 : decode cX11_message 10 = .ok (.new 96, 3) := by decide +kernel
theorem dX11_message_13 : decode cX11_message 13 = .ok (.dup, 1) := by decide +kernel
theorem dX11_message_14 : decode cX11_message 14 = .ok (.ldc 151, 2) := by decide +kernel
theorem dX11_message_16 : decode cX11_message 16 = .ok (.invokespecial 100, 3) := by decide +kernel
theorem dX11_message_19 : decode cX11_message 19 = .ok (.athrow, 1) := by decide +kernel
theorem dX11_message_20 : decode cX11_message 20 = .ok (.aload_n 2, 1) := by decide +kernel
theorem dX11_message_21 : decode cX11_message 21 = .ok (.aload_n 0, 1) := by decide +kernel
theorem dX11_message_22 : decode cX11_message 22 = .ok (.getfield 28, 3) := by decide +kernel
theorem dX11_message_25 : decode cX11_message 25 = .ok (.invokevirtual 191, 3) := by decide +kernel
theorem dX11_message_28 : decode cX11_message 28 = .ok (.ireturn, 1) := by decide +kernel
def is_X11_message (Rt : np_Rt) (Th : np_Th) : List (Nat × np_Op) := [(0, np_ald 1 0), (1, np_ild 1 1), (2, nw_callV 11 2 sp_X11_descriptionOf 3 0 0 1 6), (5, np_ast 1 2), (6, np_ald 1 2), (7, np_ifnonnull 20), (10, nq_throw Th 0), (20, np_ald 1 2), (21, np_ald 1 0), (22, nw_getf 11 3), (25, nw_callV 1 2 sp_X1_firstBroken 3 0 0 1 6), (28, np_ret Rt)]
set_option maxRecDepth 20000 in
theorem so_X11_message {X : np_Ctx} {Rt : np_Rt} {Th : np_Th} (hX : np_ok RX11 cX11_message 3 6 100 1 6 .ireturn X) (hR : ∀ st w ce sl, Rt st w ce sl → X.2.2.1 st w ce sl) (hT : ∀ i w ce sl, Th i w ce sl → X.2.2.2 i w ce sl) : ∀ q ∈ is_X11_message Rt Th, np_S X q.1 q.2 :=
  List.forall_mem_cons.mpr ⟨np_s_aload_n hX dX11_message_0 rfl, List.forall_mem_cons.mpr ⟨np_s_iload_n hX dX11_message_1 rfl, List.forall_mem_cons.mpr ⟨np_S.mono (op := np_callV 11 2 sp_X11_descriptionOf 3 0 0 1 6) (np_s_callV hX C_X11_descriptionOf dX11_message_2 (q := (RX11, TX11, 14)) rfl rfl gw699 gw63 gw696 gw698 gw3 ⟨by decide, by decide, by decide⟩ (by decide) (by decide)) nw_callV_le, List.forall_mem_cons.mpr ⟨np_s_astore_n hX dX11_message_5 rfl (by decide), List.forall_mem_cons.mpr ⟨np_s_aload_n hX dX11_message_6 rfl, List.forall_mem_cons.mpr ⟨np_s_ifnonnull hX dX11_message_7 (by decide), List.forall_mem_cons.mpr ⟨np_S.mono (op := np_throw X.2.2.2 0) (np_s_throw hX ⟨96, 151, 100, _, gw516, gw78, sw700, twX11_100, toX11_100_96, Or.inl ⟨dX11_message_10, dX11_message_13, dX11_message_14, dX11_message_16, dX11_message_19⟩⟩) (nq_throw_le hT), List.forall_mem_cons.mpr ⟨np_s_aload_n hX dX11_message_20 rfl, List.forall_mem_cons.mpr ⟨np_s_aload_n hX dX11_message_21 rfl, List.forall_mem_cons.mpr ⟨np_S.mono (op := np_getf 11 3) (np_s_getf hX dX11_message_22 (C := RX11) (T := TX11) (N := 14) rfl guX11 (by decide) gw444) nw_getf_le, List.forall_mem_cons.mpr ⟨np_S.mono (op := np_callV 1 2 sp_X1_firstBroken 3 0 0 1 6) (np_s_callV hX C_X1_firstBroken dX11_message_25 (q := (RX1, TX1, 7)) rfl rfl gw902 gw71 gw925 gw900 gw901 ⟨by decide, by decide, by decide⟩ (by decide) (by decide)) nw_callV_le, List.forall_mem_cons.mpr ⟨np_S.mono (op := np_ret X.2.2.1) (np_s_ret hX dX11_message_28) (nq_ret_le hR), fun _ h => nomatch h⟩⟩⟩⟩⟩⟩⟩⟩⟩⟩⟩⟩
noncomputable def m_X11_message (S : pw_S) (i0 : Nat) (x1 : Int32) : pw_R (Int32 ⊕ Nat) :=
 pw_b (m_X11_descriptionOf S i0 x1) fun S1 r4 =>
 pw_o r4 (
 (some (S1, .inr 0))) (fun j6 =>
 (pw_b (m_X1_firstBroken S1 j6 35 0) fun S7 r10 =>
 some (S7, .inl r10)))
def sp_X11_message : np_SpX := fun vs w Q QX => ∃ (q : Nat) (S : pw_S) (i0 : Nat) (x1 : Int32), vs = [.ref (pw_pl 61 i0), .int x1] ∧ pw_ok q 61 i0 = true ∧ pw_W q w S ∧ pw_p (m_X11_message S i0 x1) (fun S' rx => ∀ f', pw_W q (w.1, f') S' → match rx with | .inl r => Q (some (.int r)) (w.1, f') | .inr e => QX e (w.1, f'))
set_option maxRecDepth 100000 in
set_option maxHeartbeats 8000000 in
theorem C_X11_message : np_CX yX11_message cX11_message 3 (some .int) 6 100 1 6 sp_X11_message := by
  refine np_ofX (by decide) (by decide) (by decide) ?_
  intro X vs w Q QX hsp hX hmn hRt hTh
  obtain ⟨q, S, i0, x1, rfl, hi0, hW, h⟩ := hsp
  obtain ⟨n, f⟩ := w
  unfold m_X11_message at h
  have hR : ∀ st w ce sl, np_rq (some .int) 1 6 Q st w ce sl → X.2.2.1 st w ce sl := fun _ _ _ _ h => by rw [hRt]; exact h
  have hT : ∀ i w ce sl, np_thq 1 6 QX i w ce sl → X.2.2.2 i w ce sl := fun _ _ _ _ h => by rw [hTh]; exact h
  refine np_soundW (so_X11_message hX hR hT) [] 400 0 _ _ _ _ _ ?_
  conv => whnf
  refine np_rd_i (hW.g hi0) ?_
  conv => whnf
  refine ⟨q, S, i0, x1, rfl, hi0, hW, pw_bd h (fun S1 r4 h f2 hW3 ho5 => ?_)⟩
  rcases r4 with _ | j6
  · replace h := pw_on h
    conv => whnf
    exact ⟨Nat.le_of_ble_eq_true rfl, Nat.le_of_ble_eq_true rfl, pw_ps h _ hW3⟩
  · replace h := pw_os h
    replace ho5 : pw_ok q 52 j6 = true := ho5
    conv => whnf
    refine np_rd_i (hW3.g hi0) ?_
    conv => whnf
    refine np_rd_i (hW3.g ho5) ?_
    conv => whnf
    refine ⟨q, S1, j6, 35, 0, rfl, ho5, rfl, rfl, hW3, pw_bd h (fun S7 r10 h f8 hW9 => ?_)⟩
    conv => whnf
    exact ⟨Nat.le_of_ble_eq_true rfl, Nat.le_of_ble_eq_true rfl, trivial, pw_ps h _ hW9⟩
theorem dX11_sample_0 : decode cX11_sample 0 = .ok (.aload_n 0, 1) := by decide +kernel
theorem dX11_sample_1 : decode cX11_sample 1 = .ok (.iload_n 1, 1) := by decide +kernel
theorem dX11_sample_2 : decode cX11_sample 2 = .ok (.invokevirtual 147, 3) := by decide +kernel
theorem dX11_sample_5 : decode cX11_sample 5 = .ok (.astore_n 3, 1) := by decide +kernel
theorem dX11_sample_6 : decode cX11_sample 6 = .ok (.aload_n 3, 1) := by decide +kernel
theorem dX11_sample_7 : decode cX11_sample 7 = .ok (.ifnonnull 13, 3) := by decide +kernel
theorem dX11_sample_10 : decode cX11_sample 10 = .ok (.new 96, 3) := by decide +kernel
theorem dX11_sample_13 : decode cX11_sample 13 = .ok (.dup, 1) := by decide +kernel
theorem dX11_sample_14 : decode cX11_sample 14 = .ok (.ldc 151, 2) := by decide +kernel
theorem dX11_sample_16 : decode cX11_sample 16 = .ok (.invokespecial 100, 3) := by decide +kernel
theorem dX11_sample_19 : decode cX11_sample 19 = .ok (.athrow, 1) := by decide +kernel
theorem dX11_sample_20 : decode cX11_sample 20 = .ok (.iload_n 2, 1) := by decide +kernel
theorem dX11_sample_21 : decode cX11_sample 21 = .ok (.ifCond .lt 9, 3) := by decide +kernel
theorem dX11_sample_24 : decode cX11_sample 24 = .ok (.iload_n 2, 1) := by decide +kernel
theorem dX11_sample_25 : decode cX11_sample 25 = .ok (.ldc 195, 2) := by decide +kernel
theorem dX11_sample_27 : decode cX11_sample 27 = .ok (.if_icmp .le 13, 3) := by decide +kernel
theorem dX11_sample_30 : decode cX11_sample 30 = .ok (.new 107, 3) := by decide +kernel
theorem dX11_sample_33 : decode cX11_sample 33 = .ok (.dup, 1) := by decide +kernel
theorem dX11_sample_34 : decode cX11_sample 34 = .ok (.ldc 196, 2) := by decide +kernel
theorem dX11_sample_36 : decode cX11_sample 36 = .ok (.invokespecial 111, 3) := by decide +kernel
theorem dX11_sample_39 : decode cX11_sample 39 = .ok (.athrow, 1) := by decide +kernel
theorem dX11_sample_40 : decode cX11_sample 40 = .ok (.aload_n 0, 1) := by decide +kernel
theorem dX11_sample_41 : decode cX11_sample 41 = .ok (.getfield 61, 3) := by decide +kernel
theorem dX11_sample_44 : decode cX11_sample 44 = .ok (.aload_n 3, 1) := by decide +kernel
theorem dX11_sample_45 : decode cX11_sample 45 = .ok (.iload_n 2, 1) := by decide +kernel
theorem dX11_sample_46 : decode cX11_sample 46 = .ok (.aload_n 0, 1) := by decide +kernel
theorem dX11_sample_47 : decode cX11_sample 47 = .ok (.getfield 47, 3) := by decide +kernel
theorem dX11_sample_50 : decode cX11_sample 50 = .ok (.invokevirtual 198, 3) := by decide +kernel
theorem dX11_sample_53 : decode cX11_sample 53 = .ok (.astore 4, 2) := by decide +kernel
theorem dX11_sample_55 : decode cX11_sample 55 = .ok (.aload 4, 2) := by decide +kernel
theorem dX11_sample_57 : decode cX11_sample 57 = .ok (.ifnonnull 5, 3) := by decide +kernel
theorem dX11_sample_60 : decode cX11_sample 60 = .ok (.iconst 0, 1) := by decide +kernel
theorem dX11_sample_61 : decode cX11_sample 61 = .ok (.ireturn, 1) := by decide +kernel
theorem dX11_sample_62 : decode cX11_sample 62 = .ok (.aload 4, 2) := by decide +kernel
theorem dX11_sample_64 : decode cX11_sample 64 = .ok (.getfield 202, 3) := by decide +kernel
theorem dX11_sample_67 : decode cX11_sample 67 = .ok (.iconst 0, 1) := by decide +kernel
theorem dX11_sample_68 : decode cX11_sample 68 = .ok (.aload_n 0, 1) := by decide +kernel
theorem dX11_sample_69 : decode cX11_sample 69 = .ok (.getfield 28, 3) := by decide +kernel
theorem dX11_sample_72 : decode cX11_sample 72 = .ok (.iconst 0, 1) := by decide +kernel
theorem dX11_sample_73 : decode cX11_sample 73 = .ok (.bipush 24, 2) := by decide +kernel
theorem dX11_sample_75 : decode cX11_sample 75 = .ok (.invokestatic 207, 3) := by decide +kernel
theorem dX11_sample_78 : decode cX11_sample 78 = .ok (.iconst 1, 1) := by decide +kernel
theorem dX11_sample_79 : decode cX11_sample 79 = .ok (.ireturn, 1) := by decide +kernel
def is_X11_sample (Rt : np_Rt) (Th : np_Th) : List (Nat × np_Op) := [(0, np_ald 1 0), (1, np_ild 1 1), (2, nw_callV 11 2 sp_X11_descriptionOf 3 0 0 1 6), (5, np_ast 1 3), (6, np_ald 1 3), (7, np_ifnonnull 20), (10, nq_throw Th 0), (20, np_ild 1 2), (21, nq_if (fun x => x < 0) 30), (24, np_ild 1 2), (25, np_push 2 (.int 1000000)), (27, nq_ic (fun x y => x ≤ y) 40), (30, nq_throw Th 1), (40, np_ald 1 0), (41, nw_getf 11 8), (44, np_ald 1 3), (45, np_ild 1 2), (46, np_ald 1 0), (47, nw_getf 11 6), (50, nw_callV 5 4 sp_X5_search 9 0 0 1 6), (53, np_ast 2 4), (55, np_ald 2 4), (57, np_ifnonnull 62), (60, np_push 1 (.int 0)), (61, np_ret Rt), (62, np_ald 2 4), (64, nw_getf 8 0), (67, np_push 1 (.int 0)), (68, np_ald 1 0), (69, nw_getf 11 3), (72, np_push 1 (.int 0)), (73, np_push 2 (.int 24)), (75, nq_call 5 sp_X11_copyCells 5 0 0 1 6), (78, np_push 1 (.int 1)), (79, np_ret Rt)]
set_option maxRecDepth 20000 in
theorem so_X11_sample {X : np_Ctx} {Rt : np_Rt} {Th : np_Th} (hX : np_ok RX11 cX11_sample 5 7 166 1 6 .ireturn X) (hR : ∀ st w ce sl, Rt st w ce sl → X.2.2.1 st w ce sl) (hT : ∀ i w ce sl, Th i w ce sl → X.2.2.2 i w ce sl) : ∀ q ∈ is_X11_sample Rt Th, np_S X q.1 q.2 :=
  List.forall_mem_cons.mpr ⟨np_s_aload_n hX dX11_sample_0 rfl, List.forall_mem_cons.mpr ⟨np_s_iload_n hX dX11_sample_1 rfl, List.forall_mem_cons.mpr ⟨np_S.mono (op := np_callV 11 2 sp_X11_descriptionOf 3 0 0 1 6) (np_s_callV hX C_X11_descriptionOf dX11_sample_2 (q := (RX11, TX11, 14)) rfl rfl gw699 gw63 gw696 gw698 gw3 ⟨by decide, by decide, by decide⟩ (by decide) (by decide)) nw_callV_le, List.forall_mem_cons.mpr ⟨np_s_astore_n hX dX11_sample_5 rfl (by decide), List.forall_mem_cons.mpr ⟨np_s_aload_n hX dX11_sample_6 rfl, List.forall_mem_cons.mpr ⟨np_s_ifnonnull hX dX11_sample_7 (by decide), List.forall_mem_cons.mpr ⟨np_S.mono (op := np_throw X.2.2.2 0) (np_s_throw hX ⟨96, 151, 100, _, gw516, gw78, sw700, twX11_100, toX11_100_96, Or.inl ⟨dX11_sample_10, dX11_sample_13, dX11_sample_14, dX11_sample_16, dX11_sample_19⟩⟩) (nq_throw_le hT), List.forall_mem_cons.mpr ⟨np_s_iload_n hX dX11_sample_20 rfl, List.forall_mem_cons.mpr ⟨np_S.mono (op := np_if (fun x => x < 0) 30) (np_s_if_lt hX dX11_sample_21 (by decide)) nq_if_le, List.forall_mem_cons.mpr ⟨np_s_iload_n hX dX11_sample_24 rfl, List.forall_mem_cons.mpr ⟨np_s_ldc hX dX11_sample_25 gw731, List.forall_mem_cons.mpr ⟨np_S.mono (op := np_ic (fun x y => x ≤ y) 40) (np_s_icmp_le hX dX11_sample_27 (by decide)) nq_ic_le, List.forall_mem_cons.mpr ⟨np_S.mono (op := np_throw X.2.2.2 1) (np_s_throw hX ⟨107, 196, 111, _, gw590, gw79, sw732, twX11_111, toX11_111_107, Or.inl ⟨dX11_sample_30, dX11_sample_33, dX11_sample_34, dX11_sample_36, dX11_sample_39⟩⟩) (nq_throw_le hT), List.forall_mem_cons.mpr ⟨np_s_aload_n hX dX11_sample_40 rfl, List.forall_mem_cons.mpr ⟨np_S.mono (op := np_getf 11 8) (np_s_getf hX dX11_sample_41 (C := RX11) (T := TX11) (N := 14) rfl guX11 (by decide) gw449) nw_getf_le, List.forall_mem_cons.mpr ⟨np_s_aload_n hX dX11_sample_44 rfl, List.forall_mem_cons.mpr ⟨np_s_iload_n hX dX11_sample_45 rfl, List.forall_mem_cons.mpr ⟨np_s_aload_n hX dX11_sample_46 rfl, List.forall_mem_cons.mpr ⟨np_S.mono (op := np_getf 11 6) (np_s_getf hX dX11_sample_47 (C := RX11) (T := TX11) (N := 14) rfl guX11 (by decide) gw447) nw_getf_le, List.forall_mem_cons.mpr ⟨np_S.mono (op := np_callV 5 4 sp_X5_search 9 0 0 1 6) (np_s_callV hX C_X5_search dX11_sample_50 (q := (RX5, TX5, 5)) rfl rfl gw736 gw69 gw733 gw734 gw735 ⟨by decide, by decide, by decide⟩ (by decide) (by decide)) nw_callV_le, List.forall_mem_cons.mpr ⟨np_s_astore hX dX11_sample_53 (by decide), List.forall_mem_cons.mpr ⟨np_s_aload hX dX11_sample_55, List.forall_mem_cons.mpr ⟨np_s_ifnonnull hX dX11_sample_57 (by decide), List.forall_mem_cons.mpr ⟨np_s_iconst hX dX11_sample_60 (by decide), List.forall_mem_cons.mpr ⟨np_S.mono (op := np_ret X.2.2.1) (np_s_ret hX dX11_sample_61) (nq_ret_le hR), List.forall_mem_cons.mpr ⟨np_s_aload hX dX11_sample_62, List.forall_mem_cons.mpr ⟨np_S.mono (op := np_getf 8 0) (np_s_getN hX dX11_sample_64 (C := RX8) (T := TX8) (N := 9) rfl guX8 (by decide) gw147) nw_getf_le, List.forall_mem_cons.mpr ⟨np_s_iconst hX dX11_sample_67 (by decide), List.forall_mem_cons.mpr ⟨np_s_aload_n hX dX11_sample_68 rfl, List.forall_mem_cons.mpr ⟨np_S.mono (op := np_getf 11 3) (np_s_getf hX dX11_sample_69 (C := RX11) (T := TX11) (N := 14) rfl guX11 (by decide) gw444) nw_getf_le, List.forall_mem_cons.mpr ⟨np_s_iconst hX dX11_sample_72 (by decide), List.forall_mem_cons.mpr ⟨np_s_bipush hX dX11_sample_73 (by decide), List.forall_mem_cons.mpr ⟨np_S.mono (op := np_call 5 sp_X11_copyCells 5 0 0 1 6) (np_s_callS hX C_X11_copyCells dX11_sample_75 gw893 gw63 gw917 gw892 ⟨by decide, by decide, by decide⟩ (by decide) (by decide)) nq_call_le, List.forall_mem_cons.mpr ⟨np_s_iconst hX dX11_sample_78 (by decide), List.forall_mem_cons.mpr ⟨np_S.mono (op := np_ret X.2.2.1) (np_s_ret hX dX11_sample_79) (nq_ret_le hR), fun _ h => nomatch h⟩⟩⟩⟩⟩⟩⟩⟩⟩⟩⟩⟩⟩⟩⟩⟩⟩⟩⟩⟩⟩⟩⟩⟩⟩⟩⟩⟩⟩⟩⟩⟩⟩⟩⟩
noncomputable def m_X11_sample (S : pw_S) (i0 : Nat) (x1 : Int32) (x2 : Int32) : pw_R (Int32 ⊕ Nat) :=
 pw_b (m_X11_descriptionOf S i0 x1) fun S1 r4 =>
 pw_o r4 (
 (some (S1, .inr 0))) (fun j6 =>
 (if x2 < 0 then
 (some (S1, .inr 1))
 else
 (if x2 ≤ 1000000 then
 (pw_b (m_X5_search S1 0 j6 x2 0) fun S7 r10 =>
 pw_o r10 (
 (some (S7, .inl 0))) (fun j12 =>
 (pw_b (m_X11_copyCells S7 0 j12 0 35 0 0 24) fun S13 r16 =>
 some (S13, .inl 1))))
 else
 (some (S1, .inr 1)))))
def sp_X11_sample : np_SpX := fun vs w Q QX => ∃ (q : Nat) (S : pw_S) (i0 : Nat) (x1 : Int32) (x2 : Int32), vs = [.ref (pw_pl 61 i0), .int x1, .int x2] ∧ pw_ok q 61 i0 = true ∧ pw_W q w S ∧ pw_p (m_X11_sample S i0 x1 x2) (fun S' rx => ∀ f', pw_W q (w.1, f') S' → match rx with | .inl r => Q (some (.int r)) (w.1, f') | .inr e => QX e (w.1, f'))
set_option maxRecDepth 100000 in
set_option maxHeartbeats 8000000 in
theorem C_X11_sample : np_CX yX11_sample cX11_sample 5 (some .boolean) 7 166 1 6 sp_X11_sample := by
  refine np_ofX (by decide) (by decide) (by decide) ?_
  intro X vs w Q QX hsp hX hmn hRt hTh
  obtain ⟨q, S, i0, x1, x2, rfl, hi0, hW, h⟩ := hsp
  obtain ⟨n, f⟩ := w
  unfold m_X11_sample at h
  have hR : ∀ st w ce sl, np_rq (some .boolean) 1 6 Q st w ce sl → X.2.2.1 st w ce sl := fun _ _ _ _ h => by rw [hRt]; exact h
  have hT : ∀ i w ce sl, np_thq 1 6 QX i w ce sl → X.2.2.2 i w ce sl := fun _ _ _ _ h => by rw [hTh]; exact h
  refine np_soundW (so_X11_sample hX hR hT) [] 400 0 _ _ _ _ _ ?_
  conv => whnf
  refine np_rd_i (hW.g hi0) ?_
  conv => whnf
  refine ⟨q, S, i0, x1, rfl, hi0, hW, pw_bd h (fun S1 r4 h f2 hW3 ho5 => ?_)⟩
  rcases r4 with _ | j6
  · replace h := pw_on h
    conv => whnf
    exact ⟨Nat.le_of_ble_eq_true rfl, Nat.le_of_ble_eq_true rfl, pw_ps h _ hW3⟩
  · replace h := pw_os h
    replace ho5 : pw_ok q 52 j6 = true := ho5
    conv => whnf
    refine pw_br h (fun _ h => ?_) (fun _ h => ?_)
    · conv => whnf
      exact ⟨Nat.le_of_ble_eq_true rfl, Nat.le_of_ble_eq_true rfl, pw_ps h _ hW3⟩
    · conv => whnf
      refine pw_br h (fun _ h => ?_) (fun _ h => ?_)
      · conv => whnf
        refine np_rd_i (hW3.g hi0) ?_
        conv => whnf
        refine np_rd_i (hW3.g hi0) ?_
        conv => whnf
        refine np_rd_i (hW3.g rfl) ?_
        conv => whnf
        refine ⟨q, S1, 0, j6, x2, 0, rfl, rfl, ho5, rfl, hW3, pw_bd h (fun S7 r10 h f8 hW9 ho11 => ?_)⟩
        rcases r10 with _ | j12
        · replace h := pw_on h
          conv => whnf
          exact ⟨Nat.le_of_ble_eq_true rfl, Nat.le_of_ble_eq_true rfl, rfl, pw_ps h _ hW9⟩
        · replace h := pw_os h
          replace ho11 : pw_ok q 50 j12 = true := ho11
          conv => whnf
          refine np_rd_i (hW9.g ho11) ?_
          conv => whnf
          refine np_rd_i (hW9.g hi0) ?_
          conv => whnf
          refine ⟨q, S7, 0, j12, 0, 35, 0, 0, 24, rfl, rfl, ho11, rfl, rfl, hW9, pw_bd h (fun S13 r16 h f14 hW15 => ?_)⟩
          conv => whnf
          exact ⟨Nat.le_of_ble_eq_true rfl, Nat.le_of_ble_eq_true rfl, rfl, pw_ps h _ hW15⟩
      · conv => whnf
        exact ⟨Nat.le_of_ble_eq_true rfl, Nat.le_of_ble_eq_true rfl, pw_ps h _ hW3⟩
theorem dX11_fileOf_0 : decode cX11_fileOf 0 = .ok (.iload_n 1, 1) := by decide +kernel
theorem dX11_fileOf_1 : decode cX11_fileOf 1 = .ok (.ifCond .lt 21, 3) := by decide +kernel
theorem dX11_fileOf_4 : decode cX11_fileOf 4 = .ok (.iload_n 1, 1) := by decide +kernel
theorem dX11_fileOf_5 : decode cX11_fileOf 5 = .ok (.aload_n 0, 1) := by decide +kernel
theorem dX11_fileOf_6 : decode cX11_fileOf 6 = .ok (.getfield 34, 3) := by decide +kernel
theorem dX11_fileOf_9 : decode cX11_fileOf 9 = .ok (.arraylength, 1) := by decide +kernel
theorem dX11_fileOf_10 : decode cX11_fileOf 10 = .ok (.if_icmp .ge 12, 3) := by decide +kernel
theorem dX11_fileOf_13 : decode cX11_fileOf 13 = .ok (.aload_n 0, 1) := by decide +kernel
theorem dX11_fileOf_14 : decode cX11_fileOf 14 = .ok (.getfield 34, 3) := by decide +kernel
theorem dX11_fileOf_17 : decode cX11_fileOf 17 = .ok (.iload_n 1, 1) := by decide +kernel
theorem dX11_fileOf_18 : decode cX11_fileOf 18 = .ok (.aaload, 1) := by decide +kernel
theorem dX11_fileOf_19 : decode cX11_fileOf 19 = .ok (.goto 4, 3) := by decide +kernel
theorem dX11_fileOf_22 : decode cX11_fileOf 22 = .ok (.aconst_null, 1) := by decide +kernel
theorem dX11_fileOf_23 : decode cX11_fileOf 23 = .ok (.areturn, 1) := by decide +kernel
def is_X11_fileOf (Rt : np_Rt) : List (Nat × np_Op) := [(0, np_ild 1 1), (1, nq_if (fun x => x < 0) 22), (4, np_ild 1 1), (5, np_ald 1 0), (6, nw_getf 11 4), (9, nw_alen), (10, nq_ic (fun x y => y ≤ x) 22), (13, np_ald 1 0), (14, nw_getf 11 4), (17, np_ild 1 1), (18, nw_aald "NotationPress$Text"), (19, np_goto 23), (22, np_push 1 .null), (23, np_ret Rt)]
set_option maxRecDepth 20000 in
theorem so_X11_fileOf {X : np_Ctx} {Rt : np_Rt} (hX : np_ok RX11 cX11_fileOf 2 0 0 0 0 .areturn X) (hR : ∀ st w ce sl, Rt st w ce sl → X.2.2.1 st w ce sl) : ∀ q ∈ is_X11_fileOf Rt, np_S X q.1 q.2 :=
  List.forall_mem_cons.mpr ⟨np_s_iload_n hX dX11_fileOf_0 rfl, List.forall_mem_cons.mpr ⟨np_S.mono (op := np_if (fun x => x < 0) 22) (np_s_if_lt hX dX11_fileOf_1 (by decide)) nq_if_le, List.forall_mem_cons.mpr ⟨np_s_iload_n hX dX11_fileOf_4 rfl, List.forall_mem_cons.mpr ⟨np_s_aload_n hX dX11_fileOf_5 rfl, List.forall_mem_cons.mpr ⟨np_S.mono (op := np_getf 11 4) (np_s_getf hX dX11_fileOf_6 (C := RX11) (T := TX11) (N := 14) rfl guX11 (by decide) gw445) nw_getf_le, List.forall_mem_cons.mpr ⟨np_S.mono (op := np_alen) (np_s_alen hX dX11_fileOf_9) nw_alen_le, List.forall_mem_cons.mpr ⟨np_S.mono (op := np_ic (fun x y => y ≤ x) 22) (np_s_icmp_ge hX dX11_fileOf_10 (by decide)) nq_ic_le, List.forall_mem_cons.mpr ⟨np_s_aload_n hX dX11_fileOf_13 rfl, List.forall_mem_cons.mpr ⟨np_S.mono (op := np_getf 11 4) (np_s_getf hX dX11_fileOf_14 (C := RX11) (T := TX11) (N := 14) rfl guX11 (by decide) gw445) nw_getf_le, List.forall_mem_cons.mpr ⟨np_s_iload_n hX dX11_fileOf_17 rfl, List.forall_mem_cons.mpr ⟨np_S.mono (op := np_aald "NotationPress$Text") (np_s_aald hX dX11_fileOf_18) nw_aald_le, List.forall_mem_cons.mpr ⟨np_s_goto hX dX11_fileOf_19 (by decide), List.forall_mem_cons.mpr ⟨np_s_null hX dX11_fileOf_22, List.forall_mem_cons.mpr ⟨np_S.mono (op := np_ret X.2.2.1) (np_s_ret hX dX11_fileOf_23) (nq_ret_le hR), fun _ h => nomatch h⟩⟩⟩⟩⟩⟩⟩⟩⟩⟩⟩⟩⟩⟩
noncomputable def m_X11_fileOf (S : pw_S) (i0 : Nat) (x1 : Int32) : pw_R (Option Nat) :=
 if x1 < 0 then
 (some (S, none))
 else
 (if 2 ≤ x1 then
 (some (S, none))
 else
 (pw_c (np_inb x1 2) <|
 some (S, some (pw_dn 2 x1))))
def sp_X11_fileOf : np_Sp := fun vs w Q => ∃ (q : Nat) (S : pw_S) (i0 : Nat) (x1 : Int32), vs = [.ref (pw_pl 61 i0), .int x1] ∧ pw_ok q 61 i0 = true ∧ pw_W q w S ∧ pw_p (m_X11_fileOf S i0 x1) (fun S' r => ∀ f', pw_W q (w.1, f') S' → pw_oo q 53 r = true → Q (some (pw_v 53 r)) (w.1, f'))
set_option maxRecDepth 100000 in
set_option maxHeartbeats 8000000 in
theorem C_X11_fileOf : np_C yX11_fileOf cX11_fileOf 2 (some (.object "NotationPress$Text")) 0 0 0 0 sp_X11_fileOf := by
  refine np_of (by decide) ?_
  intro X vs w Q hsp hX hmn hRt hlt
  obtain ⟨q, S, i0, x1, rfl, hi0, hW, h⟩ := hsp
  obtain ⟨n, f⟩ := w
  unfold m_X11_fileOf at h
  have hR : ∀ st w ce sl, np_rt (some (.object "NotationPress$Text")) 0 0 Q st w ce sl → X.2.2.1 st w ce sl := fun _ _ _ _ h => by rw [hRt]; exact h
  refine np_soundW (so_X11_fileOf hX hR) [] 400 0 _ _ _ _ _ ?_
  conv => whnf
  refine pw_br h (fun _ h => ?_) (fun _ h => ?_)
  · conv => whnf
    exact ⟨Nat.le_of_ble_eq_true rfl, Nat.le_of_ble_eq_true rfl, Or.inl rfl, _, fun _ _ h9 => h9, pw_ps h _ hW rfl⟩
  · conv => whnf
    refine np_rd_i (hW.g hi0) ?_
    conv => whnf
    refine np_rd_i (hW.g rfl) ?_
    conv => whnf
    refine pw_br h (fun _ h => ?_) (fun _ h => ?_)
    · conv => whnf
      exact ⟨Nat.le_of_ble_eq_true rfl, Nat.le_of_ble_eq_true rfl, Or.inl rfl, _, fun _ _ h9 => h9, pw_ps h _ hW rfl⟩
    · conv => whnf
      refine np_rd_i (hW.g hi0) ?_
      conv => whnf
      refine np_rd_i (hW.g rfl) ?_
      conv => whnf
      refine ⟨rfl, ?_⟩
      conv => whnf
      refine pw_ck h (fun hb1 h => ?_)
      conv => whnf
      exact ⟨Nat.le_of_ble_eq_true rfl, Nat.le_of_ble_eq_true rfl, Or.inr ⟨_, rfl⟩, _, fun _ _ h9 => h9, pw_ps h _ hW (pw_okd (a := 53) (n := 2) rfl rfl rfl)⟩
theorem dX11_charactersIn_0 : decode cX11_charactersIn 0 = .ok (.iconst 0, 1) := by decide +kernel
theorem dX11_charactersIn_1 : decode cX11_charactersIn 1 = .ok (.istore_n 1, 1) := by decide +kernel
theorem dX11_charactersIn_2 : decode cX11_charactersIn 2 = .ok (.iload_n 0, 1) := by decide +kernel
theorem dX11_charactersIn_3 : decode cX11_charactersIn 3 = .ok (.istore_n 2, 1) := by decide +kernel
theorem dX11_charactersIn_4 : decode cX11_charactersIn 4 = .ok (.iload_n 2, 1) := by decide +kernel
theorem dX11_charactersIn_5 : decode cX11_charactersIn 5 = .ok (.ifCond .eq 44, 3) := by decide +kernel
theorem dX11_charactersIn_8 : decode cX11_charactersIn 8 = .ok (.iload_n 1, 1) := by decide +kernel
theorem dX11_charactersIn_9 : decode cX11_charactersIn 9 = .ok (.iconst 4, 1) := by decide +kernel
theorem dX11_charactersIn_10 : decode cX11_charactersIn 10 = .ok (.if_icmp .ge 39, 3) := by decide +kernel
theorem dX11_charactersIn_13 : decode cX11_charactersIn 13 = .ok (.iload_n 2, 1) := by decide +kernel
theorem dX11_charactersIn_14 : decode cX11_charactersIn 14 = .ok (.sipush 255, 3) := by decide +kernel
theorem dX11_charactersIn_17 : decode cX11_charactersIn 17 = .ok (.iand, 1) := by decide +kernel
theorem dX11_charactersIn_18 : decode cX11_charactersIn 18 = .ok (.istore_n 3, 1) := by decide +kernel
theorem dX11_charactersIn_19 : decode cX11_charactersIn 19 = .ok (.iload_n 3, 1) := by decide +kernel
theorem dX11_charactersIn_20 : decode cX11_charactersIn 20 = .ok (.bipush 10, 2) := by decide +kernel
theorem dX11_charactersIn_22 : decode cX11_charactersIn 22 = .ok (.if_icmp .eq 16, 3) := by decide +kernel
theorem dX11_charactersIn_25 : decode cX11_charactersIn 25 = .ok (.iload_n 3, 1) := by decide +kernel
theorem dX11_charactersIn_26 : decode cX11_charactersIn 26 = .ok (.bipush 32, 2) := by decide +kernel
theorem dX11_charactersIn_28 : decode cX11_charactersIn 28 = .ok (.bipush 126, 2) := by decide +kernel
theorem dX11_charactersIn_30 : decode cX11_charactersIn 30 = .ok (.invokestatic 440, 3) := by decide +kernel
theorem dX11_charactersIn_33 : decode cX11_charactersIn 33 = .ok (.ifCond .ne 5, 3) := by decide +kernel
theorem dX11_charactersIn_36 : decode cX11_charactersIn 36 = .ok (.iconst 0, 1) := by decide +kernel
theorem dX11_charactersIn_37 : decode cX11_charactersIn 37 = .ok (.ireturn, 1) := by decide +kernel
theorem dX11_charactersIn_38 : decode cX11_charactersIn 38 = .ok (.iinc 1 1, 3) := by decide +kernel
theorem dX11_charactersIn_41 : decode cX11_charactersIn 41 = .ok (.iload_n 2, 1) := by decide +kernel
theorem dX11_charactersIn_42 : decode cX11_charactersIn 42 = .ok (.bipush 8, 2) := by decide +kernel
theorem dX11_charactersIn_44 : decode cX11_charactersIn 44 = .ok (.iushr, 1) := by decide +kernel
theorem dX11_charactersIn_45 : decode cX11_charactersIn 45 = .ok (.istore_n 2, 1) := by decide +kernel
theorem dX11_charactersIn_46 : decode cX11_charactersIn 46 = .ok (.goto (-42), 3) := by decide +kernel
theorem dX11_charactersIn_49 : decode cX11_charactersIn 49 = .ok (.iload_n 1, 1) := by decide +kernel
theorem dX11_charactersIn_50 : decode cX11_charactersIn 50 = .ok (.ireturn, 1) := by decide +kernel
def is_X11_charactersIn (Rt : np_Rt) : List (Nat × np_Op) := [(0, np_push 1 (.int 0)), (1, nw_ist 1 1), (2, np_ild 1 0), (3, nw_ist 1 2), (4, np_ild 1 2), (5, nq_if (fun x => x = 0) 49), (8, np_ild 1 1), (9, np_push 1 (.int 4)), (10, nq_ic (fun x y => y ≤ x) 49), (13, np_ild 1 2), (14, np_push 3 (.int 255)), (17, np_ib (fun x y => x &&& y)), (18, nw_ist 1 3), (19, np_ild 1 3), (20, np_push 2 (.int 10)), (22, nq_ic (fun x y => x = y) 38), (25, np_ild 1 3), (26, np_push 2 (.int 32)), (28, np_push 2 (.int 126)), (30, nq_call 3 sp_X11_isBetween 3 0 0 0 0), (33, nq_ifne 38), (36, np_push 1 (.int 0)), (37, np_ret Rt), (38, nw_iinc 1 1), (41, np_ild 1 2), (42, np_push 2 (.int 8)), (44, np_ib (fun x y => (x.toUInt32 >>> (y.toUInt32 &&& Int32.toUInt32 31)).toInt32)), (45, nw_ist 1 2), (46, np_goto 4), (49, np_ild 1 1), (50, np_ret Rt)]
set_option maxRecDepth 20000 in
theorem so_X11_charactersIn {X : np_Ctx} {Rt : np_Rt} (hX : np_ok RX11 cX11_charactersIn 4 1 22 0 0 .ireturn X) (hR : ∀ st w ce sl, Rt st w ce sl → X.2.2.1 st w ce sl) : ∀ q ∈ is_X11_charactersIn Rt, np_S X q.1 q.2 :=
  List.forall_mem_cons.mpr ⟨np_s_iconst hX dX11_charactersIn_0 (by decide), List.forall_mem_cons.mpr ⟨np_S.mono (op := np_ist 1 1) (np_s_istore_n hX dX11_charactersIn_1 rfl (by decide)) nw_ist_le, List.forall_mem_cons.mpr ⟨np_s_iload_n hX dX11_charactersIn_2 rfl, List.forall_mem_cons.mpr ⟨np_S.mono (op := np_ist 1 2) (np_s_istore_n hX dX11_charactersIn_3 rfl (by decide)) nw_ist_le, List.forall_mem_cons.mpr ⟨np_s_iload_n hX dX11_charactersIn_4 rfl, List.forall_mem_cons.mpr ⟨np_S.mono (op := np_if (fun x => x = 0) 49) (np_s_if_eq hX dX11_charactersIn_5 (by decide)) nq_if_le, List.forall_mem_cons.mpr ⟨np_s_iload_n hX dX11_charactersIn_8 rfl, List.forall_mem_cons.mpr ⟨np_s_iconst hX dX11_charactersIn_9 (by decide), List.forall_mem_cons.mpr ⟨np_S.mono (op := np_ic (fun x y => y ≤ x) 49) (np_s_icmp_ge hX dX11_charactersIn_10 (by decide)) nq_ic_le, List.forall_mem_cons.mpr ⟨np_s_iload_n hX dX11_charactersIn_13 rfl, List.forall_mem_cons.mpr ⟨np_s_sipush hX dX11_charactersIn_14 (by decide), List.forall_mem_cons.mpr ⟨np_s_iand hX dX11_charactersIn_17, List.forall_mem_cons.mpr ⟨np_S.mono (op := np_ist 1 3) (np_s_istore_n hX dX11_charactersIn_18 rfl (by decide)) nw_ist_le, List.forall_mem_cons.mpr ⟨np_s_iload_n hX dX11_charactersIn_19 rfl, List.forall_mem_cons.mpr ⟨np_s_bipush hX dX11_charactersIn_20 (by decide), List.forall_mem_cons.mpr ⟨np_S.mono (op := np_ic (fun x y => x = y) 38) (np_s_icmp_eq hX dX11_charactersIn_22 (by decide)) nq_ic_le, List.forall_mem_cons.mpr ⟨np_s_iload_n hX dX11_charactersIn_25 rfl, List.forall_mem_cons.mpr ⟨np_s_bipush hX dX11_charactersIn_26 (by decide), List.forall_mem_cons.mpr ⟨np_s_bipush hX dX11_charactersIn_28 (by decide), List.forall_mem_cons.mpr ⟨np_S.mono (op := np_call 3 sp_X11_isBetween 3 0 0 0 0) (np_s_callS hX C_X11_isBetween dX11_charactersIn_30 gw589 gw63 gw851 gw588 ⟨by decide, by decide, by decide⟩ (by decide) (by decide)) nq_call_le, List.forall_mem_cons.mpr ⟨np_S.mono (op := np_ifne 38) (np_s_if_ne hX dX11_charactersIn_33 (by decide)) nq_ifne_le, List.forall_mem_cons.mpr ⟨np_s_iconst hX dX11_charactersIn_36 (by decide), List.forall_mem_cons.mpr ⟨np_S.mono (op := np_ret X.2.2.1) (np_s_ret hX dX11_charactersIn_37) (nq_ret_le hR), List.forall_mem_cons.mpr ⟨np_S.mono (op := np_iinc 1 1) (np_s_iinc hX dX11_charactersIn_38 (by decide)) nw_iinc_le, List.forall_mem_cons.mpr ⟨np_s_iload_n hX dX11_charactersIn_41 rfl, List.forall_mem_cons.mpr ⟨np_s_bipush hX dX11_charactersIn_42 (by decide), List.forall_mem_cons.mpr ⟨np_s_iushr hX dX11_charactersIn_44, List.forall_mem_cons.mpr ⟨np_S.mono (op := np_ist 1 2) (np_s_istore_n hX dX11_charactersIn_45 rfl (by decide)) nw_ist_le, List.forall_mem_cons.mpr ⟨np_s_goto hX dX11_charactersIn_46 (by decide), List.forall_mem_cons.mpr ⟨np_s_iload_n hX dX11_charactersIn_49 rfl, List.forall_mem_cons.mpr ⟨np_S.mono (op := np_ret X.2.2.1) (np_s_ret hX dX11_charactersIn_50) (nq_ret_le hR), fun _ h => nomatch h⟩⟩⟩⟩⟩⟩⟩⟩⟩⟩⟩⟩⟩⟩⟩⟩⟩⟩⟩⟩⟩⟩⟩⟩⟩⟩⟩⟩⟩⟩⟩
noncomputable def m_X11_charactersIn_4 : Nat → pw_S → Int32 → Int32 → pw_R Int32
| 0, _, _, _ => none
| N + 1, S, v1, v2 =>
 if v2 = 0 then
 (some (S, v1))
 else
 (if 4 ≤ v1 then
 (some (S, v1))
 else
 (pw_l ((v2 &&& 255) : Int32) fun z1 =>
 if z1 = 10 then
 (pw_l (v1 + 1 : Int32) fun z2 =>
 pw_l (((v2).toUInt32 >>> ((8).toUInt32 &&& Int32.toUInt32 31)).toInt32 : Int32) fun z3 =>
 m_X11_charactersIn_4 N S z2 z3)
 else
 (pw_b (m_X11_isBetween S z1 32 126) fun S4 r7 =>
 if r7 = 0 then
 (some (S4, 0))
 else
 (pw_l (v1 + 1 : Int32) fun z9 =>
 pw_l (((v2).toUInt32 >>> ((8).toUInt32 &&& Int32.toUInt32 31)).toInt32 : Int32) fun z10 =>
 m_X11_charactersIn_4 N S4 z9 z10))))
set_option maxRecDepth 100000 in
set_option maxHeartbeats 8000000 in
theorem L_X11_charactersIn_4 {X : np_Ctx} (hX : np_ok RX11 cX11_charactersIn 4 1 22 0 0 .ireturn X) {Q : Option Value → np_W → Prop} {q n : Nat} (hR : ∀ st w ce sl, np_rt (some .int) 0 0 Q st w ce sl → X.2.2.1 st w ce sl) : ∀ (N : Nat) (S : pw_S) (v1 : Int32) (v2 : Int32) (f : Nat → Option np_E), pw_W q (n, f) S → pw_p (m_X11_charactersIn_4 N S v1 v2) (fun S' r => ∀ f', pw_W q (n, f') S' → Q (some (.int r)) (n, f')) → np_G X 4 [(1, .int v1), (2, .int v2)] [] (n, f) 0 0 := by
  intro N
  induction N with
  | zero =>
    intro S v1 v2 f hW h
    exact (pw_pn h).elim
  | succ N ih =>
    intro S v1 v2 f hW h
    unfold m_X11_charactersIn_4 at h
    refine np_soundW (so_X11_charactersIn hX hR) [4] 400 4 _ _ _ _ _ ?_
    conv => whnf
    refine pw_br h (fun _ h => ?_) (fun _ h => ?_)
    · conv => whnf
      exact ⟨Nat.le_of_ble_eq_true rfl, Nat.le_of_ble_eq_true rfl, ⟨_, rfl⟩, _, fun _ _ h9 => h9, pw_ps h _ hW⟩
    · conv => whnf
      refine pw_br h (fun _ h => ?_) (fun _ h => ?_)
      · conv => whnf
        exact ⟨Nat.le_of_ble_eq_true rfl, Nat.le_of_ble_eq_true rfl, ⟨_, rfl⟩, _, fun _ _ h9 => h9, pw_ps h _ hW⟩
      · conv => whnf
        refine pw_st h (fun z1 h => ?_)
        conv => whnf
        refine pw_br h (fun _ h => ?_) (fun _ h => ?_)
        · conv => whnf
          refine pw_st h (fun z2 h => ?_)
          conv => whnf
          refine pw_st h (fun z3 h => ?_)
          conv => whnf
          exact np_gl (ih S z2 z3 f hW h) ⟨rfl, rfl, trivial⟩
        · conv => whnf
          refine ⟨q, S, z1, 32, 126, rfl, hW, pw_bd h (fun S4 r7 h f5 hW6 => ?_)⟩
          conv => whnf
          refine pw_br h (fun _ h => ?_) (fun _ h => ?_)
          · conv => whnf
            exact ⟨Nat.le_of_ble_eq_true rfl, Nat.le_of_ble_eq_true rfl, ⟨_, rfl⟩, _, fun _ _ h9 => h9, pw_ps h _ hW6⟩
          · conv => whnf
            refine pw_st h (fun z9 h => ?_)
            conv => whnf
            refine pw_st h (fun z10 h => ?_)
            conv => whnf
            exact np_gl (ih S4 z9 z10 f5 hW6 h) ⟨rfl, rfl, trivial⟩
noncomputable def m_X11_charactersIn (S : pw_S) (x0 : Int32) : pw_R Int32 :=
 pw_l (0 : Int32) fun z11 =>
 pw_l (x0 : Int32) fun z12 =>
 m_X11_charactersIn_4 (pw_F 20000) S z11 z12
def sp_X11_charactersIn : np_Sp := fun vs w Q => ∃ (q : Nat) (S : pw_S) (x0 : Int32), vs = [.int x0] ∧ pw_W q w S ∧ pw_p (m_X11_charactersIn S x0) (fun S' r => ∀ f', pw_W q (w.1, f') S' → Q (some (.int r)) (w.1, f'))
set_option maxRecDepth 100000 in
set_option maxHeartbeats 8000000 in
theorem C_X11_charactersIn : np_C yX11_charactersIn cX11_charactersIn 4 (some .int) 1 22 0 0 sp_X11_charactersIn := by
  refine np_of (by decide) ?_
  intro X vs w Q hsp hX hmn hRt hlt
  obtain ⟨q, S, x0, rfl, hW, h⟩ := hsp
  obtain ⟨n, f⟩ := w
  unfold m_X11_charactersIn at h
  have hR : ∀ st w ce sl, np_rt (some .int) 0 0 Q st w ce sl → X.2.2.1 st w ce sl := fun _ _ _ _ h => by rw [hRt]; exact h
  refine np_soundW (so_X11_charactersIn hX hR) [4] 400 0 _ _ _ _ _ ?_
  conv => whnf
  refine pw_st h (fun z11 h => ?_)
  conv => whnf
  refine pw_st h (fun z12 h => ?_)
  conv => whnf
  exact np_gl (L_X11_charactersIn_4 hX hR (pw_F 20000) S z11 z12 f hW h) ⟨rfl, rfl, trivial⟩
theorem dX11_type_0 : decode cX11_type 0 = .ok (.aload_n 0, 1) := by decide +kernel
theorem dX11_type_1 : decode cX11_type 1 = .ok (.iload_n 1, 1) := by decide +kernel
theorem dX11_type_2 : decode cX11_type 2 = .ok (.invokevirtual 211, 3) := by decide +kernel
theorem dX11_type_5 : decode cX11_type 5 = .ok (.astore_n 3, 1) := by decide +kernel
theorem dX11_type_6 : decode cX11_type 6 = .ok (.aload_n 3, 1) := by decide +kernel
theorem dX11_type_7 : decode cX11_type 7 = .ok (.ifnonnull 13, 3) := by decide +kernel
theorem dX11_type_10 : decode cX11_type 10 = .ok (.new 96, 3) := by decide +kernel
theorem dX11_type_13 : decode cX11_type 13 = .ok (.dup, 1) := by decide +kernel
theorem dX11_type_14 : decode cX11_type 14 = .ok (.ldc 215, 2) := by decide +kernel
theorem dX11_type_16 : decode cX11_type 16 = .ok (.invokespecial 100, 3) := by decide +kernel
theorem dX11_type_19 : decode cX11_type 19 = .ok (.athrow, 1) := by decide +kernel
theorem dX11_type_20 : decode cX11_type 20 = .ok (.iload_n 2, 1) := by decide +kernel
theorem dX11_type_21 : decode cX11_type 21 = .ok (.invokestatic 217, 3) := by decide +kernel
theorem dX11_type_24 : decode cX11_type 24 = .ok (.istore 4, 2) := by decide +kernel
theorem dX11_type_26 : decode cX11_type 26 = .ok (.iload 4, 2) := by decide +kernel
theorem dX11_type_28 : decode cX11_type 28 = .ok (.ifCond .ne 13, 3) := by decide +kernel
theorem dX11_type_31 : decode cX11_type 31 = .ok (.new 107, 3) := by decide +kernel
theorem dX11_type_34 : decode cX11_type 34 = .ok (.dup, 1) := by decide +kernel
theorem dX11_type_35 : decode cX11_type 35 = .ok (.ldc 221, 2) := by decide +kernel
theorem dX11_type_37 : decode cX11_type 37 = .ok (.invokespecial 111, 3) := by decide +kernel
theorem dX11_type_40 : decode cX11_type 40 = .ok (.athrow, 1) := by decide +kernel
theorem dX11_type_41 : decode cX11_type 41 = .ok (.aload_n 3, 1) := by decide +kernel
theorem dX11_type_42 : decode cX11_type 42 = .ok (.iload 4, 2) := by decide +kernel
theorem dX11_type_44 : decode cX11_type 44 = .ok (.invokevirtual 223, 3) := by decide +kernel
theorem dX11_type_47 : decode cX11_type 47 = .ok (.ifCond .ne 13, 3) := by decide +kernel
theorem dX11_type_50 : decode cX11_type 50 = .ok (.new 116, 3) := by decide +kernel
theorem dX11_type_53 : decode cX11_type 53 = .ok (.dup, 1) := by decide +kernel
theorem dX11_type_54 : decode cX11_type 54 = .ok (.ldc 226, 2) := by decide +kernel
theorem dX11_type_56 : decode cX11_type 56 = .ok (.invokespecial 120, 3) := by decide +kernel
theorem dX11_type_59 : decode cX11_type 59 = .ok (.athrow, 1) := by decide +kernel
theorem dX11_type_60 : decode cX11_type 60 = .ok (.iconst 0, 1) := by decide +kernel
theorem dX11_type_61 : decode cX11_type 61 = .ok (.istore 5, 2) := by decide +kernel
theorem dX11_type_63 : decode cX11_type 63 = .ok (.iload 5, 2) := by decide +kernel
theorem dX11_type_65 : decode cX11_type 65 = .ok (.iload 4, 2) := by decide +kernel
theorem dX11_type_67 : decode cX11_type 67 = .ok (.if_icmp .ge 24, 3) := by decide +kernel
theorem dX11_type_70 : decode cX11_type 70 = .ok (.aload_n 3, 1) := by decide +kernel
theorem dX11_type_71 : decode cX11_type 71 = .ok (.iload_n 2, 1) := by decide +kernel
theorem dX11_type_72 : decode cX11_type 72 = .ok (.bipush 8, 2) := by decide +kernel
theorem dX11_type_74 : decode cX11_type 74 = .ok (.iload 5, 2) := by decide +kernel
theorem dX11_type_76 : decode cX11_type 76 = .ok (.imul, 1) := by decide +kernel
theorem dX11_type_77 : decode cX11_type 77 = .ok (.iushr, 1) := by decide +kernel
theorem dX11_type_78 : decode cX11_type 78 = .ok (.sipush 255, 3) := by decide +kernel
theorem dX11_type_81 : decode cX11_type 81 = .ok (.iand, 1) := by decide +kernel
theorem dX11_type_82 : decode cX11_type 82 = .ok (.invokevirtual 228, 3) := by decide +kernel
theorem dX11_type_85 : decode cX11_type 85 = .ok (.iinc 5 1, 3) := by decide +kernel
theorem dX11_type_88 : decode cX11_type 88 = .ok (.goto (-25), 3) := by decide +kernel
theorem dX11_type_91 : decode cX11_type 91 = .ok (.aload_n 3, 1) := by decide +kernel
theorem dX11_type_92 : decode cX11_type 92 = .ok (.getfield 232, 3) := by decide +kernel
theorem dX11_type_95 : decode cX11_type 95 = .ok (.ireturn, 1) := by decide +kernel
def is_X11_type (Rt : np_Rt) (Th : np_Th) : List (Nat × np_Op) := [(0, np_ald 1 0), (1, np_ild 1 1), (2, nw_callV 11 2 sp_X11_fileOf 2 0 0 1 6), (5, np_ast 1 3), (6, np_ald 1 3), (7, np_ifnonnull 20), (10, nq_throw Th 0), (20, np_ild 1 2), (21, nq_call 1 sp_X11_charactersIn 4 0 0 1 6), (24, nw_ist 2 4), (26, np_ild 2 4), (28, nq_ifne 41), (31, nq_throw Th 1), (41, np_ald 1 3), (42, np_ild 2 4), (44, nw_callV 7 2 sp_X7_takes 2 0 0 1 6), (47, nq_ifne 60), (50, nq_throw Th 2), (60, np_push 1 (.int 0)), (61, nw_ist 2 5), (63, np_ild 2 5), (65, np_ild 2 4), (67, nq_ic (fun x y => y ≤ x) 91), (70, np_ald 1 3), (71, np_ild 1 2), (72, np_push 2 (.int 8)), (74, np_ild 2 5), (76, np_ib (fun x y => x * y)), (77, np_ib (fun x y => (x.toUInt32 >>> (y.toUInt32 &&& Int32.toUInt32 31)).toInt32)), (78, np_push 3 (.int 255)), (81, np_ib (fun x y => x &&& y)), (82, nw_callV 7 2 sp_X7_append 2 0 0 1 6), (85, nw_iinc 5 1), (88, np_goto 63), (91, np_ald 1 3), (92, nw_getf 7 1), (95, np_ret Rt)]
set_option maxRecDepth 20000 in
theorem so_X11_type {X : np_Ctx} {Rt : np_Rt} {Th : np_Th} (hX : np_ok RX11 cX11_type 6 6 100 1 6 .ireturn X) (hR : ∀ st w ce sl, Rt st w ce sl → X.2.2.1 st w ce sl) (hT : ∀ i w ce sl, Th i w ce sl → X.2.2.2 i w ce sl) : ∀ q ∈ is_X11_type Rt Th, np_S X q.1 q.2 :=
  List.forall_mem_cons.mpr ⟨np_s_aload_n hX dX11_type_0 rfl, List.forall_mem_cons.mpr ⟨np_s_iload_n hX dX11_type_1 rfl, List.forall_mem_cons.mpr ⟨np_S.mono (op := np_callV 11 2 sp_X11_fileOf 2 0 0 1 6) (np_s_callV hX C_X11_fileOf dX11_type_2 (q := (RX11, TX11, 14)) rfl rfl gw941 gw63 gw938 gw940 gw17 ⟨by decide, by decide, by decide⟩ (by decide) (by decide)) nw_callV_le, List.forall_mem_cons.mpr ⟨np_s_astore_n hX dX11_type_5 rfl (by decide), List.forall_mem_cons.mpr ⟨np_s_aload_n hX dX11_type_6 rfl, List.forall_mem_cons.mpr ⟨np_s_ifnonnull hX dX11_type_7 (by decide), List.forall_mem_cons.mpr ⟨np_S.mono (op := np_throw X.2.2.2 0) (np_s_throw hX ⟨96, 215, 100, _, gw516, gw78, sw942, twX11_100, toX11_100_96, Or.inl ⟨dX11_type_10, dX11_type_13, dX11_type_14, dX11_type_16, dX11_type_19⟩⟩) (nq_throw_le hT), List.forall_mem_cons.mpr ⟨np_s_iload_n hX dX11_type_20 rfl, List.forall_mem_cons.mpr ⟨np_S.mono (op := np_call 1 sp_X11_charactersIn 4 0 0 1 6) (np_s_callS hX C_X11_charactersIn dX11_type_21 gw968 gw63 gw966 gw967 ⟨by decide, by decide, by decide⟩ (by decide) (by decide)) nq_call_le, List.forall_mem_cons.mpr ⟨np_S.mono (op := np_ist 2 4) (np_s_istore hX dX11_type_24 (by decide)) nw_ist_le, List.forall_mem_cons.mpr ⟨np_s_iload hX dX11_type_26, List.forall_mem_cons.mpr ⟨np_S.mono (op := np_ifne 41) (np_s_if_ne hX dX11_type_28 (by decide)) nq_ifne_le, List.forall_mem_cons.mpr ⟨np_S.mono (op := np_throw X.2.2.2 1) (np_s_throw hX ⟨107, 221, 111, _, gw590, gw79, sw969, twX11_111, toX11_111_107, Or.inl ⟨dX11_type_31, dX11_type_34, dX11_type_35, dX11_type_37, dX11_type_40⟩⟩) (nq_throw_le hT), List.forall_mem_cons.mpr ⟨np_s_aload_n hX dX11_type_41 rfl, List.forall_mem_cons.mpr ⟨np_s_iload hX dX11_type_42, List.forall_mem_cons.mpr ⟨np_S.mono (op := np_callV 7 2 sp_X7_takes 2 0 0 1 6) (np_s_callV hX C_X7_takes dX11_type_44 (q := (RX7, TX7, 3)) rfl rfl gw952 gw68 gw949 gw950 gw951 ⟨by decide, by decide, by decide⟩ (by decide) (by decide)) nw_callV_le, List.forall_mem_cons.mpr ⟨np_S.mono (op := np_ifne 60) (np_s_if_ne hX dX11_type_47 (by decide)) nq_ifne_le, List.forall_mem_cons.mpr ⟨np_S.mono (op := np_throw X.2.2.2 2) (np_s_throw hX ⟨116, 226, 120, _, gw610, gw80, sw953, twX11_120, toX11_120_116, Or.inl ⟨dX11_type_50, dX11_type_53, dX11_type_54, dX11_type_56, dX11_type_59⟩⟩) (nq_throw_le hT), List.forall_mem_cons.mpr ⟨np_s_iconst hX dX11_type_60 (by decide), List.forall_mem_cons.mpr ⟨np_S.mono (op := np_ist 2 5) (np_s_istore hX dX11_type_61 (by decide)) nw_ist_le, List.forall_mem_cons.mpr ⟨np_s_iload hX dX11_type_63, List.forall_mem_cons.mpr ⟨np_s_iload hX dX11_type_65, List.forall_mem_cons.mpr ⟨np_S.mono (op := np_ic (fun x y => y ≤ x) 91) (np_s_icmp_ge hX dX11_type_67 (by decide)) nq_ic_le, List.forall_mem_cons.mpr ⟨np_s_aload_n hX dX11_type_70 rfl, List.forall_mem_cons.mpr ⟨np_s_iload_n hX dX11_type_71 rfl, List.forall_mem_cons.mpr ⟨np_s_bipush hX dX11_type_72 (by decide), List.forall_mem_cons.mpr ⟨np_s_iload hX dX11_type_74, List.forall_mem_cons.mpr ⟨np_s_imul hX dX11_type_76, List.forall_mem_cons.mpr ⟨np_s_iushr hX dX11_type_77, List.forall_mem_cons.mpr ⟨np_s_sipush hX dX11_type_78 (by decide), List.forall_mem_cons.mpr ⟨np_s_iand hX dX11_type_81, List.forall_mem_cons.mpr ⟨np_S.mono (op := np_callV 7 2 sp_X7_append 2 0 0 1 6) (np_s_callV hX C_X7_append dX11_type_82 (q := (RX7, TX7, 3)) rfl rfl gw961 gw68 gw958 gw959 gw960 ⟨by decide, by decide, by decide⟩ (by decide) (by decide)) nw_callV_le, List.forall_mem_cons.mpr ⟨np_S.mono (op := np_iinc 5 1) (np_s_iinc hX dX11_type_85 (by decide)) nw_iinc_le, List.forall_mem_cons.mpr ⟨np_s_goto hX dX11_type_88 (by decide), List.forall_mem_cons.mpr ⟨np_s_aload_n hX dX11_type_91 rfl, List.forall_mem_cons.mpr ⟨np_S.mono (op := np_getf 7 1) (np_s_getN hX dX11_type_92 (C := RX7) (T := TX7) (N := 3) rfl guX7 (by decide) gw211) nw_getf_le, List.forall_mem_cons.mpr ⟨np_S.mono (op := np_ret X.2.2.1) (np_s_ret hX dX11_type_95) (nq_ret_le hR), fun _ h => nomatch h⟩⟩⟩⟩⟩⟩⟩⟩⟩⟩⟩⟩⟩⟩⟩⟩⟩⟩⟩⟩⟩⟩⟩⟩⟩⟩⟩⟩⟩⟩⟩⟩⟩⟩⟩⟩⟩
noncomputable def m_X11_type_63 : Nat → pw_S → Int32 → Nat → Int32 → Int32 → pw_R (Int32 ⊕ Nat)
| 0, _, _, _, _, _ => none
| N + 1, S, v2, v3, v4, v5 =>
 if v4 ≤ v5 then
 (some (S, .inl (S 53 v3 1)))
 else
 (pw_b (m_X7_append S v3 (((v2).toUInt32 >>> (((8 * v5)).toUInt32 &&& Int32.toUInt32 31)).toInt32 &&& 255)) fun S1 r4 =>
 pw_l (v5 + 1 : Int32) fun z6 =>
 m_X11_type_63 N S1 v2 v3 v4 z6)
set_option maxRecDepth 100000 in
set_option maxHeartbeats 8000000 in
theorem L_X11_type_63 {X : np_Ctx} (hX : np_ok RX11 cX11_type 6 6 100 1 6 .ireturn X) {Q : Option Value → np_W → Prop} {QX : Nat → np_W → Prop} {q n : Nat} (hR : ∀ st w ce sl, np_rq (some .int) 1 6 Q st w ce sl → X.2.2.1 st w ce sl) (hT : ∀ i w ce sl, np_thq 1 6 QX i w ce sl → X.2.2.2 i w ce sl) : ∀ (N : Nat) (S : pw_S) (v2 : Int32) (v3 : Nat) (v4 : Int32) (v5 : Int32) (f : Nat → Option np_E) (hv3 : pw_ok q 53 v3 = true), pw_W q (n, f) S → pw_p (m_X11_type_63 N S v2 v3 v4 v5) (fun S' rx => ∀ f', pw_W q (n, f') S' → match rx with | .inl r => Q (some (.int r)) (n, f') | .inr e => QX e (n, f')) → np_G X 63 [(2, .int v2), (3, .ref (pw_pl 53 v3)), (4, .int v4), (5, .int v5)] [] (n, f) 0 0 := by
  intro N
  induction N with
  | zero =>
    intro S v2 v3 v4 v5 f hv3 hW h
    exact (pw_pn h).elim
  | succ N ih =>
    intro S v2 v3 v4 v5 f hv3 hW h
    unfold m_X11_type_63 at h
    refine np_soundW (so_X11_type hX hR hT) [63] 400 63 _ _ _ _ _ ?_
    conv => whnf
    refine pw_br h (fun _ h => ?_) (fun _ h => ?_)
    · conv => whnf
      refine np_rd_i (hW.g hv3) ?_
      conv => whnf
      exact ⟨Nat.le_of_ble_eq_true rfl, Nat.le_of_ble_eq_true rfl, trivial, pw_ps h _ hW⟩
    · conv => whnf
      refine np_rd_i (hW.g hv3) ?_
      conv => whnf
      refine ⟨q, S, v3, (((v2).toUInt32 >>> (((8 * v5)).toUInt32 &&& Int32.toUInt32 31)).toInt32 &&& 255), rfl, hv3, hW, pw_bd h (fun S1 r4 h f2 hW3 => ?_)⟩
      conv => whnf
      refine pw_st h (fun z6 h => ?_)
      conv => whnf
      exact np_gl (ih S1 v2 v3 v4 z6 f2 hv3 hW3 h) ⟨rfl, rfl, rfl, rfl, trivial⟩
noncomputable def m_X11_type (S : pw_S) (i0 : Nat) (x1 : Int32) (x2 : Int32) : pw_R (Int32 ⊕ Nat) :=
 pw_b (m_X11_fileOf S i0 x1) fun S7 r10 =>
 pw_o r10 (
 (some (S7, .inr 0))) (fun j12 =>
 (pw_b (m_X11_charactersIn S7 x2) fun S13 r16 =>
 pw_l (r16 : Int32) fun z18 =>
 if z18 = 0 then
 (some (S13, .inr 1))
 else
 (pw_b (m_X7_takes S13 j12 z18) fun S19 r22 =>
 if r22 = 0 then
 (some (S19, .inr 2))
 else
 (pw_l (0 : Int32) fun z24 =>
 m_X11_type_63 (pw_F 20000) S19 x2 j12 z18 z24))))
def sp_X11_type : np_SpX := fun vs w Q QX => ∃ (q : Nat) (S : pw_S) (i0 : Nat) (x1 : Int32) (x2 : Int32), vs = [.ref (pw_pl 61 i0), .int x1, .int x2] ∧ pw_ok q 61 i0 = true ∧ pw_W q w S ∧ pw_p (m_X11_type S i0 x1 x2) (fun S' rx => ∀ f', pw_W q (w.1, f') S' → match rx with | .inl r => Q (some (.int r)) (w.1, f') | .inr e => QX e (w.1, f'))
set_option maxRecDepth 100000 in
set_option maxHeartbeats 8000000 in
theorem C_X11_type : np_CX yX11_type cX11_type 6 (some .int) 6 100 1 6 sp_X11_type := by
  refine np_ofX (by decide) (by decide) (by decide) ?_
  intro X vs w Q QX hsp hX hmn hRt hTh
  obtain ⟨q, S, i0, x1, x2, rfl, hi0, hW, h⟩ := hsp
  obtain ⟨n, f⟩ := w
  unfold m_X11_type at h
  have hR : ∀ st w ce sl, np_rq (some .int) 1 6 Q st w ce sl → X.2.2.1 st w ce sl := fun _ _ _ _ h => by rw [hRt]; exact h
  have hT : ∀ i w ce sl, np_thq 1 6 QX i w ce sl → X.2.2.2 i w ce sl := fun _ _ _ _ h => by rw [hTh]; exact h
  refine np_soundW (so_X11_type hX hR hT) [63] 400 0 _ _ _ _ _ ?_
  conv => whnf
  refine np_rd_i (hW.g hi0) ?_
  conv => whnf
  refine ⟨q, S, i0, x1, rfl, hi0, hW, pw_bd h (fun S7 r10 h f8 hW9 ho11 => ?_)⟩
  rcases r10 with _ | j12
  · replace h := pw_on h
    conv => whnf
    exact ⟨Nat.le_of_ble_eq_true rfl, Nat.le_of_ble_eq_true rfl, pw_ps h _ hW9⟩
  · replace h := pw_os h
    replace ho11 : pw_ok q 53 j12 = true := ho11
    conv => whnf
    refine ⟨q, S7, x2, rfl, hW9, pw_bd h (fun S13 r16 h f14 hW15 => ?_)⟩
    conv => whnf
    refine pw_st h (fun z18 h => ?_)
    conv => whnf
    refine pw_br h (fun _ h => ?_) (fun _ h => ?_)
    · conv => whnf
      exact ⟨Nat.le_of_ble_eq_true rfl, Nat.le_of_ble_eq_true rfl, pw_ps h _ hW15⟩
    · conv => whnf
      refine np_rd_i (hW15.g ho11) ?_
      conv => whnf
      refine ⟨q, S13, j12, z18, rfl, ho11, hW15, pw_bd h (fun S19 r22 h f20 hW21 => ?_)⟩
      conv => whnf
      refine pw_br h (fun _ h => ?_) (fun _ h => ?_)
      · conv => whnf
        exact ⟨Nat.le_of_ble_eq_true rfl, Nat.le_of_ble_eq_true rfl, pw_ps h _ hW21⟩
      · conv => whnf
        refine pw_st h (fun z24 h => ?_)
        conv => whnf
        exact np_gl (L_X11_type_63 hX hR hT (pw_F 20000) S19 x2 j12 z18 z24 f20 ho11 hW21 h) ⟨rfl, rfl, rfl, rfl, trivial⟩
theorem dX11_print_0 : decode cX11_print 0 = .ok (.aload_n 0, 1) := by decide +kernel
theorem dX11_print_1 : decode cX11_print 1 = .ok (.iload_n 1, 1) := by decide +kernel
theorem dX11_print_2 : decode cX11_print 2 = .ok (.invokevirtual 147, 3) := by decide +kernel
theorem dX11_print_5 : decode cX11_print 5 = .ok (.astore_n 3, 1) := by decide +kernel
theorem dX11_print_6 : decode cX11_print 6 = .ok (.aload_n 0, 1) := by decide +kernel
theorem dX11_print_7 : decode cX11_print 7 = .ok (.iload_n 2, 1) := by decide +kernel
theorem dX11_print_8 : decode cX11_print 8 = .ok (.invokevirtual 211, 3) := by decide +kernel
theorem dX11_print_11 : decode cX11_print 11 = .ok (.astore 4, 2) := by decide +kernel
theorem dX11_print_13 : decode cX11_print 13 = .ok (.aload_n 3, 1) := by decide +kernel
theorem dX11_print_14 : decode cX11_print 14 = .ok (.ifnonnull 13, 3) := by decide +kernel
theorem dX11_print_17 : decode cX11_print 17 = .ok (.new 96, 3) := by decide +kernel
theorem dX11_print_20 : decode cX11_print 20 = .ok (.dup, 1) := by decide +kernel
theorem dX11_print_21 : decode cX11_print 21 = .ok (.ldc 151, 2) := by decide +kernel
theorem dX11_print_23 : decode cX11_print 23 = .ok (.invokespecial 100, 3) := by decide +kernel
theorem dX11_print_26 : decode cX11_print 26 = .ok (.athrow, 1) := by decide +kernel
theorem dX11_print_27 : decode cX11_print 27 = .ok (.aload 4, 2) := by decide +kernel
theorem dX11_print_29 : decode cX11_print 29 = .ok (.ifnonnull 13, 3) := by decide +kernel
theorem dX11_print_32 : decode cX11_print 32 = .ok (.new 96, 3) := by decide +kernel
theorem dX11_print_35 : decode cX11_print 35 = .ok (.dup, 1) := by decide +kernel
theorem dX11_print_36 : decode cX11_print 36 = .ok (.ldc 215, 2) := by decide +kernel
theorem dX11_print_38 : decode cX11_print 38 = .ok (.invokespecial 100, 3) := by decide +kernel
theorem dX11_print_41 : decode cX11_print 41 = .ok (.athrow, 1) := by decide +kernel
theorem dX11_print_42 : decode cX11_print 42 = .ok (.aload_n 0, 1) := by decide +kernel
theorem dX11_print_43 : decode cX11_print 43 = .ok (.getfield 47, 3) := by decide +kernel
theorem dX11_print_46 : decode cX11_print 46 = .ok (.aload_n 3, 1) := by decide +kernel
theorem dX11_print_47 : decode cX11_print 47 = .ok (.getfield 140, 3) := by decide +kernel
theorem dX11_print_50 : decode cX11_print 50 = .ok (.aload_n 0, 1) := by decide +kernel
theorem dX11_print_51 : decode cX11_print 51 = .ok (.getfield 28, 3) := by decide +kernel
theorem dX11_print_54 : decode cX11_print 54 = .ok (.invokevirtual 235, 3) := by decide +kernel
theorem dX11_print_57 : decode cX11_print 57 = .ok (.ifCond .ne 13, 3) := by decide +kernel
theorem dX11_print_60 : decode cX11_print 60 = .ok (.new 116, 3) := by decide +kernel
theorem dX11_print_63 : decode cX11_print 63 = .ok (.dup, 1) := by decide +kernel
theorem dX11_print_64 : decode cX11_print 64 = .ok (.ldc 239, 2) := by decide +kernel
theorem dX11_print_66 : decode cX11_print 66 = .ok (.invokespecial 120, 3) := by decide +kernel
theorem dX11_print_69 : decode cX11_print 69 = .ok (.athrow, 1) := by decide +kernel
theorem dX11_print_70 : decode cX11_print 70 = .ok (.aload_n 0, 1) := by decide +kernel
theorem dX11_print_71 : decode cX11_print 71 = .ok (.getfield 47, 3) := by decide +kernel
theorem dX11_print_74 : decode cX11_print 74 = .ok (.invokevirtual 241, 3) := by decide +kernel
theorem dX11_print_77 : decode cX11_print 77 = .ok (.istore 5, 2) := by decide +kernel
theorem dX11_print_79 : decode cX11_print 79 = .ok (.aload 4, 2) := by decide +kernel
theorem dX11_print_81 : decode cX11_print 81 = .ok (.iload 5, 2) := by decide +kernel
theorem dX11_print_83 : decode cX11_print 83 = .ok (.iconst 1, 1) := by decide +kernel
theorem dX11_print_84 : decode cX11_print 84 = .ok (.iadd, 1) := by decide +kernel
theorem dX11_print_85 : decode cX11_print 85 = .ok (.invokevirtual 223, 3) := by decide +kernel
theorem dX11_print_88 : decode cX11_print 88 = .ok (.ifCond .ne 13, 3) := by decide +kernel
theorem dX11_print_91 : decode cX11_print 91 = .ok (.new 116, 3) := by decide +kernel
theorem dX11_print_94 : decode cX11_print 94 = .ok (.dup, 1) := by decide +kernel
theorem dX11_print_95 : decode cX11_print 95 = .ok (.ldc 226, 2) := by decide +kernel
theorem dX11_print_97 : decode cX11_print 97 = .ok (.invokespecial 120, 3) := by decide +kernel
theorem dX11_print_100 : decode cX11_print 100 = .ok (.athrow, 1) := by decide +kernel
theorem dX11_print_101 : decode cX11_print 101 = .ok (.iconst 0, 1) := by decide +kernel
theorem dX11_print_102 : decode cX11_print 102 = .ok (.istore 6, 2) := by decide +kernel
theorem dX11_print_104 : decode cX11_print 104 = .ok (.iload 6, 2) := by decide +kernel
theorem dX11_print_106 : decode cX11_print 106 = .ok (.iload 5, 2) := by decide +kernel
theorem dX11_print_108 : decode cX11_print 108 = .ok (.if_icmp .ge 23, 3) := by decide +kernel
theorem dX11_print_111 : decode cX11_print 111 = .ok (.aload 4, 2) := by decide +kernel
theorem dX11_print_113 : decode cX11_print 113 = .ok (.aload_n 0, 1) := by decide +kernel
theorem dX11_print_114 : decode cX11_print 114 = .ok (.getfield 47, 3) := by decide +kernel
theorem dX11_print_117 : decode cX11_print 117 = .ok (.iload 6, 2) := by decide +kernel
theorem dX11_print_119 : decode cX11_print 119 = .ok (.invokevirtual 243, 3) := by decide +kernel
theorem dX11_print_122 : decode cX11_print 122 = .ok (.invokevirtual 228, 3) := by decide +kernel
theorem dX11_print_125 : decode cX11_print 125 = .ok (.iinc 6 1, 3) := by decide +kernel
theorem dX11_print_128 : decode cX11_print 128 = .ok (.goto (-24), 3) := by decide +kernel
theorem dX11_print_131 : decode cX11_print 131 = .ok (.aload 4, 2) := by decide +kernel
theorem dX11_print_133 : decode cX11_print 133 = .ok (.bipush 10, 2) := by decide +kernel
theorem dX11_print_135 : decode cX11_print 135 = .ok (.invokevirtual 228, 3) := by decide +kernel
theorem dX11_print_138 : decode cX11_print 138 = .ok (.aload 4, 2) := by decide +kernel
theorem dX11_print_140 : decode cX11_print 140 = .ok (.getfield 232, 3) := by decide +kernel
theorem dX11_print_143 : decode cX11_print 143 = .ok (.ireturn, 1) := by decide +kernel
def is_X11_print (Rt : np_Rt) (Th : np_Th) : List (Nat × np_Op) := [(0, np_ald 1 0), (1, np_ild 1 1), (2, nw_callV 11 2 sp_X11_descriptionOf 3 0 0 1 6), (5, np_ast 1 3), (6, np_ald 1 0), (7, np_ild 1 2), (8, nw_callV 11 2 sp_X11_fileOf 2 0 0 1 6), (11, np_ast 2 4), (13, np_ald 1 3), (14, np_ifnonnull 27), (17, nq_throw Th 0), (27, np_ald 2 4), (29, np_ifnonnull 42), (32, nq_throw Th 0), (42, np_ald 1 0), (43, nw_getf 11 6), (46, np_ald 1 3), (47, nw_getf 1 0), (50, np_ald 1 0), (51, nw_getf 11 3), (54, nw_callV 3 3 sp_X3_canPrint 5 0 0 1 6), (57, nq_ifne 70), (60, nq_throw Th 2), (70, np_ald 1 0), (71, nw_getf 11 6), (74, nw_callV 3 1 sp_X3_length 1 0 0 1 6), (77, nw_ist 2 5), (79, np_ald 2 4), (81, np_ild 2 5), (83, np_push 1 (.int 1)), (84, np_ib (fun x y => x + y)), (85, nw_callV 7 2 sp_X7_takes 2 0 0 1 6), (88, nq_ifne 101), (91, nq_throw Th 2), (101, np_push 1 (.int 0)), (102, nw_ist 2 6), (104, np_ild 2 6), (106, np_ild 2 5), (108, nq_ic (fun x y => y ≤ x) 131), (111, np_ald 2 4), (113, np_ald 1 0), (114, nw_getf 11 6), (117, np_ild 2 6), (119, nw_callV 3 2 sp_X3_unitAt 2 0 0 1 6), (122, nw_callV 7 2 sp_X7_append 2 0 0 1 6), (125, nw_iinc 6 1), (128, np_goto 104), (131, np_ald 2 4), (133, np_push 2 (.int 10)), (135, nw_callV 7 2 sp_X7_append 2 0 0 1 6), (138, np_ald 2 4), (140, nw_getf 7 1), (143, np_ret Rt)]
set_option maxRecDepth 20000 in
theorem so_X11_print {X : np_Ctx} {Rt : np_Rt} {Th : np_Th} (hX : np_ok RX11 cX11_print 7 6 138 1 6 .ireturn X) (hR : ∀ st w ce sl, Rt st w ce sl → X.2.2.1 st w ce sl) (hT : ∀ i w ce sl, Th i w ce sl → X.2.2.2 i w ce sl) : ∀ q ∈ is_X11_print Rt Th, np_S X q.1 q.2 :=
  List.forall_mem_cons.mpr ⟨np_s_aload_n hX dX11_print_0 rfl, List.forall_mem_cons.mpr ⟨np_s_iload_n hX dX11_print_1 rfl, List.forall_mem_cons.mpr ⟨np_S.mono (op := np_callV 11 2 sp_X11_descriptionOf 3 0 0 1 6) (np_s_callV hX C_X11_descriptionOf dX11_print_2 (q := (RX11, TX11, 14)) rfl rfl gw699 gw63 gw696 gw698 gw3 ⟨by decide, by decide, by decide⟩ (by decide) (by decide)) nw_callV_le, List.forall_mem_cons.mpr ⟨np_s_astore_n hX dX11_print_5 rfl (by decide), List.forall_mem_cons.mpr ⟨np_s_aload_n hX dX11_print_6 rfl, List.forall_mem_cons.mpr ⟨np_s_iload_n hX dX11_print_7 rfl, List.forall_mem_cons.mpr ⟨np_S.mono (op := np_callV 11 2 sp_X11_fileOf 2 0 0 1 6) (np_s_callV hX C_X11_fileOf dX11_print_8 (q := (RX11, TX11, 14)) rfl rfl gw941 gw63 gw938 gw940 gw17 ⟨by decide, by decide, by decide⟩ (by decide) (by decide)) nw_callV_le, List.forall_mem_cons.mpr ⟨np_s_astore hX dX11_print_11 (by decide), List.forall_mem_cons.mpr ⟨np_s_aload_n hX dX11_print_13 rfl, List.forall_mem_cons.mpr ⟨np_s_ifnonnull hX dX11_print_14 (by decide), List.forall_mem_cons.mpr ⟨np_S.mono (op := np_throw X.2.2.2 0) (np_s_throw hX ⟨96, 151, 100, _, gw516, gw78, sw700, twX11_100, toX11_100_96, Or.inl ⟨dX11_print_17, dX11_print_20, dX11_print_21, dX11_print_23, dX11_print_26⟩⟩) (nq_throw_le hT), List.forall_mem_cons.mpr ⟨np_s_aload hX dX11_print_27, List.forall_mem_cons.mpr ⟨np_s_ifnonnull hX dX11_print_29 (by decide), List.forall_mem_cons.mpr ⟨np_S.mono (op := np_throw X.2.2.2 0) (np_s_throw hX ⟨96, 215, 100, _, gw516, gw78, sw942, twX11_100, toX11_100_96, Or.inl ⟨dX11_print_32, dX11_print_35, dX11_print_36, dX11_print_38, dX11_print_41⟩⟩) (nq_throw_le hT), List.forall_mem_cons.mpr ⟨np_s_aload_n hX dX11_print_42 rfl, List.forall_mem_cons.mpr ⟨np_S.mono (op := np_getf 11 6) (np_s_getf hX dX11_print_43 (C := RX11) (T := TX11) (N := 14) rfl guX11 (by decide) gw447) nw_getf_le, List.forall_mem_cons.mpr ⟨np_s_aload_n hX dX11_print_46 rfl, List.forall_mem_cons.mpr ⟨np_S.mono (op := np_getf 1 0) (np_s_getN hX dX11_print_47 (C := RX1) (T := TX1) (N := 7) rfl guX1 (by decide) gw315) nw_getf_le, List.forall_mem_cons.mpr ⟨np_s_aload_n hX dX11_print_50 rfl, List.forall_mem_cons.mpr ⟨np_S.mono (op := np_getf 11 3) (np_s_getf hX dX11_print_51 (C := RX11) (T := TX11) (N := 14) rfl guX11 (by decide) gw444) nw_getf_le, List.forall_mem_cons.mpr ⟨np_S.mono (op := np_callV 3 3 sp_X3_canPrint 5 0 0 1 6) (np_s_callV hX C_X3_canPrint dX11_print_54 (q := (RX3, TX3, 3)) rfl rfl gw792 gw65 gw943 gw790 gw791 ⟨by decide, by decide, by decide⟩ (by decide) (by decide)) nw_callV_le, List.forall_mem_cons.mpr ⟨np_S.mono (op := np_ifne 70) (np_s_if_ne hX dX11_print_57 (by decide)) nq_ifne_le, List.forall_mem_cons.mpr ⟨np_S.mono (op := np_throw X.2.2.2 2) (np_s_throw hX ⟨116, 239, 120, _, gw610, gw80, sw944, twX11_120, toX11_120_116, Or.inl ⟨dX11_print_60, dX11_print_63, dX11_print_64, dX11_print_66, dX11_print_69⟩⟩) (nq_throw_le hT), List.forall_mem_cons.mpr ⟨np_s_aload_n hX dX11_print_70 rfl, List.forall_mem_cons.mpr ⟨np_S.mono (op := np_getf 11 6) (np_s_getf hX dX11_print_71 (C := RX11) (T := TX11) (N := 14) rfl guX11 (by decide) gw447) nw_getf_le, List.forall_mem_cons.mpr ⟨np_S.mono (op := np_callV 3 1 sp_X3_length 1 0 0 1 6) (np_s_callV hX C_X3_length dX11_print_74 (q := (RX3, TX3, 3)) rfl rfl gw948 gw65 gw945 gw946 gw947 ⟨by decide, by decide, by decide⟩ (by decide) (by decide)) nw_callV_le, List.forall_mem_cons.mpr ⟨np_S.mono (op := np_ist 2 5) (np_s_istore hX dX11_print_77 (by decide)) nw_ist_le, List.forall_mem_cons.mpr ⟨np_s_aload hX dX11_print_79, List.forall_mem_cons.mpr ⟨np_s_iload hX dX11_print_81, List.forall_mem_cons.mpr ⟨np_s_iconst hX dX11_print_83 (by decide), List.forall_mem_cons.mpr ⟨np_s_iadd hX dX11_print_84, List.forall_mem_cons.mpr ⟨np_S.mono (op := np_callV 7 2 sp_X7_takes 2 0 0 1 6) (np_s_callV hX C_X7_takes dX11_print_85 (q := (RX7, TX7, 3)) rfl rfl gw952 gw68 gw949 gw950 gw951 ⟨by decide, by decide, by decide⟩ (by decide) (by decide)) nw_callV_le, List.forall_mem_cons.mpr ⟨np_S.mono (op := np_ifne 101) (np_s_if_ne hX dX11_print_88 (by decide)) nq_ifne_le, List.forall_mem_cons.mpr ⟨np_S.mono (op := np_throw X.2.2.2 2) (np_s_throw hX ⟨116, 226, 120, _, gw610, gw80, sw953, twX11_120, toX11_120_116, Or.inl ⟨dX11_print_91, dX11_print_94, dX11_print_95, dX11_print_97, dX11_print_100⟩⟩) (nq_throw_le hT), List.forall_mem_cons.mpr ⟨np_s_iconst hX dX11_print_101 (by decide), List.forall_mem_cons.mpr ⟨np_S.mono (op := np_ist 2 6) (np_s_istore hX dX11_print_102 (by decide)) nw_ist_le, List.forall_mem_cons.mpr ⟨np_s_iload hX dX11_print_104, List.forall_mem_cons.mpr ⟨np_s_iload hX dX11_print_106, List.forall_mem_cons.mpr ⟨np_S.mono (op := np_ic (fun x y => y ≤ x) 131) (np_s_icmp_ge hX dX11_print_108 (by decide)) nq_ic_le, List.forall_mem_cons.mpr ⟨np_s_aload hX dX11_print_111, List.forall_mem_cons.mpr ⟨np_s_aload_n hX dX11_print_113 rfl, List.forall_mem_cons.mpr ⟨np_S.mono (op := np_getf 11 6) (np_s_getf hX dX11_print_114 (C := RX11) (T := TX11) (N := 14) rfl guX11 (by decide) gw447) nw_getf_le, List.forall_mem_cons.mpr ⟨np_s_iload hX dX11_print_117, List.forall_mem_cons.mpr ⟨np_S.mono (op := np_callV 3 2 sp_X3_unitAt 2 0 0 1 6) (np_s_callV hX C_X3_unitAt dX11_print_119 (q := (RX3, TX3, 3)) rfl rfl gw957 gw65 gw954 gw955 gw956 ⟨by decide, by decide, by decide⟩ (by decide) (by decide)) nw_callV_le, List.forall_mem_cons.mpr ⟨np_S.mono (op := np_callV 7 2 sp_X7_append 2 0 0 1 6) (np_s_callV hX C_X7_append dX11_print_122 (q := (RX7, TX7, 3)) rfl rfl gw961 gw68 gw958 gw959 gw960 ⟨by decide, by decide, by decide⟩ (by decide) (by decide)) nw_callV_le, List.forall_mem_cons.mpr ⟨np_S.mono (op := np_iinc 6 1) (np_s_iinc hX dX11_print_125 (by decide)) nw_iinc_le, List.forall_mem_cons.mpr ⟨np_s_goto hX dX11_print_128 (by decide), List.forall_mem_cons.mpr ⟨np_s_aload hX dX11_print_131, List.forall_mem_cons.mpr ⟨np_s_bipush hX dX11_print_133 (by decide), List.forall_mem_cons.mpr ⟨np_S.mono (op := np_callV 7 2 sp_X7_append 2 0 0 1 6) (np_s_callV hX C_X7_append dX11_print_135 (q := (RX7, TX7, 3)) rfl rfl gw961 gw68 gw958 gw959 gw960 ⟨by decide, by decide, by decide⟩ (by decide) (by decide)) nw_callV_le, List.forall_mem_cons.mpr ⟨np_s_aload hX dX11_print_138, List.forall_mem_cons.mpr ⟨np_S.mono (op := np_getf 7 1) (np_s_getN hX dX11_print_140 (C := RX7) (T := TX7) (N := 3) rfl guX7 (by decide) gw211) nw_getf_le, List.forall_mem_cons.mpr ⟨np_S.mono (op := np_ret X.2.2.1) (np_s_ret hX dX11_print_143) (nq_ret_le hR), fun _ h => nomatch h⟩⟩⟩⟩⟩⟩⟩⟩⟩⟩⟩⟩⟩⟩⟩⟩⟩⟩⟩⟩⟩⟩⟩⟩⟩⟩⟩⟩⟩⟩⟩⟩⟩⟩⟩⟩⟩⟩⟩⟩⟩⟩⟩⟩⟩⟩⟩⟩⟩⟩⟩⟩⟩
noncomputable def m_X11_print_104 : Nat → pw_S → Nat → Nat → Int32 → Int32 → pw_R (Int32 ⊕ Nat)
| 0, _, _, _, _, _ => none
| N + 1, S, v0, v4, v5, v6 =>
 if v5 ≤ v6 then
 (pw_b (m_X7_append S v4 10) fun S1 r4 =>
 some (S1, .inl (S1 53 v4 1)))
 else
 (pw_b (m_X3_unitAt S 0 v6) fun S6 r9 =>
 pw_b (m_X7_append S6 v4 r9) fun S11 r14 =>
 pw_l (v6 + 1 : Int32) fun z16 =>
 m_X11_print_104 N S11 v0 v4 v5 z16)
set_option maxRecDepth 100000 in
set_option maxHeartbeats 8000000 in
theorem L_X11_print_104 {X : np_Ctx} (hX : np_ok RX11 cX11_print 7 6 138 1 6 .ireturn X) {Q : Option Value → np_W → Prop} {QX : Nat → np_W → Prop} {q n : Nat} (hR : ∀ st w ce sl, np_rq (some .int) 1 6 Q st w ce sl → X.2.2.1 st w ce sl) (hT : ∀ i w ce sl, np_thq 1 6 QX i w ce sl → X.2.2.2 i w ce sl) : ∀ (N : Nat) (S : pw_S) (v0 : Nat) (v4 : Nat) (v5 : Int32) (v6 : Int32) (f : Nat → Option np_E) (hv0 : pw_ok q 61 v0 = true) (hv4 : pw_ok q 53 v4 = true), pw_W q (n, f) S → pw_p (m_X11_print_104 N S v0 v4 v5 v6) (fun S' rx => ∀ f', pw_W q (n, f') S' → match rx with | .inl r => Q (some (.int r)) (n, f') | .inr e => QX e (n, f')) → np_G X 104 [(0, .ref (pw_pl 61 v0)), (4, .ref (pw_pl 53 v4)), (5, .int v5), (6, .int v6)] [] (n, f) 0 0 := by
  intro N
  induction N with
  | zero =>
    intro S v0 v4 v5 v6 f hv0 hv4 hW h
    exact (pw_pn h).elim
  | succ N ih =>
    intro S v0 v4 v5 v6 f hv0 hv4 hW h
    unfold m_X11_print_104 at h
    refine np_soundW (so_X11_print hX hR hT) [104] 400 104 _ _ _ _ _ ?_
    conv => whnf
    refine pw_br h (fun _ h => ?_) (fun _ h => ?_)
    · conv => whnf
      refine np_rd_i (hW.g hv4) ?_
      conv => whnf
      refine ⟨q, S, v4, 10, rfl, hv4, hW, pw_bd h (fun S1 r4 h f2 hW3 => ?_)⟩
      conv => whnf
      refine np_rd_i (hW3.g hv4) ?_
      conv => whnf
      exact ⟨Nat.le_of_ble_eq_true rfl, Nat.le_of_ble_eq_true rfl, trivial, pw_ps h _ hW3⟩
    · conv => whnf
      refine np_rd_i (hW.g hv0) ?_
      conv => whnf
      refine np_rd_i (hW.g rfl) ?_
      conv => whnf
      refine ⟨q, S, 0, v6, rfl, rfl, hW, pw_bd h (fun S6 r9 h f7 hW8 => ?_)⟩
      conv => whnf
      refine np_rd_i (hW8.g hv4) ?_
      conv => whnf
      refine ⟨q, S6, v4, r9, rfl, hv4, hW8, pw_bd h (fun S11 r14 h f12 hW13 => ?_)⟩
      conv => whnf
      refine pw_st h (fun z16 h => ?_)
      conv => whnf
      exact np_gl (ih S11 v0 v4 v5 z16 f12 hv0 hv4 hW13 h) ⟨rfl, rfl, rfl, rfl, trivial⟩
noncomputable def m_X11_print (S : pw_S) (i0 : Nat) (x1 : Int32) (x2 : Int32) : pw_R (Int32 ⊕ Nat) :=
 pw_b (m_X11_descriptionOf S i0 x1) fun S17 r20 =>
 pw_o r20 (
 (pw_b (m_X11_fileOf S17 i0 x2) fun S23 r26 =>
 pw_o r26 (
 (some (S23, .inr 0))) (fun j28 =>
 (some (S23, .inr 0))))) (fun j22 =>
 (pw_b (m_X11_fileOf S17 i0 x2) fun S29 r32 =>
 pw_o r32 (
 (some (S29, .inr 0))) (fun j34 =>
 (pw_b (m_X3_canPrint S29 0 j22 35 0) fun S35 r38 =>
 if r38 = 0 then
 (some (S35, .inr 2))
 else
 (pw_b (m_X3_length S35 0) fun S40 r43 =>
 pw_l (r43 : Int32) fun z45 =>
 pw_b (m_X7_takes S40 j34 (z45 + 1)) fun S46 r49 =>
 if r49 = 0 then
 (some (S46, .inr 2))
 else
 (pw_l (0 : Int32) fun z51 =>
 m_X11_print_104 (pw_F 20000) S46 i0 j34 z45 z51))))))
def sp_X11_print : np_SpX := fun vs w Q QX => ∃ (q : Nat) (S : pw_S) (i0 : Nat) (x1 : Int32) (x2 : Int32), vs = [.ref (pw_pl 61 i0), .int x1, .int x2] ∧ pw_ok q 61 i0 = true ∧ pw_W q w S ∧ pw_p (m_X11_print S i0 x1 x2) (fun S' rx => ∀ f', pw_W q (w.1, f') S' → match rx with | .inl r => Q (some (.int r)) (w.1, f') | .inr e => QX e (w.1, f'))
set_option maxRecDepth 100000 in
set_option maxHeartbeats 8000000 in
theorem C_X11_print : np_CX yX11_print cX11_print 7 (some .int) 6 138 1 6 sp_X11_print := by
  refine np_ofX (by decide) (by decide) (by decide) ?_
  intro X vs w Q QX hsp hX hmn hRt hTh
  obtain ⟨q, S, i0, x1, x2, rfl, hi0, hW, h⟩ := hsp
  obtain ⟨n, f⟩ := w
  unfold m_X11_print at h
  have hR : ∀ st w ce sl, np_rq (some .int) 1 6 Q st w ce sl → X.2.2.1 st w ce sl := fun _ _ _ _ h => by rw [hRt]; exact h
  have hT : ∀ i w ce sl, np_thq 1 6 QX i w ce sl → X.2.2.2 i w ce sl := fun _ _ _ _ h => by rw [hTh]; exact h
  refine np_soundW (so_X11_print hX hR hT) [104] 400 0 _ _ _ _ _ ?_
  conv => whnf
  refine np_rd_i (hW.g hi0) ?_
  conv => whnf
  refine ⟨q, S, i0, x1, rfl, hi0, hW, pw_bd h (fun S17 r20 h f18 hW19 ho21 => ?_)⟩
  rcases r20 with _ | j22
  · replace h := pw_on h
    conv => whnf
    refine np_rd_i (hW19.g hi0) ?_
    conv => whnf
    refine ⟨q, S17, i0, x2, rfl, hi0, hW19, pw_bd h (fun S23 r26 h f24 hW25 ho27 => ?_)⟩
    rcases r26 with _ | j28
    · replace h := pw_on h
      conv => whnf
      exact ⟨Nat.le_of_ble_eq_true rfl, Nat.le_of_ble_eq_true rfl, pw_ps h _ hW25⟩
    · replace h := pw_os h
      replace ho27 : pw_ok q 53 j28 = true := ho27
      conv => whnf
      exact ⟨Nat.le_of_ble_eq_true rfl, Nat.le_of_ble_eq_true rfl, pw_ps h _ hW25⟩
  · replace h := pw_os h
    replace ho21 : pw_ok q 52 j22 = true := ho21
    conv => whnf
    refine np_rd_i (hW19.g hi0) ?_
    conv => whnf
    refine ⟨q, S17, i0, x2, rfl, hi0, hW19, pw_bd h (fun S29 r32 h f30 hW31 ho33 => ?_)⟩
    rcases r32 with _ | j34
    · replace h := pw_on h
      conv => whnf
      exact ⟨Nat.le_of_ble_eq_true rfl, Nat.le_of_ble_eq_true rfl, pw_ps h _ hW31⟩
    · replace h := pw_os h
      replace ho33 : pw_ok q 53 j34 = true := ho33
      conv => whnf
      refine np_rd_i (hW31.g hi0) ?_
      conv => whnf
      refine np_rd_i (hW31.g ho21) ?_
      conv => whnf
      refine np_rd_i (hW31.g hi0) ?_
      conv => whnf
      refine np_rd_i (hW31.g rfl) ?_
      conv => whnf
      refine ⟨q, S29, 0, j22, 35, 0, rfl, rfl, (pw_okl (a := 52) (b := 51) rfl rfl rfl ho21), rfl, rfl, hW31, pw_bd h (fun S35 r38 h f36 hW37 => ?_)⟩
      conv => whnf
      refine pw_br h (fun _ h => ?_) (fun _ h => ?_)
      · conv => whnf
        exact ⟨Nat.le_of_ble_eq_true rfl, Nat.le_of_ble_eq_true rfl, pw_ps h _ hW37⟩
      · conv => whnf
        refine np_rd_i (hW37.g hi0) ?_
        conv => whnf
        refine np_rd_i (hW37.g rfl) ?_
        conv => whnf
        refine ⟨q, S35, 0, rfl, rfl, hW37, pw_bd h (fun S40 r43 h f41 hW42 => ?_)⟩
        conv => whnf
        refine pw_st h (fun z45 h => ?_)
        conv => whnf
        refine np_rd_i (hW42.g ho33) ?_
        conv => whnf
        refine ⟨q, S40, j34, (z45 + 1), rfl, ho33, hW42, pw_bd h (fun S46 r49 h f47 hW48 => ?_)⟩
        conv => whnf
        refine pw_br h (fun _ h => ?_) (fun _ h => ?_)
        · conv => whnf
          exact ⟨Nat.le_of_ble_eq_true rfl, Nat.le_of_ble_eq_true rfl, pw_ps h _ hW48⟩
        · conv => whnf
          refine pw_st h (fun z51 h => ?_)
          conv => whnf
          exact np_gl (L_X11_print_104 hX hR hT (pw_F 20000) S46 i0 j34 z45 z51 f47 hi0 ho33 hW48 h) ⟨rfl, rfl, rfl, rfl, trivial⟩
theorem dX11_close_0 : decode cX11_close 0 = .ok (.aload_n 0, 1) := by decide +kernel
theorem dX11_close_1 : decode cX11_close 1 = .ok (.iload_n 1, 1) := by decide +kernel
theorem dX11_close_2 : decode cX11_close 2 = .ok (.invokevirtual 211, 3) := by decide +kernel
theorem dX11_close_5 : decode cX11_close 5 = .ok (.astore_n 2, 1) := by decide +kernel
theorem dX11_close_6 : decode cX11_close 6 = .ok (.aload_n 2, 1) := by decide +kernel
theorem dX11_close_7 : decode cX11_close 7 = .ok (.ifnonnull 13, 3) := by decide +kernel
theorem dX11_close_10 : decode cX11_close 10 = .ok (.new 96, 3) := by decide +kernel
theorem dX11_close_13 : decode cX11_close 13 = .ok (.dup, 1) := by decide +kernel
theorem dX11_close_14 : decode cX11_close 14 = .ok (.ldc 215, 2) := by decide +kernel
theorem dX11_close_16 : decode cX11_close 16 = .ok (.invokespecial 100, 3) := by decide +kernel
theorem dX11_close_19 : decode cX11_close 19 = .ok (.athrow, 1) := by decide +kernel
theorem dX11_close_20 : decode cX11_close 20 = .ok (.aload_n 2, 1) := by decide +kernel
theorem dX11_close_21 : decode cX11_close 21 = .ok (.getfield 246, 3) := by decide +kernel
theorem dX11_close_24 : decode cX11_close 24 = .ok (.istore_n 3, 1) := by decide +kernel
theorem dX11_close_25 : decode cX11_close 25 = .ok (.aload_n 2, 1) := by decide +kernel
theorem dX11_close_26 : decode cX11_close 26 = .ok (.iconst 0, 1) := by decide +kernel
theorem dX11_close_27 : decode cX11_close 27 = .ok (.putfield 246, 3) := by decide +kernel
theorem dX11_close_30 : decode cX11_close 30 = .ok (.iload_n 3, 1) := by decide +kernel
theorem dX11_close_31 : decode cX11_close 31 = .ok (.ireturn, 1) := by decide +kernel
def is_X11_close (Rt : np_Rt) (Th : np_Th) : List (Nat × np_Op) := [(0, np_ald 1 0), (1, np_ild 1 1), (2, nw_callV 11 2 sp_X11_fileOf 2 0 0 1 6), (5, np_ast 1 2), (6, np_ald 1 2), (7, np_ifnonnull 20), (10, nq_throw Th 0), (20, np_ald 1 2), (21, nw_getf 7 2), (24, nw_ist 1 3), (25, np_ald 1 2), (26, np_push 1 (.int 0)), (27, nw_putf 7 2 (.boolean)), (30, np_ild 1 3), (31, np_ret Rt)]
set_option maxRecDepth 20000 in
theorem so_X11_close {X : np_Ctx} {Rt : np_Rt} {Th : np_Th} (hX : np_ok RX11 cX11_close 4 6 100 1 6 .ireturn X) (hR : ∀ st w ce sl, Rt st w ce sl → X.2.2.1 st w ce sl) (hT : ∀ i w ce sl, Th i w ce sl → X.2.2.2 i w ce sl) : ∀ q ∈ is_X11_close Rt Th, np_S X q.1 q.2 :=
  List.forall_mem_cons.mpr ⟨np_s_aload_n hX dX11_close_0 rfl, List.forall_mem_cons.mpr ⟨np_s_iload_n hX dX11_close_1 rfl, List.forall_mem_cons.mpr ⟨np_S.mono (op := np_callV 11 2 sp_X11_fileOf 2 0 0 1 6) (np_s_callV hX C_X11_fileOf dX11_close_2 (q := (RX11, TX11, 14)) rfl rfl gw941 gw63 gw938 gw940 gw17 ⟨by decide, by decide, by decide⟩ (by decide) (by decide)) nw_callV_le, List.forall_mem_cons.mpr ⟨np_s_astore_n hX dX11_close_5 rfl (by decide), List.forall_mem_cons.mpr ⟨np_s_aload_n hX dX11_close_6 rfl, List.forall_mem_cons.mpr ⟨np_s_ifnonnull hX dX11_close_7 (by decide), List.forall_mem_cons.mpr ⟨np_S.mono (op := np_throw X.2.2.2 0) (np_s_throw hX ⟨96, 215, 100, _, gw516, gw78, sw942, twX11_100, toX11_100_96, Or.inl ⟨dX11_close_10, dX11_close_13, dX11_close_14, dX11_close_16, dX11_close_19⟩⟩) (nq_throw_le hT), List.forall_mem_cons.mpr ⟨np_s_aload_n hX dX11_close_20 rfl, List.forall_mem_cons.mpr ⟨np_S.mono (op := np_getf 7 2) (np_s_getN hX dX11_close_21 (C := RX7) (T := TX7) (N := 3) rfl guX7 (by decide) gw213) nw_getf_le, List.forall_mem_cons.mpr ⟨np_S.mono (op := np_ist 1 3) (np_s_istore_n hX dX11_close_24 rfl (by decide)) nw_ist_le, List.forall_mem_cons.mpr ⟨np_s_aload_n hX dX11_close_25 rfl, List.forall_mem_cons.mpr ⟨np_s_iconst hX dX11_close_26 (by decide), List.forall_mem_cons.mpr ⟨np_S.mono (op := np_putf 7 2 (.boolean)) (np_s_putN hX dX11_close_27 (C := RX7) (T := TX7) (N := 3) (ty0 := tyX7) rfl guX7 tyX7_ok nmX7 (by decide) gw213 rfl rfl) nw_putf_le, List.forall_mem_cons.mpr ⟨np_s_iload_n hX dX11_close_30 rfl, List.forall_mem_cons.mpr ⟨np_S.mono (op := np_ret X.2.2.1) (np_s_ret hX dX11_close_31) (nq_ret_le hR), fun _ h => nomatch h⟩⟩⟩⟩⟩⟩⟩⟩⟩⟩⟩⟩⟩⟩⟩
noncomputable def m_X11_close (S : pw_S) (i0 : Nat) (x1 : Int32) : pw_R (Int32 ⊕ Nat) :=
 pw_b (m_X11_fileOf S i0 x1) fun S1 r4 =>
 pw_o r4 (
 (some (S1, .inr 0))) (fun j6 =>
 (pw_l ((S1 53 j6 2) : Int32) fun z7 =>
 pw_l (pw_up S1 53 j6 (upd (S1 53 j6) 2 0)) fun S8 =>
 pw_c (decide (z7 = 0) || decide (z7 = 1)) <|
 some (S8, .inl z7)))
def sp_X11_close : np_SpX := fun vs w Q QX => ∃ (q : Nat) (S : pw_S) (i0 : Nat) (x1 : Int32), vs = [.ref (pw_pl 61 i0), .int x1] ∧ pw_ok q 61 i0 = true ∧ pw_W q w S ∧ pw_p (m_X11_close S i0 x1) (fun S' rx => ∀ f', pw_W q (w.1, f') S' → match rx with | .inl r => Q (some (.int r)) (w.1, f') | .inr e => QX e (w.1, f'))
set_option maxRecDepth 100000 in
set_option maxHeartbeats 8000000 in
theorem C_X11_close : np_CX yX11_close cX11_close 4 (some .boolean) 6 100 1 6 sp_X11_close := by
  refine np_ofX (by decide) (by decide) (by decide) ?_
  intro X vs w Q QX hsp hX hmn hRt hTh
  obtain ⟨q, S, i0, x1, rfl, hi0, hW, h⟩ := hsp
  obtain ⟨n, f⟩ := w
  unfold m_X11_close at h
  have hR : ∀ st w ce sl, np_rq (some .boolean) 1 6 Q st w ce sl → X.2.2.1 st w ce sl := fun _ _ _ _ h => by rw [hRt]; exact h
  have hT : ∀ i w ce sl, np_thq 1 6 QX i w ce sl → X.2.2.2 i w ce sl := fun _ _ _ _ h => by rw [hTh]; exact h
  refine np_soundW (so_X11_close hX hR hT) [] 400 0 _ _ _ _ _ ?_
  conv => whnf
  refine np_rd_i (hW.g hi0) ?_
  conv => whnf
  refine ⟨q, S, i0, x1, rfl, hi0, hW, pw_bd h (fun S1 r4 h f2 hW3 ho5 => ?_)⟩
  rcases r4 with _ | j6
  · replace h := pw_on h
    conv => whnf
    exact ⟨Nat.le_of_ble_eq_true rfl, Nat.le_of_ble_eq_true rfl, pw_ps h _ hW3⟩
  · replace h := pw_os h
    replace ho5 : pw_ok q 53 j6 = true := ho5
    conv => whnf
    refine np_rd_i (hW3.g ho5) ?_
    conv => whnf
    refine pw_st h (fun z7 h => ?_)
    conv => whnf
    refine np_rd_i (hW3.g ho5) ?_
    conv => whnf
    refine pw_wr (a := 53) (i := j6) (d := upd (S1 53 j6) 2 0) hW3 ho5 rfl h (fun S8 f9 hW10 h => ?_)
    conv => whnf
    obtain ⟨hb11, h⟩ := pw_ck1 h
    conv => whnf
    exact ⟨Nat.le_of_ble_eq_true rfl, Nat.le_of_ble_eq_true rfl, (pw_nz hb11), pw_ps h _ hW10⟩
theorem dX11_unit_0 : decode cX11_unit 0 = .ok (.aload_n 0, 1) := by decide +kernel
theorem dX11_unit_1 : decode cX11_unit 1 = .ok (.iload_n 1, 1) := by decide +kernel
theorem dX11_unit_2 : decode cX11_unit 2 = .ok (.invokevirtual 211, 3) := by decide +kernel
theorem dX11_unit_5 : decode cX11_unit 5 = .ok (.astore_n 3, 1) := by decide +kernel
theorem dX11_unit_6 : decode cX11_unit 6 = .ok (.aload_n 3, 1) := by decide +kernel
theorem dX11_unit_7 : decode cX11_unit 7 = .ok (.ifnonnull 13, 3) := by decide +kernel
theorem dX11_unit_10 : decode cX11_unit 10 = .ok (.new 96, 3) := by decide +kernel
theorem dX11_unit_13 : decode cX11_unit 13 = .ok (.dup, 1) := by decide +kernel
theorem dX11_unit_14 : decode cX11_unit 14 = .ok (.ldc 215, 2) := by decide +kernel
theorem dX11_unit_16 : decode cX11_unit 16 = .ok (.invokespecial 100, 3) := by decide +kernel
theorem dX11_unit_19 : decode cX11_unit 19 = .ok (.athrow, 1) := by decide +kernel
theorem dX11_unit_20 : decode cX11_unit 20 = .ok (.aload_n 3, 1) := by decide +kernel
theorem dX11_unit_21 : decode cX11_unit 21 = .ok (.iload_n 2, 1) := by decide +kernel
theorem dX11_unit_22 : decode cX11_unit 22 = .ok (.invokevirtual 250, 3) := by decide +kernel
theorem dX11_unit_25 : decode cX11_unit 25 = .ok (.istore 4, 2) := by decide +kernel
theorem dX11_unit_27 : decode cX11_unit 27 = .ok (.iload 4, 2) := by decide +kernel
theorem dX11_unit_29 : decode cX11_unit 29 = .ok (.iconst (-1), 1) := by decide +kernel
theorem dX11_unit_30 : decode cX11_unit 30 = .ok (.if_icmp .ne 13, 3) := by decide +kernel
theorem dX11_unit_33 : decode cX11_unit 33 = .ok (.new 96, 3) := by decide +kernel
theorem dX11_unit_36 : decode cX11_unit 36 = .ok (.dup, 1) := by decide +kernel
theorem dX11_unit_37 : decode cX11_unit 37 = .ok (.ldc 251, 2) := by decide +kernel
theorem dX11_unit_39 : decode cX11_unit 39 = .ok (.invokespecial 100, 3) := by decide +kernel
theorem dX11_unit_42 : decode cX11_unit 42 = .ok (.athrow, 1) := by decide +kernel
theorem dX11_unit_43 : decode cX11_unit 43 = .ok (.iload 4, 2) := by decide +kernel
theorem dX11_unit_45 : decode cX11_unit 45 = .ok (.i2c, 1) := by decide +kernel
theorem dX11_unit_46 : decode cX11_unit 46 = .ok (.ireturn, 1) := by decide +kernel
def is_X11_unit (Rt : np_Rt) (Th : np_Th) : List (Nat × np_Op) := [(0, np_ald 1 0), (1, np_ild 1 1), (2, nw_callV 11 2 sp_X11_fileOf 2 0 0 1 6), (5, np_ast 1 3), (6, np_ald 1 3), (7, np_ifnonnull 20), (10, nq_throw Th 0), (20, np_ald 1 3), (21, np_ild 1 2), (22, nw_callV 7 2 sp_X7_unitAt 2 0 0 1 6), (25, nw_ist 2 4), (27, np_ild 2 4), (29, np_push 1 (.int (-1))), (30, nq_icne 43), (33, nq_throw Th 0), (43, np_ild 2 4), (45, np_iu (fun x => (x.toUInt32 % 65536).toInt32)), (46, np_ret Rt)]
set_option maxRecDepth 20000 in
theorem so_X11_unit {X : np_Ctx} {Rt : np_Rt} {Th : np_Th} (hX : np_ok RX11 cX11_unit 5 6 100 1 6 .ireturn X) (hR : ∀ st w ce sl, Rt st w ce sl → X.2.2.1 st w ce sl) (hT : ∀ i w ce sl, Th i w ce sl → X.2.2.2 i w ce sl) : ∀ q ∈ is_X11_unit Rt Th, np_S X q.1 q.2 :=
  List.forall_mem_cons.mpr ⟨np_s_aload_n hX dX11_unit_0 rfl, List.forall_mem_cons.mpr ⟨np_s_iload_n hX dX11_unit_1 rfl, List.forall_mem_cons.mpr ⟨np_S.mono (op := np_callV 11 2 sp_X11_fileOf 2 0 0 1 6) (np_s_callV hX C_X11_fileOf dX11_unit_2 (q := (RX11, TX11, 14)) rfl rfl gw941 gw63 gw938 gw940 gw17 ⟨by decide, by decide, by decide⟩ (by decide) (by decide)) nw_callV_le, List.forall_mem_cons.mpr ⟨np_s_astore_n hX dX11_unit_5 rfl (by decide), List.forall_mem_cons.mpr ⟨np_s_aload_n hX dX11_unit_6 rfl, List.forall_mem_cons.mpr ⟨np_s_ifnonnull hX dX11_unit_7 (by decide), List.forall_mem_cons.mpr ⟨np_S.mono (op := np_throw X.2.2.2 0) (np_s_throw hX ⟨96, 215, 100, _, gw516, gw78, sw942, twX11_100, toX11_100_96, Or.inl ⟨dX11_unit_10, dX11_unit_13, dX11_unit_14, dX11_unit_16, dX11_unit_19⟩⟩) (nq_throw_le hT), List.forall_mem_cons.mpr ⟨np_s_aload_n hX dX11_unit_20 rfl, List.forall_mem_cons.mpr ⟨np_s_iload_n hX dX11_unit_21 rfl, List.forall_mem_cons.mpr ⟨np_S.mono (op := np_callV 7 2 sp_X7_unitAt 2 0 0 1 6) (np_s_callV hX C_X7_unitAt dX11_unit_22 (q := (RX7, TX7, 3)) rfl rfl gw989 gw68 gw1182 gw987 gw988 ⟨by decide, by decide, by decide⟩ (by decide) (by decide)) nw_callV_le, List.forall_mem_cons.mpr ⟨np_S.mono (op := np_ist 2 4) (np_s_istore hX dX11_unit_25 (by decide)) nw_ist_le, List.forall_mem_cons.mpr ⟨np_s_iload hX dX11_unit_27, List.forall_mem_cons.mpr ⟨np_s_iconst hX dX11_unit_29 (by decide), List.forall_mem_cons.mpr ⟨np_S.mono (op := np_icne 43) (np_s_icmp_ne hX dX11_unit_30 (by decide)) nq_icne_le, List.forall_mem_cons.mpr ⟨np_S.mono (op := np_throw X.2.2.2 0) (np_s_throw hX ⟨96, 251, 100, _, gw516, gw78, sw1183, twX11_100, toX11_100_96, Or.inl ⟨dX11_unit_33, dX11_unit_36, dX11_unit_37, dX11_unit_39, dX11_unit_42⟩⟩) (nq_throw_le hT), List.forall_mem_cons.mpr ⟨np_s_iload hX dX11_unit_43, List.forall_mem_cons.mpr ⟨np_s_i2c hX dX11_unit_45, List.forall_mem_cons.mpr ⟨np_S.mono (op := np_ret X.2.2.1) (np_s_ret hX dX11_unit_46) (nq_ret_le hR), fun _ h => nomatch h⟩⟩⟩⟩⟩⟩⟩⟩⟩⟩⟩⟩⟩⟩⟩⟩⟩⟩
noncomputable def m_X11_unit (S : pw_S) (i0 : Nat) (x1 : Int32) (x2 : Int32) : pw_R (Int32 ⊕ Nat) :=
 pw_b (m_X11_fileOf S i0 x1) fun S1 r4 =>
 pw_o r4 (
 (some (S1, .inr 0))) (fun j6 =>
 (pw_b (m_X7_unitAt S1 j6 x2) fun S7 r10 =>
 pw_l (r10 : Int32) fun z12 =>
 if z12 = (-1) then
 (some (S7, .inr 0))
 else
 (some (S7, .inl (((z12).toUInt32 % 65536).toInt32)))))
def sp_X11_unit : np_SpX := fun vs w Q QX => ∃ (q : Nat) (S : pw_S) (i0 : Nat) (x1 : Int32) (x2 : Int32), vs = [.ref (pw_pl 61 i0), .int x1, .int x2] ∧ pw_ok q 61 i0 = true ∧ pw_W q w S ∧ pw_p (m_X11_unit S i0 x1 x2) (fun S' rx => ∀ f', pw_W q (w.1, f') S' → match rx with | .inl r => Q (some (.int r)) (w.1, f') | .inr e => QX e (w.1, f'))
set_option maxRecDepth 100000 in
set_option maxHeartbeats 8000000 in
theorem C_X11_unit : np_CX yX11_unit cX11_unit 5 (some .char) 6 100 1 6 sp_X11_unit := by
  refine np_ofX (by decide) (by decide) (by decide) ?_
  intro X vs w Q QX hsp hX hmn hRt hTh
  obtain ⟨q, S, i0, x1, x2, rfl, hi0, hW, h⟩ := hsp
  obtain ⟨n, f⟩ := w
  unfold m_X11_unit at h
  have hR : ∀ st w ce sl, np_rq (some .char) 1 6 Q st w ce sl → X.2.2.1 st w ce sl := fun _ _ _ _ h => by rw [hRt]; exact h
  have hT : ∀ i w ce sl, np_thq 1 6 QX i w ce sl → X.2.2.2 i w ce sl := fun _ _ _ _ h => by rw [hTh]; exact h
  refine np_soundW (so_X11_unit hX hR hT) [] 400 0 _ _ _ _ _ ?_
  conv => whnf
  refine np_rd_i (hW.g hi0) ?_
  conv => whnf
  refine ⟨q, S, i0, x1, rfl, hi0, hW, pw_bd h (fun S1 r4 h f2 hW3 ho5 => ?_)⟩
  rcases r4 with _ | j6
  · replace h := pw_on h
    conv => whnf
    exact ⟨Nat.le_of_ble_eq_true rfl, Nat.le_of_ble_eq_true rfl, pw_ps h _ hW3⟩
  · replace h := pw_os h
    replace ho5 : pw_ok q 53 j6 = true := ho5
    conv => whnf
    refine np_rd_i (hW3.g ho5) ?_
    conv => whnf
    refine ⟨q, S1, j6, x2, rfl, ho5, hW3, pw_bd h (fun S7 r10 h f8 hW9 => ?_)⟩
    conv => whnf
    refine pw_st h (fun z12 h => ?_)
    conv => whnf
    refine pw_br h (fun _ h => ?_) (fun _ h => ?_)
    · conv => whnf
      exact ⟨Nat.le_of_ble_eq_true rfl, Nat.le_of_ble_eq_true rfl, pw_ps h _ hW9⟩
    · conv => whnf
      exact ⟨Nat.le_of_ble_eq_true rfl, Nat.le_of_ble_eq_true rfl, (pw_nc _), pw_ps h _ hW9⟩
theorem dX11_readings_0 : decode cX11_readings 0 = .ok (.aload_n 0, 1) := by decide +kernel
theorem dX11_readings_1 : decode cX11_readings 1 = .ok (.iload_n 1, 1) := by decide +kernel
theorem dX11_readings_2 : decode cX11_readings 2 = .ok (.invokevirtual 147, 3) := by decide +kernel
theorem dX11_readings_5 : decode cX11_readings 5 = .ok (.astore 4, 2) := by decide +kernel
theorem dX11_readings_7 : decode cX11_readings 7 = .ok (.aload_n 0, 1) := by decide +kernel
theorem dX11_readings_8 : decode cX11_readings 8 = .ok (.iload_n 2, 1) := by decide +kernel
theorem dX11_readings_9 : decode cX11_readings 9 = .ok (.invokevirtual 211, 3) := by decide +kernel
theorem dX11_readings_12 : decode cX11_readings 12 = .ok (.astore 5, 2) := by decide +kernel
theorem dX11_readings_14 : decode cX11_readings 14 = .ok (.aload 4, 2) := by decide +kernel
theorem dX11_readings_16 : decode cX11_readings 16 = .ok (.ifnonnull 13, 3) := by decide +kernel
theorem dX11_readings_19 : decode cX11_readings 19 = .ok (.new 96, 3) := by decide +kernel
theorem dX11_readings_22 : decode cX11_readings 22 = .ok (.dup, 1) := by decide +kernel
theorem dX11_readings_23 : decode cX11_readings 23 = .ok (.ldc 151, 2) := by decide +kernel
theorem dX11_readings_25 : decode cX11_readings 25 = .ok (.invokespecial 100, 3) := by decide +kernel
theorem dX11_readings_28 : decode cX11_readings 28 = .ok (.athrow, 1) := by decide +kernel
theorem dX11_readings_29 : decode cX11_readings 29 = .ok (.aload 5, 2) := by decide +kernel
theorem dX11_readings_31 : decode cX11_readings 31 = .ok (.ifnull 12, 3) := by decide +kernel
theorem dX11_readings_34 : decode cX11_readings 34 = .ok (.aload 5, 2) := by decide +kernel
theorem dX11_readings_36 : decode cX11_readings 36 = .ok (.iload_n 3, 1) := by decide +kernel
theorem dX11_readings_37 : decode cX11_readings 37 = .ok (.invokevirtual 253, 3) := by decide +kernel
theorem dX11_readings_40 : decode cX11_readings 40 = .ok (.ifCond .ne 14, 3) := by decide +kernel
theorem dX11_readings_43 : decode cX11_readings 43 = .ok (.new 96, 3) := by decide +kernel
theorem dX11_readings_46 : decode cX11_readings 46 = .ok (.dup, 1) := by decide +kernel
theorem dX11_readings_47 : decode cX11_readings 47 = .ok (.ldc_w 256, 3) := by decide +kernel
theorem dX11_readings_50 : decode cX11_readings 50 = .ok (.invokespecial 100, 3) := by decide +kernel
theorem dX11_readings_53 : decode cX11_readings 53 = .ok (.athrow, 1) := by decide +kernel
theorem dX11_readings_54 : decode cX11_readings 54 = .ok (.iconst 0, 1) := by decide +kernel
theorem dX11_readings_55 : decode cX11_readings 55 = .ok (.istore 6, 2) := by decide +kernel
theorem dX11_readings_57 : decode cX11_readings 57 = .ok (.aload_n 0, 1) := by decide +kernel
theorem dX11_readings_58 : decode cX11_readings 58 = .ok (.getfield 54, 3) := by decide +kernel
theorem dX11_readings_61 : decode cX11_readings 61 = .ok (.aload 4, 2) := by decide +kernel
theorem dX11_readings_63 : decode cX11_readings 63 = .ok (.getfield 140, 3) := by decide +kernel
theorem dX11_readings_66 : decode cX11_readings 66 = .ok (.aload 5, 2) := by decide +kernel
theorem dX11_readings_68 : decode cX11_readings 68 = .ok (.iload_n 3, 1) := by decide +kernel
theorem dX11_readings_69 : decode cX11_readings 69 = .ok (.invokevirtual 258, 3) := by decide +kernel
theorem dX11_readings_72 : decode cX11_readings 72 = .ok (.iconst 0, 1) := by decide +kernel
theorem dX11_readings_73 : decode cX11_readings 73 = .ok (.istore 7, 2) := by decide +kernel
theorem dX11_readings_75 : decode cX11_readings 75 = .ok (.iload 7, 2) := by decide +kernel
theorem dX11_readings_77 : decode cX11_readings 77 = .ok (.sipush 10000, 3) := by decide +kernel
theorem dX11_readings_80 : decode cX11_readings 80 = .ok (.if_icmp .ge 22, 3) := by decide +kernel
theorem dX11_readings_83 : decode cX11_readings 83 = .ok (.aload_n 0, 1) := by decide +kernel
theorem dX11_readings_84 : decode cX11_readings 84 = .ok (.getfield 54, 3) := by decide +kernel
theorem dX11_readings_87 : decode cX11_readings 87 = .ok (.invokevirtual 262, 3) := by decide +kernel
theorem dX11_readings_90 : decode cX11_readings 90 = .ok (.ifCond .eq 12, 3) := by decide +kernel
theorem dX11_readings_93 : decode cX11_readings 93 = .ok (.iinc 6 1, 3) := by decide +kernel
theorem dX11_readings_96 : decode cX11_readings 96 = .ok (.iinc 7 1, 3) := by decide +kernel
theorem dX11_readings_99 : decode cX11_readings 99 = .ok (.goto (-24), 3) := by decide +kernel
theorem dX11_readings_102 : decode cX11_readings 102 = .ok (.aload_n 0, 1) := by decide +kernel
theorem dX11_readings_103 : decode cX11_readings 103 = .ok (.getfield 54, 3) := by decide +kernel
theorem dX11_readings_106 : decode cX11_readings 106 = .ok (.getfield 265, 3) := by decide +kernel
theorem dX11_readings_109 : decode cX11_readings 109 = .ok (.ifCond .eq 7, 3) := by decide +kernel
theorem dX11_readings_112 : decode cX11_readings 112 = .ok (.iconst (-1), 1) := by decide +kernel
theorem dX11_readings_113 : decode cX11_readings 113 = .ok (.goto 10, 3) := by decide +kernel
theorem dX11_readings_116 : decode cX11_readings 116 = .ok (.iload 6, 2) := by decide +kernel
theorem dX11_readings_118 : decode cX11_readings 118 = .ok (.bipush 99, 2) := by decide +kernel
theorem dX11_readings_120 : decode cX11_readings 120 = .ok (.invokestatic 268, 3) := by decide +kernel
theorem dX11_readings_123 : decode cX11_readings 123 = .ok (.ireturn, 1) := by decide +kernel
def is_X11_readings (Rt : np_Rt) (Th : np_Th) : List (Nat × np_Op) := [(0, np_ald 1 0), (1, np_ild 1 1), (2, nw_callV 11 2 sp_X11_descriptionOf 3 0 0 1 6), (5, np_ast 2 4), (7, np_ald 1 0), (8, np_ild 1 2), (9, nw_callV 11 2 sp_X11_fileOf 2 0 0 1 6), (12, np_ast 2 5), (14, np_ald 2 4), (16, np_ifnonnull 29), (19, nq_throw Th 0), (29, np_ald 2 5), (31, np_ifnull 43), (34, np_ald 2 5), (36, np_ild 1 3), (37, nw_callV 7 2 sp_X7_hasPlace 2 0 0 1 6), (40, nq_ifne 54), (43, nq_throw Th 0), (54, np_push 1 (.int 0)), (55, nw_ist 2 6), (57, np_ald 1 0), (58, nw_getf 11 7), (61, np_ald 2 4), (63, nw_getf 1 0), (66, np_ald 2 5), (68, np_ild 1 3), (69, nw_callV 4 4 sp_X4_begin 5 0 0 1 6), (72, np_push 1 (.int 0)), (73, nw_ist 2 7), (75, np_ild 2 7), (77, np_push 3 (.int 10000)), (80, nq_ic (fun x y => y ≤ x) 102), (83, np_ald 1 0), (84, nw_getf 11 7), (87, nw_callV 4 1 sp_X4_goToNext 3 0 0 1 6), (90, nq_if (fun x => x = 0) 102), (93, nw_iinc 6 1), (96, nw_iinc 7 1), (99, np_goto 75), (102, np_ald 1 0), (103, nw_getf 11 7), (106, nw_getf 4 10), (109, nq_if (fun x => x = 0) 116), (112, np_push 1 (.int (-1))), (113, np_goto 123), (116, np_ild 2 6), (118, np_push 2 (.int 99)), (120, nq_mm 1 6), (123, np_ret Rt)]
set_option maxRecDepth 20000 in
theorem so_X11_readings {X : np_Ctx} {Rt : np_Rt} {Th : np_Th} (hX : np_ok RX11 cX11_readings 8 7 197 1 6 .ireturn X) (hR : ∀ st w ce sl, Rt st w ce sl → X.2.2.1 st w ce sl) (hT : ∀ i w ce sl, Th i w ce sl → X.2.2.2 i w ce sl) : ∀ q ∈ is_X11_readings Rt Th, np_S X q.1 q.2 :=
  List.forall_mem_cons.mpr ⟨np_s_aload_n hX dX11_readings_0 rfl, List.forall_mem_cons.mpr ⟨np_s_iload_n hX dX11_readings_1 rfl, List.forall_mem_cons.mpr ⟨np_S.mono (op := np_callV 11 2 sp_X11_descriptionOf 3 0 0 1 6) (np_s_callV hX C_X11_descriptionOf dX11_readings_2 (q := (RX11, TX11, 14)) rfl rfl gw699 gw63 gw696 gw698 gw3 ⟨by decide, by decide, by decide⟩ (by decide) (by decide)) nw_callV_le, List.forall_mem_cons.mpr ⟨np_s_astore hX dX11_readings_5 (by decide), List.forall_mem_cons.mpr ⟨np_s_aload_n hX dX11_readings_7 rfl, List.forall_mem_cons.mpr ⟨np_s_iload_n hX dX11_readings_8 rfl, List.forall_mem_cons.mpr ⟨np_S.mono (op := np_callV 11 2 sp_X11_fileOf 2 0 0 1 6) (np_s_callV hX C_X11_fileOf dX11_readings_9 (q := (RX11, TX11, 14)) rfl rfl gw941 gw63 gw938 gw940 gw17 ⟨by decide, by decide, by decide⟩ (by decide) (by decide)) nw_callV_le, List.forall_mem_cons.mpr ⟨np_s_astore hX dX11_readings_12 (by decide), List.forall_mem_cons.mpr ⟨np_s_aload hX dX11_readings_14, List.forall_mem_cons.mpr ⟨np_s_ifnonnull hX dX11_readings_16 (by decide), List.forall_mem_cons.mpr ⟨np_S.mono (op := np_throw X.2.2.2 0) (np_s_throw hX ⟨96, 151, 100, _, gw516, gw78, sw700, twX11_100, toX11_100_96, Or.inl ⟨dX11_readings_19, dX11_readings_22, dX11_readings_23, dX11_readings_25, dX11_readings_28⟩⟩) (nq_throw_le hT), List.forall_mem_cons.mpr ⟨np_s_aload hX dX11_readings_29, List.forall_mem_cons.mpr ⟨np_s_ifnull hX dX11_readings_31 (by decide), List.forall_mem_cons.mpr ⟨np_s_aload hX dX11_readings_34, List.forall_mem_cons.mpr ⟨np_s_iload_n hX dX11_readings_36 rfl, List.forall_mem_cons.mpr ⟨np_S.mono (op := np_callV 7 2 sp_X7_hasPlace 2 0 0 1 6) (np_s_callV hX C_X7_hasPlace dX11_readings_37 (q := (RX7, TX7, 3)) rfl rfl gw1138 gw68 gw1135 gw1136 gw1137 ⟨by decide, by decide, by decide⟩ (by decide) (by decide)) nw_callV_le, List.forall_mem_cons.mpr ⟨np_S.mono (op := np_ifne 54) (np_s_if_ne hX dX11_readings_40 (by decide)) nq_ifne_le, List.forall_mem_cons.mpr ⟨np_S.mono (op := np_throw X.2.2.2 0) (np_s_throw hX ⟨96, 256, 100, _, gw516, gw78, sw1139, twX11_100, toX11_100_96, Or.inr ⟨dX11_readings_43, dX11_readings_46, dX11_readings_47, dX11_readings_50, dX11_readings_53⟩⟩) (nq_throw_le hT), List.forall_mem_cons.mpr ⟨np_s_iconst hX dX11_readings_54 (by decide), List.forall_mem_cons.mpr ⟨np_S.mono (op := np_ist 2 6) (np_s_istore hX dX11_readings_55 (by decide)) nw_ist_le, List.forall_mem_cons.mpr ⟨np_s_aload_n hX dX11_readings_57 rfl, List.forall_mem_cons.mpr ⟨np_S.mono (op := np_getf 11 7) (np_s_getf hX dX11_readings_58 (C := RX11) (T := TX11) (N := 14) rfl guX11 (by decide) gw448) nw_getf_le, List.forall_mem_cons.mpr ⟨np_s_aload hX dX11_readings_61, List.forall_mem_cons.mpr ⟨np_S.mono (op := np_getf 1 0) (np_s_getN hX dX11_readings_63 (C := RX1) (T := TX1) (N := 7) rfl guX1 (by decide) gw315) nw_getf_le, List.forall_mem_cons.mpr ⟨np_s_aload hX dX11_readings_66, List.forall_mem_cons.mpr ⟨np_s_iload_n hX dX11_readings_68 rfl, List.forall_mem_cons.mpr ⟨np_S.mono (op := np_callV 4 4 sp_X4_begin 5 0 0 1 6) (np_s_callV hX C_X4_begin dX11_readings_69 (q := (RX4, TX4, 11)) rfl rfl gw1002 gw67 gw999 gw1000 gw1001 ⟨by decide, by decide, by decide⟩ (by decide) (by decide)) nw_callV_le, List.forall_mem_cons.mpr ⟨np_s_iconst hX dX11_readings_72 (by decide), List.forall_mem_cons.mpr ⟨np_S.mono (op := np_ist 2 7) (np_s_istore hX dX11_readings_73 (by decide)) nw_ist_le, List.forall_mem_cons.mpr ⟨np_s_iload hX dX11_readings_75, List.forall_mem_cons.mpr ⟨np_s_sipush hX dX11_readings_77 (by decide), List.forall_mem_cons.mpr ⟨np_S.mono (op := np_ic (fun x y => y ≤ x) 102) (np_s_icmp_ge hX dX11_readings_80 (by decide)) nq_ic_le, List.forall_mem_cons.mpr ⟨np_s_aload_n hX dX11_readings_83 rfl, List.forall_mem_cons.mpr ⟨np_S.mono (op := np_getf 11 7) (np_s_getf hX dX11_readings_84 (C := RX11) (T := TX11) (N := 14) rfl guX11 (by decide) gw448) nw_getf_le, List.forall_mem_cons.mpr ⟨np_S.mono (op := np_callV 4 1 sp_X4_goToNext 3 0 0 1 6) (np_s_callV hX C_X4_goToNext dX11_readings_87 (q := (RX4, TX4, 11)) rfl rfl gw1011 gw67 gw1008 gw1009 gw1010 ⟨by decide, by decide, by decide⟩ (by decide) (by decide)) nw_callV_le, List.forall_mem_cons.mpr ⟨np_S.mono (op := np_if (fun x => x = 0) 102) (np_s_if_eq hX dX11_readings_90 (by decide)) nq_if_le, List.forall_mem_cons.mpr ⟨np_S.mono (op := np_iinc 6 1) (np_s_iinc hX dX11_readings_93 (by decide)) nw_iinc_le, List.forall_mem_cons.mpr ⟨np_S.mono (op := np_iinc 7 1) (np_s_iinc hX dX11_readings_96 (by decide)) nw_iinc_le, List.forall_mem_cons.mpr ⟨np_s_goto hX dX11_readings_99 (by decide), List.forall_mem_cons.mpr ⟨np_s_aload_n hX dX11_readings_102 rfl, List.forall_mem_cons.mpr ⟨np_S.mono (op := np_getf 11 7) (np_s_getf hX dX11_readings_103 (C := RX11) (T := TX11) (N := 14) rfl guX11 (by decide) gw448) nw_getf_le, List.forall_mem_cons.mpr ⟨np_S.mono (op := np_getf 4 10) (np_s_getN hX dX11_readings_106 (C := RX4) (T := TX4) (N := 11) rfl guX4 (by decide) gw234) nw_getf_le, List.forall_mem_cons.mpr ⟨np_S.mono (op := np_if (fun x => x = 0) 116) (np_s_if_eq hX dX11_readings_109 (by decide)) nq_if_le, List.forall_mem_cons.mpr ⟨np_s_iconst hX dX11_readings_112 (by decide), List.forall_mem_cons.mpr ⟨np_s_goto hX dX11_readings_113 (by decide), List.forall_mem_cons.mpr ⟨np_s_iload hX dX11_readings_116, List.forall_mem_cons.mpr ⟨np_s_bipush hX dX11_readings_118 (by decide), List.forall_mem_cons.mpr ⟨np_S.mono (op := np_mm 1 6) (np_s_mmin hX dX11_readings_120 gw1097 gw1098 gw82 gw1099 (by decide) (by decide)) nq_mm_le, List.forall_mem_cons.mpr ⟨np_S.mono (op := np_ret X.2.2.1) (np_s_ret hX dX11_readings_123) (nq_ret_le hR), fun _ h => nomatch h⟩⟩⟩⟩⟩⟩⟩⟩⟩⟩⟩⟩⟩⟩⟩⟩⟩⟩⟩⟩⟩⟩⟩⟩⟩⟩⟩⟩⟩⟩⟩⟩⟩⟩⟩⟩⟩⟩⟩⟩⟩⟩⟩⟩⟩⟩⟩⟩⟩
noncomputable def m_X11_readings_75 : Nat → pw_S → Nat → Int32 → Int32 → pw_R (Int32 ⊕ Nat)
| 0, _, _, _, _ => none
| N + 1, S, v0, v6, v7 =>
 if 10000 ≤ v7 then
 (if (S 59 0 10) = 0 then
 (some (S, .inl (if 99 < v6 then 99 else v6)))
 else
 (some (S, .inl (-1))))
 else
 (pw_b (m_X4_goToNext S 0) fun S1 r4 =>
 if r4 = 0 then
 (if (S1 59 0 10) = 0 then
 (some (S1, .inl (if 99 < v6 then 99 else v6)))
 else
 (some (S1, .inl (-1))))
 else
 (pw_l (v6 + 1 : Int32) fun z6 =>
 pw_l (v7 + 1 : Int32) fun z7 =>
 m_X11_readings_75 N S1 v0 z6 z7))
set_option maxRecDepth 100000 in
set_option maxHeartbeats 8000000 in
theorem L_X11_readings_75 {X : np_Ctx} (hX : np_ok RX11 cX11_readings 8 7 197 1 6 .ireturn X) {Q : Option Value → np_W → Prop} {QX : Nat → np_W → Prop} {q n : Nat} (hR : ∀ st w ce sl, np_rq (some .int) 1 6 Q st w ce sl → X.2.2.1 st w ce sl) (hT : ∀ i w ce sl, np_thq 1 6 QX i w ce sl → X.2.2.2 i w ce sl) : ∀ (N : Nat) (S : pw_S) (v0 : Nat) (v6 : Int32) (v7 : Int32) (f : Nat → Option np_E) (hv0 : pw_ok q 61 v0 = true), pw_W q (n, f) S → pw_p (m_X11_readings_75 N S v0 v6 v7) (fun S' rx => ∀ f', pw_W q (n, f') S' → match rx with | .inl r => Q (some (.int r)) (n, f') | .inr e => QX e (n, f')) → np_G X 75 [(0, .ref (pw_pl 61 v0)), (6, .int v6), (7, .int v7)] [] (n, f) 0 0 := by
  intro N
  induction N with
  | zero =>
    intro S v0 v6 v7 f hv0 hW h
    exact (pw_pn h).elim
  | succ N ih =>
    intro S v0 v6 v7 f hv0 hW h
    unfold m_X11_readings_75 at h
    refine np_soundW (so_X11_readings hX hR hT) [75] 400 75 _ _ _ _ _ ?_
    conv => whnf
    refine pw_br h (fun _ h => ?_) (fun _ h => ?_)
    · conv => whnf
      refine np_rd_i (hW.g hv0) ?_
      conv => whnf
      refine np_rd_i (hW.g rfl) ?_
      conv => whnf
      refine pw_br h (fun _ h => ?_) (fun _ h => ?_)
      · conv => whnf
        exact ⟨Nat.le_of_ble_eq_true rfl, Nat.le_of_ble_eq_true rfl, trivial, pw_ps h _ hW⟩
      · conv => whnf
        exact ⟨Nat.le_of_ble_eq_true rfl, Nat.le_of_ble_eq_true rfl, trivial, pw_ps h _ hW⟩
    · conv => whnf
      refine np_rd_i (hW.g hv0) ?_
      conv => whnf
      refine np_rd_i (hW.g rfl) ?_
      conv => whnf
      refine ⟨q, S, 0, rfl, rfl, hW, pw_bd h (fun S1 r4 h f2 hW3 => ?_)⟩
      conv => whnf
      refine pw_br h (fun _ h => ?_) (fun _ h => ?_)
      · conv => whnf
        refine np_rd_i (hW3.g hv0) ?_
        conv => whnf
        refine np_rd_i (hW3.g rfl) ?_
        conv => whnf
        refine pw_br h (fun _ h => ?_) (fun _ h => ?_)
        · conv => whnf
          exact ⟨Nat.le_of_ble_eq_true rfl, Nat.le_of_ble_eq_true rfl, trivial, pw_ps h _ hW3⟩
        · conv => whnf
          exact ⟨Nat.le_of_ble_eq_true rfl, Nat.le_of_ble_eq_true rfl, trivial, pw_ps h _ hW3⟩
      · conv => whnf
        refine pw_st h (fun z6 h => ?_)
        conv => whnf
        refine pw_st h (fun z7 h => ?_)
        conv => whnf
        exact np_gl (ih S1 v0 z6 z7 f2 hv0 hW3 h) ⟨rfl, rfl, rfl, trivial⟩
noncomputable def m_X11_readings (S : pw_S) (i0 : Nat) (x1 : Int32) (x2 : Int32) (x3 : Int32) : pw_R (Int32 ⊕ Nat) :=
 pw_b (m_X11_descriptionOf S i0 x1) fun S8 r11 =>
 pw_o r11 (
 (pw_b (m_X11_fileOf S8 i0 x2) fun S14 r17 =>
 pw_o r17 (
 (some (S14, .inr 0))) (fun j19 =>
 (some (S14, .inr 0))))) (fun j13 =>
 (pw_b (m_X11_fileOf S8 i0 x2) fun S20 r23 =>
 pw_o r23 (
 (some (S20, .inr 0))) (fun j25 =>
 (pw_b (m_X7_hasPlace S20 j25 x3) fun S26 r29 =>
 if r29 = 0 then
 (some (S26, .inr 0))
 else
 (pw_l (0 : Int32) fun z31 =>
 pw_b (m_X4_begin S26 0 j13 j25 x3) fun S32 r35 =>
 pw_l (0 : Int32) fun z37 =>
 m_X11_readings_75 (pw_F 20000) S32 i0 z31 z37)))))
def sp_X11_readings : np_SpX := fun vs w Q QX => ∃ (q : Nat) (S : pw_S) (i0 : Nat) (x1 : Int32) (x2 : Int32) (x3 : Int32), vs = [.ref (pw_pl 61 i0), .int x1, .int x2, .int x3] ∧ pw_ok q 61 i0 = true ∧ pw_W q w S ∧ pw_p (m_X11_readings S i0 x1 x2 x3) (fun S' rx => ∀ f', pw_W q (w.1, f') S' → match rx with | .inl r => Q (some (.int r)) (w.1, f') | .inr e => QX e (w.1, f'))
set_option maxRecDepth 100000 in
set_option maxHeartbeats 8000000 in
theorem C_X11_readings : np_CX yX11_readings cX11_readings 8 (some .int) 7 197 1 6 sp_X11_readings := by
  refine np_ofX (by decide) (by decide) (by decide) ?_
  intro X vs w Q QX hsp hX hmn hRt hTh
  obtain ⟨q, S, i0, x1, x2, x3, rfl, hi0, hW, h⟩ := hsp
  obtain ⟨n, f⟩ := w
  unfold m_X11_readings at h
  have hR : ∀ st w ce sl, np_rq (some .int) 1 6 Q st w ce sl → X.2.2.1 st w ce sl := fun _ _ _ _ h => by rw [hRt]; exact h
  have hT : ∀ i w ce sl, np_thq 1 6 QX i w ce sl → X.2.2.2 i w ce sl := fun _ _ _ _ h => by rw [hTh]; exact h
  refine np_soundW (so_X11_readings hX hR hT) [75] 400 0 _ _ _ _ _ ?_
  conv => whnf
  refine np_rd_i (hW.g hi0) ?_
  conv => whnf
  refine ⟨q, S, i0, x1, rfl, hi0, hW, pw_bd h (fun S8 r11 h f9 hW10 ho12 => ?_)⟩
  rcases r11 with _ | j13
  · replace h := pw_on h
    conv => whnf
    refine np_rd_i (hW10.g hi0) ?_
    conv => whnf
    refine ⟨q, S8, i0, x2, rfl, hi0, hW10, pw_bd h (fun S14 r17 h f15 hW16 ho18 => ?_)⟩
    rcases r17 with _ | j19
    · replace h := pw_on h
      conv => whnf
      exact ⟨Nat.le_of_ble_eq_true rfl, Nat.le_of_ble_eq_true rfl, pw_ps h _ hW16⟩
    · replace h := pw_os h
      replace ho18 : pw_ok q 53 j19 = true := ho18
      conv => whnf
      exact ⟨Nat.le_of_ble_eq_true rfl, Nat.le_of_ble_eq_true rfl, pw_ps h _ hW16⟩
  · replace h := pw_os h
    replace ho12 : pw_ok q 52 j13 = true := ho12
    conv => whnf
    refine np_rd_i (hW10.g hi0) ?_
    conv => whnf
    refine ⟨q, S8, i0, x2, rfl, hi0, hW10, pw_bd h (fun S20 r23 h f21 hW22 ho24 => ?_)⟩
    rcases r23 with _ | j25
    · replace h := pw_on h
      conv => whnf
      exact ⟨Nat.le_of_ble_eq_true rfl, Nat.le_of_ble_eq_true rfl, pw_ps h _ hW22⟩
    · replace h := pw_os h
      replace ho24 : pw_ok q 53 j25 = true := ho24
      conv => whnf
      refine np_rd_i (hW22.g ho24) ?_
      conv => whnf
      refine ⟨q, S20, j25, x3, rfl, ho24, hW22, pw_bd h (fun S26 r29 h f27 hW28 => ?_)⟩
      conv => whnf
      refine pw_br h (fun _ h => ?_) (fun _ h => ?_)
      · conv => whnf
        exact ⟨Nat.le_of_ble_eq_true rfl, Nat.le_of_ble_eq_true rfl, pw_ps h _ hW28⟩
      · conv => whnf
        refine pw_st h (fun z31 h => ?_)
        conv => whnf
        refine np_rd_i (hW28.g hi0) ?_
        conv => whnf
        refine np_rd_i (hW28.g ho12) ?_
        conv => whnf
        refine np_rd_i (hW28.g rfl) ?_
        conv => whnf
        refine ⟨q, S26, 0, j13, j25, x3, rfl, rfl, (pw_okl (a := 52) (b := 51) rfl rfl rfl ho12), ho24, hW28, pw_bd h (fun S32 r35 h f33 hW34 => ?_)⟩
        conv => whnf
        refine pw_st h (fun z37 h => ?_)
        conv => whnf
        exact np_gl (L_X11_readings_75 hX hR hT (pw_F 20000) S32 i0 z31 z37 f33 hi0 hW34 h) ⟨rfl, rfl, rfl, trivial⟩
theorem dX11_readingsAnew_0 : decode cX11_readingsAnew 0 = .ok (.aload_n 0, 1) := by decide +kernel
theorem dX11_readingsAnew_1 : decode cX11_readingsAnew 1 = .ok (.iload_n 1, 1) := by decide +kernel
theorem dX11_readingsAnew_2 : decode cX11_readingsAnew 2 = .ok (.invokevirtual 147, 3) := by decide +kernel
theorem dX11_readingsAnew_5 : decode cX11_readingsAnew 5 = .ok (.astore 4, 2) := by decide +kernel
theorem dX11_readingsAnew_7 : decode cX11_readingsAnew 7 = .ok (.aload_n 0, 1) := by decide +kernel
theorem dX11_readingsAnew_8 : decode cX11_readingsAnew 8 = .ok (.iload_n 2, 1) := by decide +kernel
theorem dX11_readingsAnew_9 : decode cX11_readingsAnew 9 = .ok (.invokevirtual 211, 3) := by decide +kernel
theorem dX11_readingsAnew_12 : decode cX11_readingsAnew 12 = .ok (.astore 5, 2) := by decide +kernel
theorem dX11_readingsAnew_14 : decode cX11_readingsAnew 14 = .ok (.aload 4, 2) := by decide +kernel
theorem dX11_readingsAnew_16 : decode cX11_readingsAnew 16 = .ok (.ifnonnull 13, 3) := by decide +kernel
theorem dX11_readingsAnew_19 : decode cX11_readingsAnew 19 = .ok (.new 96, 3) := by decide +kernel
theorem dX11_readingsAnew_22 : decode cX11_readingsAnew 22 = .ok (.dup, 1) := by decide +kernel
theorem dX11_readingsAnew_23 : decode cX11_readingsAnew 23 = .ok (.ldc 151, 2) := by decide +kernel
theorem dX11_readingsAnew_25 : decode cX11_readingsAnew 25 = .ok (.invokespecial 100, 3) := by decide +kernel
theorem dX11_readingsAnew_28 : decode cX11_readingsAnew 28 = .ok (.athrow, 1) := by decide +kernel
theorem dX11_readingsAnew_29 : decode cX11_readingsAnew 29 = .ok (.aload 5, 2) := by decide +kernel
theorem dX11_readingsAnew_31 : decode cX11_readingsAnew 31 = .ok (.ifnull 12, 3) := by decide +kernel
theorem dX11_readingsAnew_34 : decode cX11_readingsAnew 34 = .ok (.aload 5, 2) := by decide +kernel
theorem dX11_readingsAnew_36 : decode cX11_readingsAnew 36 = .ok (.iload_n 3, 1) := by decide +kernel
theorem dX11_readingsAnew_37 : decode cX11_readingsAnew 37 = .ok (.invokevirtual 253, 3) := by decide +kernel
theorem dX11_readingsAnew_40 : decode cX11_readingsAnew 40 = .ok (.ifCond .ne 14, 3) := by decide +kernel
theorem dX11_readingsAnew_43 : decode cX11_readingsAnew 43 = .ok (.new 96, 3) := by decide +kernel
theorem dX11_readingsAnew_46 : decode cX11_readingsAnew 46 = .ok (.dup, 1) := by decide +kernel
theorem dX11_readingsAnew_47 : decode cX11_readingsAnew 47 = .ok (.ldc_w 256, 3) := by decide +kernel
theorem dX11_readingsAnew_50 : decode cX11_readingsAnew 50 = .ok (.invokespecial 100, 3) := by decide +kernel
theorem dX11_readingsAnew_53 : decode cX11_readingsAnew 53 = .ok (.athrow, 1) := by decide +kernel
theorem dX11_readingsAnew_54 : decode cX11_readingsAnew 54 = .ok (.aload_n 0, 1) := by decide +kernel
theorem dX11_readingsAnew_55 : decode cX11_readingsAnew 55 = .ok (.getfield 54, 3) := by decide +kernel
theorem dX11_readingsAnew_58 : decode cX11_readingsAnew 58 = .ok (.aload 4, 2) := by decide +kernel
theorem dX11_readingsAnew_60 : decode cX11_readingsAnew 60 = .ok (.getfield 140, 3) := by decide +kernel
theorem dX11_readingsAnew_63 : decode cX11_readingsAnew 63 = .ok (.aload 5, 2) := by decide +kernel
theorem dX11_readingsAnew_65 : decode cX11_readingsAnew 65 = .ok (.iload_n 3, 1) := by decide +kernel
theorem dX11_readingsAnew_66 : decode cX11_readingsAnew 66 = .ok (.invokevirtual 258, 3) := by decide +kernel
theorem dX11_readingsAnew_69 : decode cX11_readingsAnew 69 = .ok (.aload_n 0, 1) := by decide +kernel
theorem dX11_readingsAnew_70 : decode cX11_readingsAnew 70 = .ok (.getfield 54, 3) := by decide +kernel
theorem dX11_readingsAnew_73 : decode cX11_readingsAnew 73 = .ok (.invokevirtual 273, 3) := by decide +kernel
theorem dX11_readingsAnew_76 : decode cX11_readingsAnew 76 = .ok (.bipush 99, 2) := by decide +kernel
theorem dX11_readingsAnew_78 : decode cX11_readingsAnew 78 = .ok (.invokestatic 268, 3) := by decide +kernel
theorem dX11_readingsAnew_81 : decode cX11_readingsAnew 81 = .ok (.ireturn, 1) := by decide +kernel
def is_X11_readingsAnew (Rt : np_Rt) (Th : np_Th) : List (Nat × np_Op) := [(0, np_ald 1 0), (1, np_ild 1 1), (2, nw_callV 11 2 sp_X11_descriptionOf 3 0 0 1 6), (5, np_ast 2 4), (7, np_ald 1 0), (8, np_ild 1 2), (9, nw_callV 11 2 sp_X11_fileOf 2 0 0 1 6), (12, np_ast 2 5), (14, np_ald 2 4), (16, np_ifnonnull 29), (19, nq_throw Th 0), (29, np_ald 2 5), (31, np_ifnull 43), (34, np_ald 2 5), (36, np_ild 1 3), (37, nw_callV 7 2 sp_X7_hasPlace 2 0 0 1 6), (40, nq_ifne 54), (43, nq_throw Th 0), (54, np_ald 1 0), (55, nw_getf 11 7), (58, np_ald 2 4), (60, nw_getf 1 0), (63, np_ald 2 5), (65, np_ild 1 3), (66, nw_callV 4 4 sp_X4_begin 5 0 0 1 6), (69, np_ald 1 0), (70, nw_getf 11 7), (73, nw_callV 4 1 sp_X4_countItemByItem 6 0 0 1 6), (76, np_push 2 (.int 99)), (78, nq_mm 1 6), (81, np_ret Rt)]
set_option maxRecDepth 20000 in
theorem so_X11_readingsAnew {X : np_Ctx} {Rt : np_Rt} {Th : np_Th} (hX : np_ok RX11 cX11_readingsAnew 6 7 200 1 6 .ireturn X) (hR : ∀ st w ce sl, Rt st w ce sl → X.2.2.1 st w ce sl) (hT : ∀ i w ce sl, Th i w ce sl → X.2.2.2 i w ce sl) : ∀ q ∈ is_X11_readingsAnew Rt Th, np_S X q.1 q.2 :=
  List.forall_mem_cons.mpr ⟨np_s_aload_n hX dX11_readingsAnew_0 rfl, List.forall_mem_cons.mpr ⟨np_s_iload_n hX dX11_readingsAnew_1 rfl, List.forall_mem_cons.mpr ⟨np_S.mono (op := np_callV 11 2 sp_X11_descriptionOf 3 0 0 1 6) (np_s_callV hX C_X11_descriptionOf dX11_readingsAnew_2 (q := (RX11, TX11, 14)) rfl rfl gw699 gw63 gw696 gw698 gw3 ⟨by decide, by decide, by decide⟩ (by decide) (by decide)) nw_callV_le, List.forall_mem_cons.mpr ⟨np_s_astore hX dX11_readingsAnew_5 (by decide), List.forall_mem_cons.mpr ⟨np_s_aload_n hX dX11_readingsAnew_7 rfl, List.forall_mem_cons.mpr ⟨np_s_iload_n hX dX11_readingsAnew_8 rfl, List.forall_mem_cons.mpr ⟨np_S.mono (op := np_callV 11 2 sp_X11_fileOf 2 0 0 1 6) (np_s_callV hX C_X11_fileOf dX11_readingsAnew_9 (q := (RX11, TX11, 14)) rfl rfl gw941 gw63 gw938 gw940 gw17 ⟨by decide, by decide, by decide⟩ (by decide) (by decide)) nw_callV_le, List.forall_mem_cons.mpr ⟨np_s_astore hX dX11_readingsAnew_12 (by decide), List.forall_mem_cons.mpr ⟨np_s_aload hX dX11_readingsAnew_14, List.forall_mem_cons.mpr ⟨np_s_ifnonnull hX dX11_readingsAnew_16 (by decide), List.forall_mem_cons.mpr ⟨np_S.mono (op := np_throw X.2.2.2 0) (np_s_throw hX ⟨96, 151, 100, _, gw516, gw78, sw700, twX11_100, toX11_100_96, Or.inl ⟨dX11_readingsAnew_19, dX11_readingsAnew_22, dX11_readingsAnew_23, dX11_readingsAnew_25, dX11_readingsAnew_28⟩⟩) (nq_throw_le hT), List.forall_mem_cons.mpr ⟨np_s_aload hX dX11_readingsAnew_29, List.forall_mem_cons.mpr ⟨np_s_ifnull hX dX11_readingsAnew_31 (by decide), List.forall_mem_cons.mpr ⟨np_s_aload hX dX11_readingsAnew_34, List.forall_mem_cons.mpr ⟨np_s_iload_n hX dX11_readingsAnew_36 rfl, List.forall_mem_cons.mpr ⟨np_S.mono (op := np_callV 7 2 sp_X7_hasPlace 2 0 0 1 6) (np_s_callV hX C_X7_hasPlace dX11_readingsAnew_37 (q := (RX7, TX7, 3)) rfl rfl gw1138 gw68 gw1135 gw1136 gw1137 ⟨by decide, by decide, by decide⟩ (by decide) (by decide)) nw_callV_le, List.forall_mem_cons.mpr ⟨np_S.mono (op := np_ifne 54) (np_s_if_ne hX dX11_readingsAnew_40 (by decide)) nq_ifne_le, List.forall_mem_cons.mpr ⟨np_S.mono (op := np_throw X.2.2.2 0) (np_s_throw hX ⟨96, 256, 100, _, gw516, gw78, sw1139, twX11_100, toX11_100_96, Or.inr ⟨dX11_readingsAnew_43, dX11_readingsAnew_46, dX11_readingsAnew_47, dX11_readingsAnew_50, dX11_readingsAnew_53⟩⟩) (nq_throw_le hT), List.forall_mem_cons.mpr ⟨np_s_aload_n hX dX11_readingsAnew_54 rfl, List.forall_mem_cons.mpr ⟨np_S.mono (op := np_getf 11 7) (np_s_getf hX dX11_readingsAnew_55 (C := RX11) (T := TX11) (N := 14) rfl guX11 (by decide) gw448) nw_getf_le, List.forall_mem_cons.mpr ⟨np_s_aload hX dX11_readingsAnew_58, List.forall_mem_cons.mpr ⟨np_S.mono (op := np_getf 1 0) (np_s_getN hX dX11_readingsAnew_60 (C := RX1) (T := TX1) (N := 7) rfl guX1 (by decide) gw315) nw_getf_le, List.forall_mem_cons.mpr ⟨np_s_aload hX dX11_readingsAnew_63, List.forall_mem_cons.mpr ⟨np_s_iload_n hX dX11_readingsAnew_65 rfl, List.forall_mem_cons.mpr ⟨np_S.mono (op := np_callV 4 4 sp_X4_begin 5 0 0 1 6) (np_s_callV hX C_X4_begin dX11_readingsAnew_66 (q := (RX4, TX4, 11)) rfl rfl gw1002 gw67 gw999 gw1000 gw1001 ⟨by decide, by decide, by decide⟩ (by decide) (by decide)) nw_callV_le, List.forall_mem_cons.mpr ⟨np_s_aload_n hX dX11_readingsAnew_69 rfl, List.forall_mem_cons.mpr ⟨np_S.mono (op := np_getf 11 7) (np_s_getf hX dX11_readingsAnew_70 (C := RX11) (T := TX11) (N := 14) rfl guX11 (by decide) gw448) nw_getf_le, List.forall_mem_cons.mpr ⟨np_S.mono (op := np_callV 4 1 sp_X4_countItemByItem 6 0 0 1 6) (np_s_callV hX C_X4_countItemByItem dX11_readingsAnew_73 (q := (RX4, TX4, 11)) rfl rfl gw1200 gw67 gw1197 gw1198 gw1199 ⟨by decide, by decide, by decide⟩ (by decide) (by decide)) nw_callV_le, List.forall_mem_cons.mpr ⟨np_s_bipush hX dX11_readingsAnew_76 (by decide), List.forall_mem_cons.mpr ⟨np_S.mono (op := np_mm 1 6) (np_s_mmin hX dX11_readingsAnew_78 gw1097 gw1098 gw82 gw1099 (by decide) (by decide)) nq_mm_le, List.forall_mem_cons.mpr ⟨np_S.mono (op := np_ret X.2.2.1) (np_s_ret hX dX11_readingsAnew_81) (nq_ret_le hR), fun _ h => nomatch h⟩⟩⟩⟩⟩⟩⟩⟩⟩⟩⟩⟩⟩⟩⟩⟩⟩⟩⟩⟩⟩⟩⟩⟩⟩⟩⟩⟩⟩⟩⟩
noncomputable def m_X11_readingsAnew (S : pw_S) (i0 : Nat) (x1 : Int32) (x2 : Int32) (x3 : Int32) : pw_R (Int32 ⊕ Nat) :=
 pw_b (m_X11_descriptionOf S i0 x1) fun S1 r4 =>
 pw_o r4 (
 (pw_b (m_X11_fileOf S1 i0 x2) fun S7 r10 =>
 pw_o r10 (
 (some (S7, .inr 0))) (fun j12 =>
 (some (S7, .inr 0))))) (fun j6 =>
 (pw_b (m_X11_fileOf S1 i0 x2) fun S13 r16 =>
 pw_o r16 (
 (some (S13, .inr 0))) (fun j18 =>
 (pw_b (m_X7_hasPlace S13 j18 x3) fun S19 r22 =>
 if r22 = 0 then
 (some (S19, .inr 0))
 else
 (pw_b (m_X4_begin S19 0 j6 j18 x3) fun S24 r27 =>
 pw_b (m_X4_countItemByItem S24 0) fun S29 r32 =>
 some (S29, .inl (if 99 < r32 then 99 else r32)))))))
def sp_X11_readingsAnew : np_SpX := fun vs w Q QX => ∃ (q : Nat) (S : pw_S) (i0 : Nat) (x1 : Int32) (x2 : Int32) (x3 : Int32), vs = [.ref (pw_pl 61 i0), .int x1, .int x2, .int x3] ∧ pw_ok q 61 i0 = true ∧ pw_W q w S ∧ pw_p (m_X11_readingsAnew S i0 x1 x2 x3) (fun S' rx => ∀ f', pw_W q (w.1, f') S' → match rx with | .inl r => Q (some (.int r)) (w.1, f') | .inr e => QX e (w.1, f'))
set_option maxRecDepth 100000 in
set_option maxHeartbeats 8000000 in
theorem C_X11_readingsAnew : np_CX yX11_readingsAnew cX11_readingsAnew 6 (some .int) 7 200 1 6 sp_X11_readingsAnew := by
  refine np_ofX (by decide) (by decide) (by decide) ?_
  intro X vs w Q QX hsp hX hmn hRt hTh
  obtain ⟨q, S, i0, x1, x2, x3, rfl, hi0, hW, h⟩ := hsp
  obtain ⟨n, f⟩ := w
  unfold m_X11_readingsAnew at h
  have hR : ∀ st w ce sl, np_rq (some .int) 1 6 Q st w ce sl → X.2.2.1 st w ce sl := fun _ _ _ _ h => by rw [hRt]; exact h
  have hT : ∀ i w ce sl, np_thq 1 6 QX i w ce sl → X.2.2.2 i w ce sl := fun _ _ _ _ h => by rw [hTh]; exact h
  refine np_soundW (so_X11_readingsAnew hX hR hT) [] 400 0 _ _ _ _ _ ?_
  conv => whnf
  refine np_rd_i (hW.g hi0) ?_
  conv => whnf
  refine ⟨q, S, i0, x1, rfl, hi0, hW, pw_bd h (fun S1 r4 h f2 hW3 ho5 => ?_)⟩
  rcases r4 with _ | j6
  · replace h := pw_on h
    conv => whnf
    refine np_rd_i (hW3.g hi0) ?_
    conv => whnf
    refine ⟨q, S1, i0, x2, rfl, hi0, hW3, pw_bd h (fun S7 r10 h f8 hW9 ho11 => ?_)⟩
    rcases r10 with _ | j12
    · replace h := pw_on h
      conv => whnf
      exact ⟨Nat.le_of_ble_eq_true rfl, Nat.le_of_ble_eq_true rfl, pw_ps h _ hW9⟩
    · replace h := pw_os h
      replace ho11 : pw_ok q 53 j12 = true := ho11
      conv => whnf
      exact ⟨Nat.le_of_ble_eq_true rfl, Nat.le_of_ble_eq_true rfl, pw_ps h _ hW9⟩
  · replace h := pw_os h
    replace ho5 : pw_ok q 52 j6 = true := ho5
    conv => whnf
    refine np_rd_i (hW3.g hi0) ?_
    conv => whnf
    refine ⟨q, S1, i0, x2, rfl, hi0, hW3, pw_bd h (fun S13 r16 h f14 hW15 ho17 => ?_)⟩
    rcases r16 with _ | j18
    · replace h := pw_on h
      conv => whnf
      exact ⟨Nat.le_of_ble_eq_true rfl, Nat.le_of_ble_eq_true rfl, pw_ps h _ hW15⟩
    · replace h := pw_os h
      replace ho17 : pw_ok q 53 j18 = true := ho17
      conv => whnf
      refine np_rd_i (hW15.g ho17) ?_
      conv => whnf
      refine ⟨q, S13, j18, x3, rfl, ho17, hW15, pw_bd h (fun S19 r22 h f20 hW21 => ?_)⟩
      conv => whnf
      refine pw_br h (fun _ h => ?_) (fun _ h => ?_)
      · conv => whnf
        exact ⟨Nat.le_of_ble_eq_true rfl, Nat.le_of_ble_eq_true rfl, pw_ps h _ hW21⟩
      · conv => whnf
        refine np_rd_i (hW21.g hi0) ?_
        conv => whnf
        refine np_rd_i (hW21.g ho5) ?_
        conv => whnf
        refine np_rd_i (hW21.g rfl) ?_
        conv => whnf
        refine ⟨q, S19, 0, j6, j18, x3, rfl, rfl, (pw_okl (a := 52) (b := 51) rfl rfl rfl ho5), ho17, hW21, pw_bd h (fun S24 r27 h f25 hW26 => ?_)⟩
        conv => whnf
        refine np_rd_i (hW26.g hi0) ?_
        conv => whnf
        refine np_rd_i (hW26.g rfl) ?_
        conv => whnf
        refine ⟨q, S24, 0, rfl, rfl, hW26, pw_bd h (fun S29 r32 h f30 hW31 => ?_)⟩
        conv => whnf
        exact ⟨Nat.le_of_ble_eq_true rfl, Nat.le_of_ble_eq_true rfl, trivial, pw_ps h _ hW31⟩
theorem dX11_read_0 : decode cX11_read 0 = .ok (.aload_n 0, 1) := by decide +kernel
theorem dX11_read_1 : decode cX11_read 1 = .ok (.iload_n 1, 1) := by decide +kernel
theorem dX11_read_2 : decode cX11_read 2 = .ok (.invokevirtual 147, 3) := by decide +kernel
theorem dX11_read_5 : decode cX11_read 5 = .ok (.astore 5, 2) := by decide +kernel
theorem dX11_read_7 : decode cX11_read 7 = .ok (.aload_n 0, 1) := by decide +kernel
theorem dX11_read_8 : decode cX11_read 8 = .ok (.iload_n 2, 1) := by decide +kernel
theorem dX11_read_9 : decode cX11_read 9 = .ok (.invokevirtual 211, 3) := by decide +kernel
theorem dX11_read_12 : decode cX11_read 12 = .ok (.astore 6, 2) := by decide +kernel
theorem dX11_read_14 : decode cX11_read 14 = .ok (.aload 5, 2) := by decide +kernel
theorem dX11_read_16 : decode cX11_read 16 = .ok (.ifnonnull 13, 3) := by decide +kernel
theorem dX11_read_19 : decode cX11_read 19 = .ok (.new 96, 3) := by decide +kernel
theorem dX11_read_22 : decode cX11_read 22 = .ok (.dup, 1) := by decide +kernel
theorem dX11_read_23 : decode cX11_read 23 = .ok (.ldc 151, 2) := by decide +kernel
theorem dX11_read_25 : decode cX11_read 25 = .ok (.invokespecial 100, 3) := by decide +kernel
theorem dX11_read_28 : decode cX11_read 28 = .ok (.athrow, 1) := by decide +kernel
theorem dX11_read_29 : decode cX11_read 29 = .ok (.aload 6, 2) := by decide +kernel
theorem dX11_read_31 : decode cX11_read 31 = .ok (.ifnull 12, 3) := by decide +kernel
theorem dX11_read_34 : decode cX11_read 34 = .ok (.aload 6, 2) := by decide +kernel
theorem dX11_read_36 : decode cX11_read 36 = .ok (.iload_n 3, 1) := by decide +kernel
theorem dX11_read_37 : decode cX11_read 37 = .ok (.invokevirtual 253, 3) := by decide +kernel
theorem dX11_read_40 : decode cX11_read 40 = .ok (.ifCond .ne 14, 3) := by decide +kernel
theorem dX11_read_43 : decode cX11_read 43 = .ok (.new 96, 3) := by decide +kernel
theorem dX11_read_46 : decode cX11_read 46 = .ok (.dup, 1) := by decide +kernel
theorem dX11_read_47 : decode cX11_read 47 = .ok (.ldc_w 256, 3) := by decide +kernel
theorem dX11_read_50 : decode cX11_read 50 = .ok (.invokespecial 100, 3) := by decide +kernel
theorem dX11_read_53 : decode cX11_read 53 = .ok (.athrow, 1) := by decide +kernel
theorem dX11_read_54 : decode cX11_read 54 = .ok (.iload 4, 2) := by decide +kernel
theorem dX11_read_56 : decode cX11_read 56 = .ok (.ifCond .ge 14, 3) := by decide +kernel
theorem dX11_read_59 : decode cX11_read 59 = .ok (.new 96, 3) := by decide +kernel
theorem dX11_read_62 : decode cX11_read 62 = .ok (.dup, 1) := by decide +kernel
theorem dX11_read_63 : decode cX11_read 63 = .ok (.ldc_w 276, 3) := by decide +kernel
theorem dX11_read_66 : decode cX11_read 66 = .ok (.invokespecial 100, 3) := by decide +kernel
theorem dX11_read_69 : decode cX11_read 69 = .ok (.athrow, 1) := by decide +kernel
theorem dX11_read_70 : decode cX11_read 70 = .ok (.iconst (-1), 1) := by decide +kernel
theorem dX11_read_71 : decode cX11_read 71 = .ok (.istore 7, 2) := by decide +kernel
theorem dX11_read_73 : decode cX11_read 73 = .ok (.aload_n 0, 1) := by decide +kernel
theorem dX11_read_74 : decode cX11_read 74 = .ok (.getfield 54, 3) := by decide +kernel
theorem dX11_read_77 : decode cX11_read 77 = .ok (.aload 5, 2) := by decide +kernel
theorem dX11_read_79 : decode cX11_read 79 = .ok (.getfield 140, 3) := by decide +kernel
theorem dX11_read_82 : decode cX11_read 82 = .ok (.aload 6, 2) := by decide +kernel
theorem dX11_read_84 : decode cX11_read 84 = .ok (.iload_n 3, 1) := by decide +kernel
theorem dX11_read_85 : decode cX11_read 85 = .ok (.invokevirtual 258, 3) := by decide +kernel
theorem dX11_read_88 : decode cX11_read 88 = .ok (.iconst 0, 1) := by decide +kernel
theorem dX11_read_89 : decode cX11_read 89 = .ok (.istore 8, 2) := by decide +kernel
theorem dX11_read_91 : decode cX11_read 91 = .ok (.iload 8, 2) := by decide +kernel
theorem dX11_read_93 : decode cX11_read 93 = .ok (.sipush 10000, 3) := by decide +kernel
theorem dX11_read_96 : decode cX11_read 96 = .ok (.if_icmp .ge 29, 3) := by decide +kernel
theorem dX11_read_99 : decode cX11_read 99 = .ok (.iload 7, 2) := by decide +kernel
theorem dX11_read_101 : decode cX11_read 101 = .ok (.iload 4, 2) := by decide +kernel
theorem dX11_read_103 : decode cX11_read 103 = .ok (.if_icmp .ge 22, 3) := by decide +kernel
theorem dX11_read_106 : decode cX11_read 106 = .ok (.aload_n 0, 1) := by decide +kernel
theorem dX11_read_107 : decode cX11_read 107 = .ok (.getfield 54, 3) := by decide +kernel
theorem dX11_read_110 : decode cX11_read 110 = .ok (.invokevirtual 262, 3) := by decide +kernel
theorem dX11_read_113 : decode cX11_read 113 = .ok (.ifCond .eq 12, 3) := by decide +kernel
theorem dX11_read_116 : decode cX11_read 116 = .ok (.iinc 7 1, 3) := by decide +kernel
theorem dX11_read_119 : decode cX11_read 119 = .ok (.iinc 8 1, 3) := by decide +kernel
theorem dX11_read_122 : decode cX11_read 122 = .ok (.goto (-31), 3) := by decide +kernel
theorem dX11_read_125 : decode cX11_read 125 = .ok (.iload 7, 2) := by decide +kernel
theorem dX11_read_127 : decode cX11_read 127 = .ok (.iload 4, 2) := by decide +kernel
theorem dX11_read_129 : decode cX11_read 129 = .ok (.if_icmp .ge 14, 3) := by decide +kernel
theorem dX11_read_132 : decode cX11_read 132 = .ok (.new 96, 3) := by decide +kernel
theorem dX11_read_135 : decode cX11_read 135 = .ok (.dup, 1) := by decide +kernel
theorem dX11_read_136 : decode cX11_read 136 = .ok (.ldc_w 276, 3) := by decide +kernel
theorem dX11_read_139 : decode cX11_read 139 = .ok (.invokespecial 100, 3) := by decide +kernel
theorem dX11_read_142 : decode cX11_read 142 = .ok (.athrow, 1) := by decide +kernel
theorem dX11_read_143 : decode cX11_read 143 = .ok (.aload_n 0, 1) := by decide +kernel
theorem dX11_read_144 : decode cX11_read 144 = .ok (.getfield 54, 3) := by decide +kernel
theorem dX11_read_147 : decode cX11_read 147 = .ok (.getfield 278, 3) := by decide +kernel
theorem dX11_read_150 : decode cX11_read 150 = .ok (.getfield 202, 3) := by decide +kernel
theorem dX11_read_153 : decode cX11_read 153 = .ok (.iconst 0, 1) := by decide +kernel
theorem dX11_read_154 : decode cX11_read 154 = .ok (.aload_n 0, 1) := by decide +kernel
theorem dX11_read_155 : decode cX11_read 155 = .ok (.getfield 28, 3) := by decide +kernel
theorem dX11_read_158 : decode cX11_read 158 = .ok (.iconst 0, 1) := by decide +kernel
theorem dX11_read_159 : decode cX11_read 159 = .ok (.bipush 24, 2) := by decide +kernel
theorem dX11_read_161 : decode cX11_read 161 = .ok (.invokestatic 207, 3) := by decide +kernel
theorem dX11_read_164 : decode cX11_read 164 = .ok (.iload_n 3, 1) := by decide +kernel
theorem dX11_read_165 : decode cX11_read 165 = .ok (.aload_n 0, 1) := by decide +kernel
theorem dX11_read_166 : decode cX11_read 166 = .ok (.getfield 54, 3) := by decide +kernel
theorem dX11_read_169 : decode cX11_read 169 = .ok (.getfield 278, 3) := by decide +kernel
theorem dX11_read_172 : decode cX11_read 172 = .ok (.getfield 282, 3) := by decide +kernel
theorem dX11_read_175 : decode cX11_read 175 = .ok (.iadd, 1) := by decide +kernel
theorem dX11_read_176 : decode cX11_read 176 = .ok (.ireturn, 1) := by decide +kernel
def is_X11_read (Rt : np_Rt) (Th : np_Th) : List (Nat × np_Op) := [(0, np_ald 1 0), (1, np_ild 1 1), (2, nw_callV 11 2 sp_X11_descriptionOf 3 0 0 1 6), (5, np_ast 2 5), (7, np_ald 1 0), (8, np_ild 1 2), (9, nw_callV 11 2 sp_X11_fileOf 2 0 0 1 6), (12, np_ast 2 6), (14, np_ald 2 5), (16, np_ifnonnull 29), (19, nq_throw Th 0), (29, np_ald 2 6), (31, np_ifnull 43), (34, np_ald 2 6), (36, np_ild 1 3), (37, nw_callV 7 2 sp_X7_hasPlace 2 0 0 1 6), (40, nq_ifne 54), (43, nq_throw Th 0), (54, np_ild 2 4), (56, nq_if (fun x => 0 ≤ x) 70), (59, nq_throw Th 0), (70, np_push 1 (.int (-1))), (71, nw_ist 2 7), (73, np_ald 1 0), (74, nw_getf 11 7), (77, np_ald 2 5), (79, nw_getf 1 0), (82, np_ald 2 6), (84, np_ild 1 3), (85, nw_callV 4 4 sp_X4_begin 5 0 0 1 6), (88, np_push 1 (.int 0)), (89, nw_ist 2 8), (91, np_ild 2 8), (93, np_push 3 (.int 10000)), (96, nq_ic (fun x y => y ≤ x) 125), (99, np_ild 2 7), (101, np_ild 2 4), (103, nq_ic (fun x y => y ≤ x) 125), (106, np_ald 1 0), (107, nw_getf 11 7), (110, nw_callV 4 1 sp_X4_goToNext 3 0 0 1 6), (113, nq_if (fun x => x = 0) 125), (116, nw_iinc 7 1), (119, nw_iinc 8 1), (122, np_goto 91), (125, np_ild 2 7), (127, np_ild 2 4), (129, nq_ic (fun x y => y ≤ x) 143), (132, nq_throw Th 0), (143, np_ald 1 0), (144, nw_getf 11 7), (147, nw_getf 4 1), (150, nw_getf 8 0), (153, np_push 1 (.int 0)), (154, np_ald 1 0), (155, nw_getf 11 3), (158, np_push 1 (.int 0)), (159, np_push 2 (.int 24)), (161, nq_call 5 sp_X11_copyCells 5 0 0 1 6), (164, np_ild 1 3), (165, np_ald 1 0), (166, nw_getf 11 7), (169, nw_getf 4 1), (172, nw_getf 8 6), (175, np_ib (fun x y => x + y)), (176, np_ret Rt)]
set_option maxRecDepth 20000 in
theorem so_X11_read {X : np_Ctx} {Rt : np_Rt} {Th : np_Th} (hX : np_ok RX11 cX11_read 9 7 197 1 6 .ireturn X) (hR : ∀ st w ce sl, Rt st w ce sl → X.2.2.1 st w ce sl) (hT : ∀ i w ce sl, Th i w ce sl → X.2.2.2 i w ce sl) : ∀ q ∈ is_X11_read Rt Th, np_S X q.1 q.2 :=
  List.forall_mem_cons.mpr ⟨np_s_aload_n hX dX11_read_0 rfl, List.forall_mem_cons.mpr ⟨np_s_iload_n hX dX11_read_1 rfl, List.forall_mem_cons.mpr ⟨np_S.mono (op := np_callV 11 2 sp_X11_descriptionOf 3 0 0 1 6) (np_s_callV hX C_X11_descriptionOf dX11_read_2 (q := (RX11, TX11, 14)) rfl rfl gw699 gw63 gw696 gw698 gw3 ⟨by decide, by decide, by decide⟩ (by decide) (by decide)) nw_callV_le, List.forall_mem_cons.mpr ⟨np_s_astore hX dX11_read_5 (by decide), List.forall_mem_cons.mpr ⟨np_s_aload_n hX dX11_read_7 rfl, List.forall_mem_cons.mpr ⟨np_s_iload_n hX dX11_read_8 rfl, List.forall_mem_cons.mpr ⟨np_S.mono (op := np_callV 11 2 sp_X11_fileOf 2 0 0 1 6) (np_s_callV hX C_X11_fileOf dX11_read_9 (q := (RX11, TX11, 14)) rfl rfl gw941 gw63 gw938 gw940 gw17 ⟨by decide, by decide, by decide⟩ (by decide) (by decide)) nw_callV_le, List.forall_mem_cons.mpr ⟨np_s_astore hX dX11_read_12 (by decide), List.forall_mem_cons.mpr ⟨np_s_aload hX dX11_read_14, List.forall_mem_cons.mpr ⟨np_s_ifnonnull hX dX11_read_16 (by decide), List.forall_mem_cons.mpr ⟨np_S.mono (op := np_throw X.2.2.2 0) (np_s_throw hX ⟨96, 151, 100, _, gw516, gw78, sw700, twX11_100, toX11_100_96, Or.inl ⟨dX11_read_19, dX11_read_22, dX11_read_23, dX11_read_25, dX11_read_28⟩⟩) (nq_throw_le hT), List.forall_mem_cons.mpr ⟨np_s_aload hX dX11_read_29, List.forall_mem_cons.mpr ⟨np_s_ifnull hX dX11_read_31 (by decide), List.forall_mem_cons.mpr ⟨np_s_aload hX dX11_read_34, List.forall_mem_cons.mpr ⟨np_s_iload_n hX dX11_read_36 rfl, List.forall_mem_cons.mpr ⟨np_S.mono (op := np_callV 7 2 sp_X7_hasPlace 2 0 0 1 6) (np_s_callV hX C_X7_hasPlace dX11_read_37 (q := (RX7, TX7, 3)) rfl rfl gw1138 gw68 gw1135 gw1136 gw1137 ⟨by decide, by decide, by decide⟩ (by decide) (by decide)) nw_callV_le, List.forall_mem_cons.mpr ⟨np_S.mono (op := np_ifne 54) (np_s_if_ne hX dX11_read_40 (by decide)) nq_ifne_le, List.forall_mem_cons.mpr ⟨np_S.mono (op := np_throw X.2.2.2 0) (np_s_throw hX ⟨96, 256, 100, _, gw516, gw78, sw1139, twX11_100, toX11_100_96, Or.inr ⟨dX11_read_43, dX11_read_46, dX11_read_47, dX11_read_50, dX11_read_53⟩⟩) (nq_throw_le hT), List.forall_mem_cons.mpr ⟨np_s_iload hX dX11_read_54, List.forall_mem_cons.mpr ⟨np_S.mono (op := np_if (fun x => 0 ≤ x) 70) (np_s_if_ge hX dX11_read_56 (by decide)) nq_if_le, List.forall_mem_cons.mpr ⟨np_S.mono (op := np_throw X.2.2.2 0) (np_s_throw hX ⟨96, 276, 100, _, gw516, gw78, sw1140, twX11_100, toX11_100_96, Or.inr ⟨dX11_read_59, dX11_read_62, dX11_read_63, dX11_read_66, dX11_read_69⟩⟩) (nq_throw_le hT), List.forall_mem_cons.mpr ⟨np_s_iconst hX dX11_read_70 (by decide), List.forall_mem_cons.mpr ⟨np_S.mono (op := np_ist 2 7) (np_s_istore hX dX11_read_71 (by decide)) nw_ist_le, List.forall_mem_cons.mpr ⟨np_s_aload_n hX dX11_read_73 rfl, List.forall_mem_cons.mpr ⟨np_S.mono (op := np_getf 11 7) (np_s_getf hX dX11_read_74 (C := RX11) (T := TX11) (N := 14) rfl guX11 (by decide) gw448) nw_getf_le, List.forall_mem_cons.mpr ⟨np_s_aload hX dX11_read_77, List.forall_mem_cons.mpr ⟨np_S.mono (op := np_getf 1 0) (np_s_getN hX dX11_read_79 (C := RX1) (T := TX1) (N := 7) rfl guX1 (by decide) gw315) nw_getf_le, List.forall_mem_cons.mpr ⟨np_s_aload hX dX11_read_82, List.forall_mem_cons.mpr ⟨np_s_iload_n hX dX11_read_84 rfl, List.forall_mem_cons.mpr ⟨np_S.mono (op := np_callV 4 4 sp_X4_begin 5 0 0 1 6) (np_s_callV hX C_X4_begin dX11_read_85 (q := (RX4, TX4, 11)) rfl rfl gw1002 gw67 gw999 gw1000 gw1001 ⟨by decide, by decide, by decide⟩ (by decide) (by decide)) nw_callV_le, List.forall_mem_cons.mpr ⟨np_s_iconst hX dX11_read_88 (by decide), List.forall_mem_cons.mpr ⟨np_S.mono (op := np_ist 2 8) (np_s_istore hX dX11_read_89 (by decide)) nw_ist_le, List.forall_mem_cons.mpr ⟨np_s_iload hX dX11_read_91, List.forall_mem_cons.mpr ⟨np_s_sipush hX dX11_read_93 (by decide), List.forall_mem_cons.mpr ⟨np_S.mono (op := np_ic (fun x y => y ≤ x) 125) (np_s_icmp_ge hX dX11_read_96 (by decide)) nq_ic_le, List.forall_mem_cons.mpr ⟨np_s_iload hX dX11_read_99, List.forall_mem_cons.mpr ⟨np_s_iload hX dX11_read_101, List.forall_mem_cons.mpr ⟨np_S.mono (op := np_ic (fun x y => y ≤ x) 125) (np_s_icmp_ge hX dX11_read_103 (by decide)) nq_ic_le, List.forall_mem_cons.mpr ⟨np_s_aload_n hX dX11_read_106 rfl, List.forall_mem_cons.mpr ⟨np_S.mono (op := np_getf 11 7) (np_s_getf hX dX11_read_107 (C := RX11) (T := TX11) (N := 14) rfl guX11 (by decide) gw448) nw_getf_le, List.forall_mem_cons.mpr ⟨np_S.mono (op := np_callV 4 1 sp_X4_goToNext 3 0 0 1 6) (np_s_callV hX C_X4_goToNext dX11_read_110 (q := (RX4, TX4, 11)) rfl rfl gw1011 gw67 gw1008 gw1009 gw1010 ⟨by decide, by decide, by decide⟩ (by decide) (by decide)) nw_callV_le, List.forall_mem_cons.mpr ⟨np_S.mono (op := np_if (fun x => x = 0) 125) (np_s_if_eq hX dX11_read_113 (by decide)) nq_if_le, List.forall_mem_cons.mpr ⟨np_S.mono (op := np_iinc 7 1) (np_s_iinc hX dX11_read_116 (by decide)) nw_iinc_le, List.forall_mem_cons.mpr ⟨np_S.mono (op := np_iinc 8 1) (np_s_iinc hX dX11_read_119 (by decide)) nw_iinc_le, List.forall_mem_cons.mpr ⟨np_s_goto hX dX11_read_122 (by decide), List.forall_mem_cons.mpr ⟨np_s_iload hX dX11_read_125, List.forall_mem_cons.mpr ⟨np_s_iload hX dX11_read_127, List.forall_mem_cons.mpr ⟨np_S.mono (op := np_ic (fun x y => y ≤ x) 143) (np_s_icmp_ge hX dX11_read_129 (by decide)) nq_ic_le, List.forall_mem_cons.mpr ⟨np_S.mono (op := np_throw X.2.2.2 0) (np_s_throw hX ⟨96, 276, 100, _, gw516, gw78, sw1140, twX11_100, toX11_100_96, Or.inr ⟨dX11_read_132, dX11_read_135, dX11_read_136, dX11_read_139, dX11_read_142⟩⟩) (nq_throw_le hT), List.forall_mem_cons.mpr ⟨np_s_aload_n hX dX11_read_143 rfl, List.forall_mem_cons.mpr ⟨np_S.mono (op := np_getf 11 7) (np_s_getf hX dX11_read_144 (C := RX11) (T := TX11) (N := 14) rfl guX11 (by decide) gw448) nw_getf_le, List.forall_mem_cons.mpr ⟨np_S.mono (op := np_getf 4 1) (np_s_getN hX dX11_read_147 (C := RX4) (T := TX4) (N := 11) rfl guX4 (by decide) gw224) nw_getf_le, List.forall_mem_cons.mpr ⟨np_S.mono (op := np_getf 8 0) (np_s_getN hX dX11_read_150 (C := RX8) (T := TX8) (N := 9) rfl guX8 (by decide) gw147) nw_getf_le, List.forall_mem_cons.mpr ⟨np_s_iconst hX dX11_read_153 (by decide), List.forall_mem_cons.mpr ⟨np_s_aload_n hX dX11_read_154 rfl, List.forall_mem_cons.mpr ⟨np_S.mono (op := np_getf 11 3) (np_s_getf hX dX11_read_155 (C := RX11) (T := TX11) (N := 14) rfl guX11 (by decide) gw444) nw_getf_le, List.forall_mem_cons.mpr ⟨np_s_iconst hX dX11_read_158 (by decide), List.forall_mem_cons.mpr ⟨np_s_bipush hX dX11_read_159 (by decide), List.forall_mem_cons.mpr ⟨np_S.mono (op := np_call 5 sp_X11_copyCells 5 0 0 1 6) (np_s_callS hX C_X11_copyCells dX11_read_161 gw893 gw63 gw917 gw892 ⟨by decide, by decide, by decide⟩ (by decide) (by decide)) nq_call_le, List.forall_mem_cons.mpr ⟨np_s_iload_n hX dX11_read_164 rfl, List.forall_mem_cons.mpr ⟨np_s_aload_n hX dX11_read_165 rfl, List.forall_mem_cons.mpr ⟨np_S.mono (op := np_getf 11 7) (np_s_getf hX dX11_read_166 (C := RX11) (T := TX11) (N := 14) rfl guX11 (by decide) gw448) nw_getf_le, List.forall_mem_cons.mpr ⟨np_S.mono (op := np_getf 4 1) (np_s_getN hX dX11_read_169 (C := RX4) (T := TX4) (N := 11) rfl guX4 (by decide) gw224) nw_getf_le, List.forall_mem_cons.mpr ⟨np_S.mono (op := np_getf 8 6) (np_s_getN hX dX11_read_172 (C := RX8) (T := TX8) (N := 9) rfl guX8 (by decide) gw160) nw_getf_le, List.forall_mem_cons.mpr ⟨np_s_iadd hX dX11_read_175, List.forall_mem_cons.mpr ⟨np_S.mono (op := np_ret X.2.2.1) (np_s_ret hX dX11_read_176) (nq_ret_le hR), fun _ h => nomatch h⟩⟩⟩⟩⟩⟩⟩⟩⟩⟩⟩⟩⟩⟩⟩⟩⟩⟩⟩⟩⟩⟩⟩⟩⟩⟩⟩⟩⟩⟩⟩⟩⟩⟩⟩⟩⟩⟩⟩⟩⟩⟩⟩⟩⟩⟩⟩⟩⟩⟩⟩⟩⟩⟩⟩⟩⟩⟩⟩⟩⟩⟩⟩⟩⟩⟩
noncomputable def m_X11_read_91 (k125 : pw_S → Nat → Int32 → Int32 → Int32 → pw_R (Int32 ⊕ Nat)) : Nat → pw_S → Nat → Int32 → Int32 → Int32 → Int32 → pw_R (Int32 ⊕ Nat)
| 0, _, _, _, _, _, _ => none
| N + 1, S, v0, v3, v4, v7, v8 =>
 if 10000 ≤ v8 then
 (k125 S v0 v3 v4 v7)
 else
 (if v4 ≤ v7 then
 (k125 S v0 v3 v4 v7)
 else
 (pw_b (m_X4_goToNext S 0) fun S1 r4 =>
 if r4 = 0 then
 (k125 S1 v0 v3 v4 v7)
 else
 (pw_l (v7 + 1 : Int32) fun z6 =>
 pw_l (v8 + 1 : Int32) fun z7 =>
 m_X11_read_91 k125 N S1 v0 v3 v4 z6 z7)))
set_option maxRecDepth 100000 in
set_option maxHeartbeats 8000000 in
theorem L_X11_read_91 {X : np_Ctx} (hX : np_ok RX11 cX11_read 9 7 197 1 6 .ireturn X) {Q : Option Value → np_W → Prop} {QX : Nat → np_W → Prop} {q n : Nat} (hR : ∀ st w ce sl, np_rq (some .int) 1 6 Q st w ce sl → X.2.2.1 st w ce sl) (hT : ∀ i w ce sl, np_thq 1 6 QX i w ce sl → X.2.2.2 i w ce sl) {k125 : pw_S → Nat → Int32 → Int32 → Int32 → pw_R (Int32 ⊕ Nat)} (hk125 : ∀ (S : pw_S) (v0 : Nat) (v3 : Int32) (v4 : Int32) (v7 : Int32) (f : Nat → Option np_E) (hv0 : pw_ok q 61 v0 = true), pw_W q (n, f) S → pw_p (k125 S v0 v3 v4 v7) (fun S' rx => ∀ f', pw_W q (n, f') S' → match rx with | .inl r => Q (some (.int r)) (n, f') | .inr e => QX e (n, f')) → np_G X 125 [(0, .ref (pw_pl 61 v0)), (3, .int v3), (4, .int v4), (7, .int v7)] [] (n, f) 0 0) : ∀ (N : Nat) (S : pw_S) (v0 : Nat) (v3 : Int32) (v4 : Int32) (v7 : Int32) (v8 : Int32) (f : Nat → Option np_E) (hv0 : pw_ok q 61 v0 = true), pw_W q (n, f) S → pw_p (m_X11_read_91 k125 N S v0 v3 v4 v7 v8) (fun S' rx => ∀ f', pw_W q (n, f') S' → match rx with | .inl r => Q (some (.int r)) (n, f') | .inr e => QX e (n, f')) → np_G X 91 [(0, .ref (pw_pl 61 v0)), (3, .int v3), (4, .int v4), (7, .int v7), (8, .int v8)] [] (n, f) 0 0 := by
  intro N
  induction N with
  | zero =>
    intro S v0 v3 v4 v7 v8 f hv0 hW h
    exact (pw_pn h).elim
  | succ N ih =>
    intro S v0 v3 v4 v7 v8 f hv0 hW h
    unfold m_X11_read_91 at h
    refine np_soundW (so_X11_read hX hR hT) [91, 125] 400 91 _ _ _ _ _ ?_
    conv => whnf
    refine pw_br h (fun _ h => ?_) (fun _ h => ?_)
    · conv => whnf
      exact np_gl (hk125 S v0 v3 v4 v7 f hv0 hW h) ⟨rfl, rfl, rfl, rfl, trivial⟩
    · conv => whnf
      refine pw_br h (fun _ h => ?_) (fun _ h => ?_)
      · conv => whnf
        exact np_gl (hk125 S v0 v3 v4 v7 f hv0 hW h) ⟨rfl, rfl, rfl, rfl, trivial⟩
      · conv => whnf
        refine np_rd_i (hW.g hv0) ?_
        conv => whnf
        refine np_rd_i (hW.g rfl) ?_
        conv => whnf
        refine ⟨q, S, 0, rfl, rfl, hW, pw_bd h (fun S1 r4 h f2 hW3 => ?_)⟩
        conv => whnf
        refine pw_br h (fun _ h => ?_) (fun _ h => ?_)
        · conv => whnf
          exact np_gl (hk125 S1 v0 v3 v4 v7 f2 hv0 hW3 h) ⟨rfl, rfl, rfl, rfl, trivial⟩
        · conv => whnf
          refine pw_st h (fun z6 h => ?_)
          conv => whnf
          refine pw_st h (fun z7 h => ?_)
          conv => whnf
          exact np_gl (ih S1 v0 v3 v4 z6 z7 f2 hv0 hW3 h) ⟨rfl, rfl, rfl, rfl, rfl, trivial⟩
noncomputable def m_X11_read (S : pw_S) (i0 : Nat) (x1 : Int32) (x2 : Int32) (x3 : Int32) (x4 : Int32) : pw_R (Int32 ⊕ Nat) :=
 pw_b (m_X11_descriptionOf S i0 x1) fun S8 r11 =>
 pw_o r11 (
 (pw_b (m_X11_fileOf S8 i0 x2) fun S14 r17 =>
 pw_o r17 (
 (some (S14, .inr 0))) (fun j19 =>
 (some (S14, .inr 0))))) (fun j13 =>
 (pw_b (m_X11_fileOf S8 i0 x2) fun S20 r23 =>
 pw_o r23 (
 (some (S20, .inr 0))) (fun j25 =>
 (pw_b (m_X7_hasPlace S20 j25 x3) fun S26 r29 =>
 if r29 = 0 then
 (some (S26, .inr 0))
 else
 (if 0 ≤ x4 then
 (pw_l ((-1) : Int32) fun z31 =>
 pw_b (m_X4_begin S26 0 j13 j25 x3) fun S32 r35 =>
 pw_l (0 : Int32) fun z37 =>
 m_X11_read_91
 (fun S43 u38 u40 u41 u42 =>
 (if u41 ≤ u42 then
 (pw_b (m_X11_copyCells S43 0 407 0 35 0 0 24) fun S46 r49 =>
 some (S46, .inl (u40 + (S46 50 407 6))))
 else
 (some (S43, .inr 0)))) (pw_F 20000) S32 i0 x3 x4 z31 z37)
 else
 (some (S26, .inr 0)))))))
def sp_X11_read : np_SpX := fun vs w Q QX => ∃ (q : Nat) (S : pw_S) (i0 : Nat) (x1 : Int32) (x2 : Int32) (x3 : Int32) (x4 : Int32), vs = [.ref (pw_pl 61 i0), .int x1, .int x2, .int x3, .int x4] ∧ pw_ok q 61 i0 = true ∧ pw_W q w S ∧ pw_p (m_X11_read S i0 x1 x2 x3 x4) (fun S' rx => ∀ f', pw_W q (w.1, f') S' → match rx with | .inl r => Q (some (.int r)) (w.1, f') | .inr e => QX e (w.1, f'))
set_option maxRecDepth 100000 in
set_option maxHeartbeats 8000000 in
theorem C_X11_read : np_CX yX11_read cX11_read 9 (some .int) 7 197 1 6 sp_X11_read := by
  refine np_ofX (by decide) (by decide) (by decide) ?_
  intro X vs w Q QX hsp hX hmn hRt hTh
  obtain ⟨q, S, i0, x1, x2, x3, x4, rfl, hi0, hW, h⟩ := hsp
  obtain ⟨n, f⟩ := w
  unfold m_X11_read at h
  have hR : ∀ st w ce sl, np_rq (some .int) 1 6 Q st w ce sl → X.2.2.1 st w ce sl := fun _ _ _ _ h => by rw [hRt]; exact h
  have hT : ∀ i w ce sl, np_thq 1 6 QX i w ce sl → X.2.2.2 i w ce sl := fun _ _ _ _ h => by rw [hTh]; exact h
  refine np_soundW (so_X11_read hX hR hT) [91] 400 0 _ _ _ _ _ ?_
  conv => whnf
  refine np_rd_i (hW.g hi0) ?_
  conv => whnf
  refine ⟨q, S, i0, x1, rfl, hi0, hW, pw_bd h (fun S8 r11 h f9 hW10 ho12 => ?_)⟩
  rcases r11 with _ | j13
  · replace h := pw_on h
    conv => whnf
    refine np_rd_i (hW10.g hi0) ?_
    conv => whnf
    refine ⟨q, S8, i0, x2, rfl, hi0, hW10, pw_bd h (fun S14 r17 h f15 hW16 ho18 => ?_)⟩
    rcases r17 with _ | j19
    · replace h := pw_on h
      conv => whnf
      exact ⟨Nat.le_of_ble_eq_true rfl, Nat.le_of_ble_eq_true rfl, pw_ps h _ hW16⟩
    · replace h := pw_os h
      replace ho18 : pw_ok q 53 j19 = true := ho18
      conv => whnf
      exact ⟨Nat.le_of_ble_eq_true rfl, Nat.le_of_ble_eq_true rfl, pw_ps h _ hW16⟩
  · replace h := pw_os h
    replace ho12 : pw_ok q 52 j13 = true := ho12
    conv => whnf
    refine np_rd_i (hW10.g hi0) ?_
    conv => whnf
    refine ⟨q, S8, i0, x2, rfl, hi0, hW10, pw_bd h (fun S20 r23 h f21 hW22 ho24 => ?_)⟩
    rcases r23 with _ | j25
    · replace h := pw_on h
      conv => whnf
      exact ⟨Nat.le_of_ble_eq_true rfl, Nat.le_of_ble_eq_true rfl, pw_ps h _ hW22⟩
    · replace h := pw_os h
      replace ho24 : pw_ok q 53 j25 = true := ho24
      conv => whnf
      refine np_rd_i (hW22.g ho24) ?_
      conv => whnf
      refine ⟨q, S20, j25, x3, rfl, ho24, hW22, pw_bd h (fun S26 r29 h f27 hW28 => ?_)⟩
      conv => whnf
      refine pw_br h (fun _ h => ?_) (fun _ h => ?_)
      · conv => whnf
        exact ⟨Nat.le_of_ble_eq_true rfl, Nat.le_of_ble_eq_true rfl, pw_ps h _ hW28⟩
      · conv => whnf
        refine pw_br h (fun _ h => ?_) (fun _ h => ?_)
        · conv => whnf
          refine pw_st h (fun z31 h => ?_)
          conv => whnf
          refine np_rd_i (hW28.g hi0) ?_
          conv => whnf
          refine np_rd_i (hW28.g ho12) ?_
          conv => whnf
          refine np_rd_i (hW28.g rfl) ?_
          conv => whnf
          refine ⟨q, S26, 0, j13, j25, x3, rfl, rfl, (pw_okl (a := 52) (b := 51) rfl rfl rfl ho12), ho24, hW28, pw_bd h (fun S32 r35 h f33 hW34 => ?_)⟩
          conv => whnf
          refine pw_st h (fun z37 h => ?_)
          conv => whnf
          refine np_gl (L_X11_read_91 hX hR hT (fun S43 u38 u40 u41 u42 f44 ho39 hW45 h => ?_) (pw_F 20000) S32 i0 x3 x4 z31 z37 f33 hi0 hW34 h) ⟨rfl, rfl, rfl, rfl, rfl, trivial⟩
          · refine np_soundW (so_X11_read hX hR hT) [91] 400 125 _ _ _ _ _ ?_
            conv => whnf
            refine pw_br h (fun _ h => ?_) (fun _ h => ?_)
            · conv => whnf
              refine np_rd_i (hW45.g ho39) ?_
              conv => whnf
              refine np_rd_i (hW45.g rfl) ?_
              conv => whnf
              refine np_rd_i (hW45.g rfl) ?_
              conv => whnf
              refine np_rd_i (hW45.g ho39) ?_
              conv => whnf
              refine ⟨q, S43, 0, 407, 0, 35, 0, 0, 24, rfl, rfl, rfl, rfl, rfl, hW45, pw_bd h (fun S46 r49 h f47 hW48 => ?_)⟩
              conv => whnf
              refine np_rd_i (hW48.g ho39) ?_
              conv => whnf
              refine np_rd_i (hW48.g rfl) ?_
              conv => whnf
              refine np_rd_i (hW48.g rfl) ?_
              conv => whnf
              exact ⟨Nat.le_of_ble_eq_true rfl, Nat.le_of_ble_eq_true rfl, trivial, pw_ps h _ hW48⟩
            · conv => whnf
              exact ⟨Nat.le_of_ble_eq_true rfl, Nat.le_of_ble_eq_true rfl, pw_ps h _ hW45⟩
        · conv => whnf
          exact ⟨Nat.le_of_ble_eq_true rfl, Nat.le_of_ble_eq_true rfl, pw_ps h _ hW28⟩
