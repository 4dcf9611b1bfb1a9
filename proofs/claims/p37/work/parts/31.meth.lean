theorem gw18 : (Jvm.Cond.selects "NotationPress" ({ cls := "NotationPress", name := "tableOf", desc := "(I)LNotationPress$Table;" } : Jvm.MethodName) ({ cls := "NotationPress", name := "tableOf", desc := "(I)LNotationPress$Table;" } : Jvm.MethodName)) ∈ np_gw := np_gwi 18 (by decide +kernel) rfl
theorem gw35 : (Jvm.Cond.selects "NotationPress" ({ cls := "NotationPress", name := "columnOf", desc := "(I)LNotationPress$Column;" } : Jvm.MethodName) ({ cls := "NotationPress", name := "columnOf", desc := "(I)LNotationPress$Column;" } : Jvm.MethodName)) ∈ np_gw := np_gwi 35 (by decide +kernel) rfl
theorem gw70 : (Jvm.Cond.initialized "NotationPress$UpgradeDraft") ∈ np_gw := np_gwi 70 (by decide +kernel) rfl
theorem gw346 : (Jvm.Cond.fieldLinkNest "NotationPress" (339 : Nat) "NotationPress$Table" "rows" "[I" "NotationPress") ∈ np_nw := np_nwi 346 (by decide +kernel) rfl
theorem gw348 : (Jvm.Cond.fieldLinkNest "NotationPress" (328 : Nat) "NotationPress$Table" "ledger" "[I" "NotationPress") ∈ np_nw := np_nwi 348 (by decide +kernel) rfl
theorem gw353 : (Jvm.Cond.fieldLinkNest "NotationPress" (294 : Nat) "NotationPress$Table" "description" "LNotationPress$Description;" "NotationPress") ∈ np_nw := np_nwi 353 (by decide +kernel) rfl
theorem gw355 : (Jvm.Cond.fieldLinkNest "NotationPress" (287 : Nat) "NotationPress$Table" "place" "I" "NotationPress") ∈ np_nw := np_nwi 355 (by decide +kernel) rfl
theorem gw357 : (Jvm.Cond.fieldLinkNest "NotationPress" (317 : Nat) "NotationPress$Table" "rowCount" "I" "NotationPress") ∈ np_nw := np_nwi 357 (by decide +kernel) rfl
theorem gw359 : (Jvm.Cond.fieldLinkNest "NotationPress" (320 : Nat) "NotationPress$Table" "doubts" "I" "NotationPress") ∈ np_nw := np_nwi 359 (by decide +kernel) rfl
theorem gw361 : (Jvm.Cond.fieldLinkNest "NotationPress" (323 : Nat) "NotationPress$Table" "skippedCount" "I" "NotationPress") ∈ np_nw := np_nwi 361 (by decide +kernel) rfl
theorem gw446 : (Jvm.Cond.fieldLink "NotationPress" (40 : Nat) "NotationPress" "tables" "[LNotationPress$Table;") ∈ np_gw := np_gwi 446 (by decide +kernel) rfl
theorem gw450 : (Jvm.Cond.fieldLink "NotationPress" (67 : Nat) "NotationPress" "columns" "[LNotationPress$Column;") ∈ np_gw := np_gwi 450 (by decide +kernel) rfl
theorem gw451 : (Jvm.Cond.fieldLink "NotationPress" (348 : Nat) "NotationPress" "columnCount" "I") ∈ np_gw := np_gwi 451 (by decide +kernel) rfl
theorem gw452 : (Jvm.Cond.fieldLink "NotationPress" (74 : Nat) "NotationPress" "upgradeDraft" "LNotationPress$UpgradeDraft;") ∈ np_gw := np_gwi 452 (by decide +kernel) rfl
theorem gw974 : (Jvm.Cond.methodLink "NotationPress" (283 : Nat) ({ cls := "NotationPress", name := "tableOf", desc := "(I)LNotationPress$Table;" } : Jvm.MethodName)) ∈ np_gw := np_gwi 974 (by decide +kernel) rfl
theorem gw976 : (Jvm.Cond.instanceMethod ({ cls := "NotationPress", name := "tableOf", desc := "(I)LNotationPress$Table;" } : Jvm.MethodName)) ∈ np_gw := np_gwi 976 (by decide +kernel) rfl
theorem gw977 : (Jvm.Cond.code ({ cls := "NotationPress", name := "tableOf", desc := "(I)LNotationPress$Table;" } : Jvm.MethodName) prog_1_method_38_code (2 : Nat) (Option.some (Jvm.ClassFile.FieldType.object "NotationPress$Table"))) ∈ np_gw := np_gwi 977 (by decide +kernel) rfl
theorem gw979 : (Jvm.Cond.methodLink "NotationPress" (300 : Nat) ({ cls := "NotationPress$Text", name := "endOfLine", desc := "(I)I" } : Jvm.MethodName)) ∈ np_gw := np_gwi 979 (by decide +kernel) rfl
theorem gw980 : (Jvm.Cond.instanceMethod ({ cls := "NotationPress$Text", name := "endOfLine", desc := "(I)I" } : Jvm.MethodName)) ∈ np_gw := np_gwi 980 (by decide +kernel) rfl
theorem gw981 : (Jvm.Cond.selects "NotationPress$Text" ({ cls := "NotationPress$Text", name := "endOfLine", desc := "(I)I" } : Jvm.MethodName) ({ cls := "NotationPress$Text", name := "endOfLine", desc := "(I)I" } : Jvm.MethodName)) ∈ np_gw := np_gwi 981 (by decide +kernel) rfl
theorem gw982 : (Jvm.Cond.code ({ cls := "NotationPress$Text", name := "endOfLine", desc := "(I)I" } : Jvm.MethodName) prog_9_method_6_code (3 : Nat) (Option.some Jvm.ClassFile.FieldType.int)) ∈ np_gw := np_gwi 982 (by decide +kernel) rfl
theorem gw990 : (Jvm.Cond.methodLink "NotationPress" (303 : Nat) ({ cls := "NotationPress$Table", name := "isFull", desc := "()Z" } : Jvm.MethodName)) ∈ np_gw := np_gwi 990 (by decide +kernel) rfl
theorem gw991 : (Jvm.Cond.instanceMethod ({ cls := "NotationPress$Table", name := "isFull", desc := "()Z" } : Jvm.MethodName)) ∈ np_gw := np_gwi 991 (by decide +kernel) rfl
theorem gw992 : (Jvm.Cond.selects "NotationPress$Table" ({ cls := "NotationPress$Table", name := "isFull", desc := "()Z" } : Jvm.MethodName) ({ cls := "NotationPress$Table", name := "isFull", desc := "()Z" } : Jvm.MethodName)) ∈ np_gw := np_gwi 992 (by decide +kernel) rfl
theorem gw993 : (Jvm.Cond.code ({ cls := "NotationPress$Table", name := "isFull", desc := "()Z" } : Jvm.MethodName) prog_8_method_3_code (1 : Nat) (Option.some Jvm.ClassFile.FieldType.boolean)) ∈ np_gw := np_gwi 993 (by decide +kernel) rfl
theorem gw995 : (Jvm.Cond.methodLink "NotationPress" (306 : Nat) ({ cls := "NotationPress$Table", name := "beginLine", desc := "()V" } : Jvm.MethodName)) ∈ np_gw := np_gwi 995 (by decide +kernel) rfl
theorem gw996 : (Jvm.Cond.instanceMethod ({ cls := "NotationPress$Table", name := "beginLine", desc := "()V" } : Jvm.MethodName)) ∈ np_gw := np_gwi 996 (by decide +kernel) rfl
theorem gw997 : (Jvm.Cond.selects "NotationPress$Table" ({ cls := "NotationPress$Table", name := "beginLine", desc := "()V" } : Jvm.MethodName) ({ cls := "NotationPress$Table", name := "beginLine", desc := "()V" } : Jvm.MethodName)) ∈ np_gw := np_gwi 997 (by decide +kernel) rfl
theorem gw998 : (Jvm.Cond.code ({ cls := "NotationPress$Table", name := "beginLine", desc := "()V" } : Jvm.MethodName) prog_8_method_7_code (1 : Nat) (Option.none : Option Jvm.ClassFile.FieldType)) ∈ np_gw := np_gwi 998 (by decide +kernel) rfl
theorem gw1091 : (Jvm.Cond.methodLink "NotationPress" (309 : Nat) ({ cls := "NotationPress$Table", name := "weigh", desc := "([I)V" } : Jvm.MethodName)) ∈ np_gw := np_gwi 1091 (by decide +kernel) rfl
theorem gw1092 : (Jvm.Cond.instanceMethod ({ cls := "NotationPress$Table", name := "weigh", desc := "([I)V" } : Jvm.MethodName)) ∈ np_gw := np_gwi 1092 (by decide +kernel) rfl
theorem gw1093 : (Jvm.Cond.selects "NotationPress$Table" ({ cls := "NotationPress$Table", name := "weigh", desc := "([I)V" } : Jvm.MethodName) ({ cls := "NotationPress$Table", name := "weigh", desc := "([I)V" } : Jvm.MethodName)) ∈ np_gw := np_gwi 1093 (by decide +kernel) rfl
theorem gw1094 : (Jvm.Cond.code ({ cls := "NotationPress$Table", name := "weigh", desc := "([I)V" } : Jvm.MethodName) prog_8_method_8_code (3 : Nat) (Option.none : Option Jvm.ClassFile.FieldType)) ∈ np_gw := np_gwi 1094 (by decide +kernel) rfl
theorem gw1100 : (Jvm.Cond.methodLink "NotationPress" (313 : Nat) ({ cls := "NotationPress$Table", name := "endLine", desc := "(ZI)Z" } : Jvm.MethodName)) ∈ np_gw := np_gwi 1100 (by decide +kernel) rfl
theorem gw1101 : (Jvm.Cond.instanceMethod ({ cls := "NotationPress$Table", name := "endLine", desc := "(ZI)Z" } : Jvm.MethodName)) ∈ np_gw := np_gwi 1101 (by decide +kernel) rfl
theorem gw1102 : (Jvm.Cond.selects "NotationPress$Table" ({ cls := "NotationPress$Table", name := "endLine", desc := "(ZI)Z" } : Jvm.MethodName) ({ cls := "NotationPress$Table", name := "endLine", desc := "(ZI)Z" } : Jvm.MethodName)) ∈ np_gw := np_gwi 1102 (by decide +kernel) rfl
theorem gw1103 : (Jvm.Cond.code ({ cls := "NotationPress$Table", name := "endLine", desc := "(ZI)Z" } : Jvm.MethodName) prog_8_method_9_code (5 : Nat) (Option.some Jvm.ClassFile.FieldType.boolean)) ∈ np_gw := np_gwi 1103 (by decide +kernel) rfl
theorem gw1150 : (Jvm.Cond.methodLink "NotationPress" (357 : Nat) ({ cls := "NotationPress", name := "columnOf", desc := "(I)LNotationPress$Column;" } : Jvm.MethodName)) ∈ np_gw := np_gwi 1150 (by decide +kernel) rfl
theorem gw1152 : (Jvm.Cond.instanceMethod ({ cls := "NotationPress", name := "columnOf", desc := "(I)LNotationPress$Column;" } : Jvm.MethodName)) ∈ np_gw := np_gwi 1152 (by decide +kernel) rfl
theorem gw1153 : (Jvm.Cond.code ({ cls := "NotationPress", name := "columnOf", desc := "(I)LNotationPress$Column;" } : Jvm.MethodName) prog_1_method_39_code (2 : Nat) (Option.some (Jvm.ClassFile.FieldType.object "NotationPress$Column"))) ∈ np_gw := np_gwi 1153 (by decide +kernel) rfl
theorem gw1154 : (Jvm.Cond.methodLink "NotationPress" (361 : Nat) ({ cls := "NotationPress$Column", name := "hasRow", desc := "(I)Z" } : Jvm.MethodName)) ∈ np_gw := np_gwi 1154 (by decide +kernel) rfl
theorem gw1155 : (Jvm.Cond.instanceMethod ({ cls := "NotationPress$Column", name := "hasRow", desc := "(I)Z" } : Jvm.MethodName)) ∈ np_gw := np_gwi 1155 (by decide +kernel) rfl
theorem gw1156 : (Jvm.Cond.selects "NotationPress$Column" ({ cls := "NotationPress$Column", name := "hasRow", desc := "(I)Z" } : Jvm.MethodName) ({ cls := "NotationPress$Column", name := "hasRow", desc := "(I)Z" } : Jvm.MethodName)) ∈ np_gw := np_gwi 1156 (by decide +kernel) rfl
theorem gw1157 : (Jvm.Cond.code ({ cls := "NotationPress$Column", name := "hasRow", desc := "(I)Z" } : Jvm.MethodName) prog_2_method_3_code (2 : Nat) (Option.some Jvm.ClassFile.FieldType.boolean)) ∈ np_gw := np_gwi 1157 (by decide +kernel) rfl
theorem gw1160 : (Jvm.Cond.methodLink "NotationPress" (364 : Nat) ({ cls := "NotationPress$Column", name := "fromRow", desc := "(I)I" } : Jvm.MethodName)) ∈ np_gw := np_gwi 1160 (by decide +kernel) rfl
theorem gw1161 : (Jvm.Cond.instanceMethod ({ cls := "NotationPress$Column", name := "fromRow", desc := "(I)I" } : Jvm.MethodName)) ∈ np_gw := np_gwi 1161 (by decide +kernel) rfl
theorem gw1162 : (Jvm.Cond.selects "NotationPress$Column" ({ cls := "NotationPress$Column", name := "fromRow", desc := "(I)I" } : Jvm.MethodName) ({ cls := "NotationPress$Column", name := "fromRow", desc := "(I)I" } : Jvm.MethodName)) ∈ np_gw := np_gwi 1162 (by decide +kernel) rfl
theorem gw1163 : (Jvm.Cond.code ({ cls := "NotationPress$Column", name := "fromRow", desc := "(I)I" } : Jvm.MethodName) prog_2_method_5_code (4 : Nat) (Option.some Jvm.ClassFile.FieldType.int)) ∈ np_gw := np_gwi 1163 (by decide +kernel) rfl
theorem gw1241 : (Jvm.Cond.methodLink "NotationPress" (290 : Nat) ({ cls := "NotationPress$Table", name := "restart", desc := "(LNotationPress$Description;)V" } : Jvm.MethodName)) ∈ np_gw := np_gwi 1241 (by decide +kernel) rfl
theorem gw1242 : (Jvm.Cond.instanceMethod ({ cls := "NotationPress$Table", name := "restart", desc := "(LNotationPress$Description;)V" } : Jvm.MethodName)) ∈ np_gw := np_gwi 1242 (by decide +kernel) rfl
theorem gw1243 : (Jvm.Cond.selects "NotationPress$Table" ({ cls := "NotationPress$Table", name := "restart", desc := "(LNotationPress$Description;)V" } : Jvm.MethodName) ({ cls := "NotationPress$Table", name := "restart", desc := "(LNotationPress$Description;)V" } : Jvm.MethodName)) ∈ np_gw := np_gwi 1243 (by decide +kernel) rfl
theorem gw1244 : (Jvm.Cond.code ({ cls := "NotationPress$Table", name := "restart", desc := "(LNotationPress$Description;)V" } : Jvm.MethodName) prog_8_method_2_code (2 : Nat) (Option.none : Option Jvm.ClassFile.FieldType)) ∈ np_gw := np_gwi 1244 (by decide +kernel) rfl
theorem gw1259 : (Jvm.Cond.methodLink "NotationPress" (331 : Nat) ({ cls := "NotationPress$Table", name := "hasRow", desc := "(I)Z" } : Jvm.MethodName)) ∈ np_gw := np_gwi 1259 (by decide +kernel) rfl
theorem gw1265 : (Jvm.Cond.methodLink "NotationPress" (336 : Nat) ({ cls := "NotationPress$Table", name := "told", desc := "(II)I" } : Jvm.MethodName)) ∈ np_gw := np_gwi 1265 (by decide +kernel) rfl
theorem gw1280 : (Jvm.Cond.methodLink "NotationPress" (353 : Nat) ({ cls := "NotationPress$Column", name := "become", desc := "(LNotationPress$Table;III)V" } : Jvm.MethodName)) ∈ np_gw := np_gwi 1280 (by decide +kernel) rfl
theorem gw1281 : (Jvm.Cond.instanceMethod ({ cls := "NotationPress$Column", name := "become", desc := "(LNotationPress$Table;III)V" } : Jvm.MethodName)) ∈ np_gw := np_gwi 1281 (by decide +kernel) rfl
theorem gw1282 : (Jvm.Cond.selects "NotationPress$Column" ({ cls := "NotationPress$Column", name := "become", desc := "(LNotationPress$Table;III)V" } : Jvm.MethodName) ({ cls := "NotationPress$Column", name := "become", desc := "(LNotationPress$Table;III)V" } : Jvm.MethodName)) ∈ np_gw := np_gwi 1282 (by decide +kernel) rfl
theorem gw1283 : (Jvm.Cond.code ({ cls := "NotationPress$Column", name := "become", desc := "(LNotationPress$Table;III)V" } : Jvm.MethodName) prog_2_method_2_code (5 : Nat) (Option.none : Option Jvm.ClassFile.FieldType)) ∈ np_gw := np_gwi 1283 (by decide +kernel) rfl
theorem gw1291 : (Jvm.Cond.methodLink "NotationPress" (370 : Nat) ({ cls := "NotationPress$UpgradeDraft", name := "inRange", desc := "(III)Z" } : Jvm.MethodName)) ∈ np_gw := np_gwi 1291 (by decide +kernel) rfl
theorem gw1292 : (Jvm.Cond.static ({ cls := "NotationPress$UpgradeDraft", name := "inRange", desc := "(III)Z" } : Jvm.MethodName)) ∈ np_gw := np_gwi 1292 (by decide +kernel) rfl
theorem gw1293 : (Jvm.Cond.code ({ cls := "NotationPress$UpgradeDraft", name := "inRange", desc := "(III)Z" } : Jvm.MethodName) prog_12_method_2_code (3 : Nat) (Option.some Jvm.ClassFile.FieldType.boolean)) ∈ np_gw := np_gwi 1293 (by decide +kernel) rfl
theorem gw1297 : (Jvm.Cond.methodLink "NotationPress" (375 : Nat) ({ cls := "NotationPress$UpgradeDraft", name := "add", desc := "(IIII)V" } : Jvm.MethodName)) ∈ np_gw := np_gwi 1297 (by decide +kernel) rfl
theorem gw1298 : (Jvm.Cond.instanceMethod ({ cls := "NotationPress$UpgradeDraft", name := "add", desc := "(IIII)V" } : Jvm.MethodName)) ∈ np_gw := np_gwi 1298 (by decide +kernel) rfl
theorem gw1299 : (Jvm.Cond.selects "NotationPress$UpgradeDraft" ({ cls := "NotationPress$UpgradeDraft", name := "add", desc := "(IIII)V" } : Jvm.MethodName) ({ cls := "NotationPress$UpgradeDraft", name := "add", desc := "(IIII)V" } : Jvm.MethodName)) ∈ np_gw := np_gwi 1299 (by decide +kernel) rfl
theorem gw1300 : (Jvm.Cond.code ({ cls := "NotationPress$UpgradeDraft", name := "add", desc := "(IIII)V" } : Jvm.MethodName) prog_12_method_4_code (5 : Nat) (Option.none : Option Jvm.ClassFile.FieldType)) ∈ np_gw := np_gwi 1300 (by decide +kernel) rfl
theorem gw1302 : (Jvm.Cond.methodLink "NotationPress" (376 : Nat) ({ cls := "NotationPress$UpgradeDraft", name := "size", desc := "()I" } : Jvm.MethodName)) ∈ np_gw := np_gwi 1302 (by decide +kernel) rfl
theorem gw1303 : (Jvm.Cond.instanceMethod ({ cls := "NotationPress$UpgradeDraft", name := "size", desc := "()I" } : Jvm.MethodName)) ∈ np_gw := np_gwi 1303 (by decide +kernel) rfl
theorem gw1304 : (Jvm.Cond.selects "NotationPress$UpgradeDraft" ({ cls := "NotationPress$UpgradeDraft", name := "size", desc := "()I" } : Jvm.MethodName) ({ cls := "NotationPress$UpgradeDraft", name := "size", desc := "()I" } : Jvm.MethodName)) ∈ np_gw := np_gwi 1304 (by decide +kernel) rfl
theorem gw1305 : (Jvm.Cond.code ({ cls := "NotationPress$UpgradeDraft", name := "size", desc := "()I" } : Jvm.MethodName) prog_12_method_5_code (3 : Nat) (Option.some Jvm.ClassFile.FieldType.int)) ∈ np_gw := np_gwi 1305 (by decide +kernel) rfl
theorem gw1507 : (Jvm.Cond.methodLink "NotationPress" (367 : Nat) ({ cls := "NotationPress$Column", name := "fromBatch", desc := "(I)I" } : Jvm.MethodName)) ∈ np_gw := np_gwi 1507 (by decide +kernel) rfl
theorem gw1508 : (Jvm.Cond.instanceMethod ({ cls := "NotationPress$Column", name := "fromBatch", desc := "(I)I" } : Jvm.MethodName)) ∈ np_gw := np_gwi 1508 (by decide +kernel) rfl
theorem gw1509 : (Jvm.Cond.selects "NotationPress$Column" ({ cls := "NotationPress$Column", name := "fromBatch", desc := "(I)I" } : Jvm.MethodName) ({ cls := "NotationPress$Column", name := "fromBatch", desc := "(I)I" } : Jvm.MethodName)) ∈ np_gw := np_gwi 1509 (by decide +kernel) rfl
theorem gw1510 : (Jvm.Cond.code ({ cls := "NotationPress$Column", name := "fromBatch", desc := "(I)I" } : Jvm.MethodName) prog_2_method_8_code (4 : Nat) (Option.some Jvm.ClassFile.FieldType.int)) ∈ np_gw := np_gwi 1510 (by decide +kernel) rfl
theorem sw978 : (Jvm.Cond.stringRef "NotationPress" (298 : Nat) "no stream") ∈ lw_tbl := List.mem_of_getElem? (i := 978) (by decide +kernel)
theorem sw994 : (Jvm.Cond.stringRef "NotationPress" (304 : Nat) "no more rows") ∈ lw_tbl := List.mem_of_getElem? (i := 994) (by decide +kernel)
theorem sw1145 : (Jvm.Cond.stringRef "NotationPress" (326 : Nat) "no such entry") ∈ lw_tbl := List.mem_of_getElem? (i := 1145) (by decide +kernel)
theorem sw1159 : (Jvm.Cond.stringRef "NotationPress" (362 : Nat) "no such column or row") ∈ lw_tbl := List.mem_of_getElem? (i := 1159) (by decide +kernel)
theorem sw1260 : (Jvm.Cond.stringRef "NotationPress" (334 : Nat) "no such file or row") ∈ lw_tbl := List.mem_of_getElem? (i := 1260) (by decide +kernel)
theorem sw1276 : (Jvm.Cond.stringRef "NotationPress" (342 : Nat) "no such file or slot") ∈ lw_tbl := List.mem_of_getElem? (i := 1276) (by decide +kernel)
theorem sw1277 : (Jvm.Cond.stringRef "NotationPress" (344 : Nat) "no such kind") ∈ lw_tbl := List.mem_of_getElem? (i := 1277) (by decide +kernel)
theorem sw1278 : (Jvm.Cond.stringRef "NotationPress" (346 : Nat) "no such window") ∈ lw_tbl := List.mem_of_getElem? (i := 1278) (by decide +kernel)
theorem sw1279 : (Jvm.Cond.stringRef "NotationPress" (351 : Nat) "no more columns") ∈ lw_tbl := List.mem_of_getElem? (i := 1279) (by decide +kernel)
theorem sw1296 : (Jvm.Cond.stringRef "NotationPress" (373 : Nat) "no such step") ∈ lw_tbl := List.mem_of_getElem? (i := 1296) (by decide +kernel)
theorem dX11_tableOf_0 : decode cX11_tableOf 0 = .ok (.iload_n 1, 1) := by decide +kernel
theorem dX11_tableOf_1 : decode cX11_tableOf 1 = .ok (.ifCond .lt 21, 3) := by decide +kernel
theorem dX11_tableOf_4 : decode cX11_tableOf 4 = .ok (.iload_n 1, 1) := by decide +kernel
theorem dX11_tableOf_5 : decode cX11_tableOf 5 = .ok (.aload_n 0, 1) := by decide +kernel
theorem dX11_tableOf_6 : decode cX11_tableOf 6 = .ok (.getfield 40, 3) := by decide +kernel
theorem dX11_tableOf_9 : decode cX11_tableOf 9 = .ok (.arraylength, 1) := by decide +kernel
theorem dX11_tableOf_10 : decode cX11_tableOf 10 = .ok (.if_icmp .ge 12, 3) := by decide +kernel
theorem dX11_tableOf_13 : decode cX11_tableOf 13 = .ok (.aload_n 0, 1) := by decide +kernel
theorem dX11_tableOf_14 : decode cX11_tableOf 14 = .ok (.getfield 40, 3) := by decide +kernel
theorem dX11_tableOf_17 : decode cX11_tableOf 17 = .ok (.iload_n 1, 1) := by decide +kernel
theorem dX11_tableOf_18 : decode cX11_tableOf 18 = .ok (.aaload, 1) := by decide +kernel
theorem dX11_tableOf_19 : decode cX11_tableOf 19 = .ok (.goto 4, 3) := by decide +kernel
theorem dX11_tableOf_22 : decode cX11_tableOf 22 = .ok (.aconst_null, 1) := by decide +kernel
theorem dX11_tableOf_23 : decode cX11_tableOf 23 = .ok (.areturn, 1) := by decide +kernel
def is_X11_tableOf (Rt : np_Rt) : List (Nat × np_Op) := [(0, np_ild 1 1), (1, nq_if (fun x => x < 0) 22), (4, np_ild 1 1), (5, np_ald 1 0), (6, nw_getf 11 5), (9, nw_alen), (10, nq_ic (fun x y => y ≤ x) 22), (13, np_ald 1 0), (14, nw_getf 11 5), (17, np_ild 1 1), (18, nw_aald "NotationPress$Table"), (19, np_goto 23), (22, np_push 1 .null), (23, np_ret Rt)]
set_option maxRecDepth 20000 in
theorem so_X11_tableOf {X : np_Ctx} {Rt : np_Rt} (hX : np_ok RX11 cX11_tableOf 2 0 0 0 0 .areturn X) (hR : ∀ st w ce sl, Rt st w ce sl → X.2.2.1 st w ce sl) : ∀ q ∈ is_X11_tableOf Rt, np_S X q.1 q.2 :=
  List.forall_mem_cons.mpr ⟨np_s_iload_n hX dX11_tableOf_0 rfl, List.forall_mem_cons.mpr ⟨np_S.mono (op := np_if (fun x => x < 0) 22) (np_s_if_lt hX dX11_tableOf_1 (by decide)) nq_if_le, List.forall_mem_cons.mpr ⟨np_s_iload_n hX dX11_tableOf_4 rfl, List.forall_mem_cons.mpr ⟨np_s_aload_n hX dX11_tableOf_5 rfl, List.forall_mem_cons.mpr ⟨np_S.mono (op := np_getf 11 5) (np_s_getf hX dX11_tableOf_6 (C := RX11) (T := TX11) (N := 14) rfl guX11 (by decide) gw446) nw_getf_le, List.forall_mem_cons.mpr ⟨np_S.mono (op := np_alen) (np_s_alen hX dX11_tableOf_9) nw_alen_le, List.forall_mem_cons.mpr ⟨np_S.mono (op := np_ic (fun x y => y ≤ x) 22) (np_s_icmp_ge hX dX11_tableOf_10 (by decide)) nq_ic_le, List.forall_mem_cons.mpr ⟨np_s_aload_n hX dX11_tableOf_13 rfl, List.forall_mem_cons.mpr ⟨np_S.mono (op := np_getf 11 5) (np_s_getf hX dX11_tableOf_14 (C := RX11) (T := TX11) (N := 14) rfl guX11 (by decide) gw446) nw_getf_le, List.forall_mem_cons.mpr ⟨np_s_iload_n hX dX11_tableOf_17 rfl, List.forall_mem_cons.mpr ⟨np_S.mono (op := np_aald "NotationPress$Table") (np_s_aald hX dX11_tableOf_18) nw_aald_le, List.forall_mem_cons.mpr ⟨np_s_goto hX dX11_tableOf_19 (by decide), List.forall_mem_cons.mpr ⟨np_s_null hX dX11_tableOf_22, List.forall_mem_cons.mpr ⟨np_S.mono (op := np_ret X.2.2.1) (np_s_ret hX dX11_tableOf_23) (nq_ret_le hR), fun _ h => nomatch h⟩⟩⟩⟩⟩⟩⟩⟩⟩⟩⟩⟩⟩⟩
noncomputable def m_X11_tableOf (S : pw_S) (i0 : Nat) (x1 : Int32) : pw_R (Option Nat) :=
 if x1 < 0 then
 (some (S, none))
 else
 (if 2 ≤ x1 then
 (some (S, none))
 else
 (pw_c (np_inb x1 2) <|
 some (S, some (pw_dn 2 x1))))
def sp_X11_tableOf : np_Sp := fun vs w Q => ∃ (q : Nat) (S : pw_S) (i0 : Nat) (x1 : Int32), vs = [.ref (pw_pl 61 i0), .int x1] ∧ pw_ok q 61 i0 = true ∧ pw_W q w S ∧ pw_p (m_X11_tableOf S i0 x1) (fun S' r => ∀ f', pw_W q (w.1, f') S' → pw_oo q 54 r = true → Q (some (pw_v 54 r)) (w.1, f'))
set_option maxRecDepth 100000 in
set_option maxHeartbeats 8000000 in
theorem C_X11_tableOf : np_C yX11_tableOf cX11_tableOf 2 (some (.object "NotationPress$Table")) 0 0 0 0 sp_X11_tableOf := by
  refine np_of (by decide) ?_
  intro X vs w Q hsp hX hmn hRt hlt
  obtain ⟨q, S, i0, x1, rfl, hi0, hW, h⟩ := hsp
  obtain ⟨n, f⟩ := w
  unfold m_X11_tableOf at h
  have hR : ∀ st w ce sl, np_rt (some (.object "NotationPress$Table")) 0 0 Q st w ce sl → X.2.2.1 st w ce sl := fun _ _ _ _ h => by rw [hRt]; exact h
  refine np_soundW (so_X11_tableOf hX hR) [] 400 0 _ _ _ _ _ ?_
  conv => whnf
  refine pw_br h (fun _ h => ?_) (fun _ h => ?_)
  · conv => whnf
    exact ⟨Nat.le_of_ble_eq_true rfl, Nat.le_of_ble_eq_true rfl, Or.inl rfl, _, fun _ _ h9 => h9, pw_ps h _ hW rfl⟩
  · conv => whnf
    refine np_rd_i (hW.g hi0) ?_
    conv => whnf
    refine np_rd_i (hW.g rfl) ?_
    conv => whnf
    refine pw_br h (fun _ h => ?_) (fun _ h => ?_)
    · conv => whnf
      exact ⟨Nat.le_of_ble_eq_true rfl, Nat.le_of_ble_eq_true rfl, Or.inl rfl, _, fun _ _ h9 => h9, pw_ps h _ hW rfl⟩
    · conv => whnf
      refine np_rd_i (hW.g hi0) ?_
      conv => whnf
      refine np_rd_i (hW.g rfl) ?_
      conv => whnf
      refine ⟨rfl, ?_⟩
      conv => whnf
      refine pw_ck h (fun hb1 h => ?_)
      conv => whnf
      exact ⟨Nat.le_of_ble_eq_true rfl, Nat.le_of_ble_eq_true rfl, Or.inr ⟨_, rfl⟩, _, fun _ _ h9 => h9, pw_ps h _ hW (pw_okd (a := 54) (n := 2) rfl rfl rfl)⟩
theorem dX11_stream_0 : decode cX11_stream 0 = .ok (.aload_n 0, 1) := by decide +kernel
theorem dX11_stream_1 : decode cX11_stream 1 = .ok (.iload_n 1, 1) := by decide +kernel
theorem dX11_stream_2 : decode cX11_stream 2 = .ok (.invokevirtual 283, 3) := by decide +kernel
theorem dX11_stream_5 : decode cX11_stream 5 = .ok (.astore_n 3, 1) := by decide +kernel
theorem dX11_stream_6 : decode cX11_stream 6 = .ok (.aload_n 0, 1) := by decide +kernel
theorem dX11_stream_7 : decode cX11_stream 7 = .ok (.iload_n 2, 1) := by decide +kernel
theorem dX11_stream_8 : decode cX11_stream 8 = .ok (.invokevirtual 147, 3) := by decide +kernel
theorem dX11_stream_11 : decode cX11_stream 11 = .ok (.astore 4, 2) := by decide +kernel
theorem dX11_stream_13 : decode cX11_stream 13 = .ok (.aload_n 3, 1) := by decide +kernel
theorem dX11_stream_14 : decode cX11_stream 14 = .ok (.ifnonnull 13, 3) := by decide +kernel
theorem dX11_stream_17 : decode cX11_stream 17 = .ok (.new 96, 3) := by decide +kernel
theorem dX11_stream_20 : decode cX11_stream 20 = .ok (.dup, 1) := by decide +kernel
theorem dX11_stream_21 : decode cX11_stream 21 = .ok (.ldc 215, 2) := by decide +kernel
theorem dX11_stream_23 : decode cX11_stream 23 = .ok (.invokespecial 100, 3) := by decide +kernel
theorem dX11_stream_26 : decode cX11_stream 26 = .ok (.athrow, 1) := by decide +kernel
theorem dX11_stream_27 : decode cX11_stream 27 = .ok (.aload 4, 2) := by decide +kernel
theorem dX11_stream_29 : decode cX11_stream 29 = .ok (.ifnonnull 13, 3) := by decide +kernel
theorem dX11_stream_32 : decode cX11_stream 32 = .ok (.new 96, 3) := by decide +kernel
theorem dX11_stream_35 : decode cX11_stream 35 = .ok (.dup, 1) := by decide +kernel
theorem dX11_stream_36 : decode cX11_stream 36 = .ok (.ldc 151, 2) := by decide +kernel
theorem dX11_stream_38 : decode cX11_stream 38 = .ok (.invokespecial 100, 3) := by decide +kernel
theorem dX11_stream_41 : decode cX11_stream 41 = .ok (.athrow, 1) := by decide +kernel
theorem dX11_stream_42 : decode cX11_stream 42 = .ok (.aload_n 3, 1) := by decide +kernel
theorem dX11_stream_43 : decode cX11_stream 43 = .ok (.getfield 287, 3) := by decide +kernel
theorem dX11_stream_46 : decode cX11_stream 46 = .ok (.istore 5, 2) := by decide +kernel
theorem dX11_stream_48 : decode cX11_stream 48 = .ok (.aload_n 3, 1) := by decide +kernel
theorem dX11_stream_49 : decode cX11_stream 49 = .ok (.aload 4, 2) := by decide +kernel
theorem dX11_stream_51 : decode cX11_stream 51 = .ok (.invokevirtual 290, 3) := by decide +kernel
theorem dX11_stream_54 : decode cX11_stream 54 = .ok (.iload 5, 2) := by decide +kernel
theorem dX11_stream_56 : decode cX11_stream 56 = .ok (.ireturn, 1) := by decide +kernel
def is_X11_stream (Rt : np_Rt) (Th : np_Th) : List (Nat × np_Op) := [(0, np_ald 1 0), (1, np_ild 1 1), (2, nw_callV 11 2 sp_X11_tableOf 2 0 0 1 6), (5, np_ast 1 3), (6, np_ald 1 0), (7, np_ild 1 2), (8, nw_callV 11 2 sp_X11_descriptionOf 3 0 0 1 6), (11, np_ast 2 4), (13, np_ald 1 3), (14, np_ifnonnull 27), (17, nq_throw Th 0), (27, np_ald 2 4), (29, np_ifnonnull 42), (32, nq_throw Th 0), (42, np_ald 1 3), (43, nw_getf 6 6), (46, nw_ist 2 5), (48, np_ald 1 3), (49, np_ald 2 4), (51, nw_callV 6 2 sp_X6_restart 2 0 0 1 6), (54, np_ild 2 5), (56, np_ret Rt)]
set_option maxRecDepth 20000 in
theorem so_X11_stream {X : np_Ctx} {Rt : np_Rt} {Th : np_Th} (hX : np_ok RX11 cX11_stream 6 6 100 1 6 .ireturn X) (hR : ∀ st w ce sl, Rt st w ce sl → X.2.2.1 st w ce sl) (hT : ∀ i w ce sl, Th i w ce sl → X.2.2.2 i w ce sl) : ∀ q ∈ is_X11_stream Rt Th, np_S X q.1 q.2 :=
  List.forall_mem_cons.mpr ⟨np_s_aload_n hX dX11_stream_0 rfl, List.forall_mem_cons.mpr ⟨np_s_iload_n hX dX11_stream_1 rfl, List.forall_mem_cons.mpr ⟨np_S.mono (op := np_callV 11 2 sp_X11_tableOf 2 0 0 1 6) (np_s_callV hX C_X11_tableOf dX11_stream_2 (q := (RX11, TX11, 14)) rfl rfl gw977 gw63 gw974 gw976 gw18 ⟨by decide, by decide, by decide⟩ (by decide) (by decide)) nw_callV_le, List.forall_mem_cons.mpr ⟨np_s_astore_n hX dX11_stream_5 rfl (by decide), List.forall_mem_cons.mpr ⟨np_s_aload_n hX dX11_stream_6 rfl, List.forall_mem_cons.mpr ⟨np_s_iload_n hX dX11_stream_7 rfl, List.forall_mem_cons.mpr ⟨np_S.mono (op := np_callV 11 2 sp_X11_descriptionOf 3 0 0 1 6) (np_s_callV hX C_X11_descriptionOf dX11_stream_8 (q := (RX11, TX11, 14)) rfl rfl gw699 gw63 gw696 gw698 gw3 ⟨by decide, by decide, by decide⟩ (by decide) (by decide)) nw_callV_le, List.forall_mem_cons.mpr ⟨np_s_astore hX dX11_stream_11 (by decide), List.forall_mem_cons.mpr ⟨np_s_aload_n hX dX11_stream_13 rfl, List.forall_mem_cons.mpr ⟨np_s_ifnonnull hX dX11_stream_14 (by decide), List.forall_mem_cons.mpr ⟨np_S.mono (op := np_throw X.2.2.2 0) (np_s_throw hX ⟨96, 215, 100, _, gw516, gw78, sw942, twX11_100, toX11_100_96, Or.inl ⟨dX11_stream_17, dX11_stream_20, dX11_stream_21, dX11_stream_23, dX11_stream_26⟩⟩) (nq_throw_le hT), List.forall_mem_cons.mpr ⟨np_s_aload hX dX11_stream_27, List.forall_mem_cons.mpr ⟨np_s_ifnonnull hX dX11_stream_29 (by decide), List.forall_mem_cons.mpr ⟨np_S.mono (op := np_throw X.2.2.2 0) (np_s_throw hX ⟨96, 151, 100, _, gw516, gw78, sw700, twX11_100, toX11_100_96, Or.inl ⟨dX11_stream_32, dX11_stream_35, dX11_stream_36, dX11_stream_38, dX11_stream_41⟩⟩) (nq_throw_le hT), List.forall_mem_cons.mpr ⟨np_s_aload_n hX dX11_stream_42 rfl, List.forall_mem_cons.mpr ⟨np_S.mono (op := np_getf 6 6) (np_s_getN hX dX11_stream_43 (C := RX6) (T := TX6) (N := 12) rfl guX6 (by decide) gw355) nw_getf_le, List.forall_mem_cons.mpr ⟨np_S.mono (op := np_ist 2 5) (np_s_istore hX dX11_stream_46 (by decide)) nw_ist_le, List.forall_mem_cons.mpr ⟨np_s_aload_n hX dX11_stream_48 rfl, List.forall_mem_cons.mpr ⟨np_s_aload hX dX11_stream_49, List.forall_mem_cons.mpr ⟨np_S.mono (op := np_callV 6 2 sp_X6_restart 2 0 0 1 6) (np_s_callV hX C_X6_restart dX11_stream_51 (q := (RX6, TX6, 12)) rfl rfl gw1244 gw72 gw1241 gw1242 gw1243 ⟨by decide, by decide, by decide⟩ (by decide) (by decide)) nw_callV_le, List.forall_mem_cons.mpr ⟨np_s_iload hX dX11_stream_54, List.forall_mem_cons.mpr ⟨np_S.mono (op := np_ret X.2.2.1) (np_s_ret hX dX11_stream_56) (nq_ret_le hR), fun _ h => nomatch h⟩⟩⟩⟩⟩⟩⟩⟩⟩⟩⟩⟩⟩⟩⟩⟩⟩⟩⟩⟩⟩⟩
noncomputable def m_X11_stream (S : pw_S) (i0 : Nat) (x1 : Int32) (x2 : Int32) : pw_R (Int32 ⊕ Nat) :=
 pw_b (m_X11_tableOf S i0 x1) fun S1 r4 =>
 pw_o r4 (
 (pw_b (m_X11_descriptionOf S1 i0 x2) fun S7 r10 =>
 pw_o r10 (
 (some (S7, .inr 0))) (fun j12 =>
 (some (S7, .inr 0))))) (fun j6 =>
 (pw_b (m_X11_descriptionOf S1 i0 x2) fun S13 r16 =>
 pw_o r16 (
 (some (S13, .inr 0))) (fun j18 =>
 (pw_l ((S13 54 j6 6) : Int32) fun z19 =>
 pw_b (m_X6_restart S13 j6 j18) fun S20 r23 =>
 some (S20, .inl z19)))))
def sp_X11_stream : np_SpX := fun vs w Q QX => ∃ (q : Nat) (S : pw_S) (i0 : Nat) (x1 : Int32) (x2 : Int32), vs = [.ref (pw_pl 61 i0), .int x1, .int x2] ∧ pw_ok q 61 i0 = true ∧ pw_W q w S ∧ pw_p (m_X11_stream S i0 x1 x2) (fun S' rx => ∀ f', pw_W q (w.1, f') S' → match rx with | .inl r => Q (some (.int r)) (w.1, f') | .inr e => QX e (w.1, f'))
set_option maxRecDepth 100000 in
set_option maxHeartbeats 8000000 in
theorem C_X11_stream : np_CX yX11_stream cX11_stream 6 (some .int) 6 100 1 6 sp_X11_stream := by
  refine np_ofX (by decide) (by decide) (by decide) ?_
  intro X vs w Q QX hsp hX hmn hRt hTh
  obtain ⟨q, S, i0, x1, x2, rfl, hi0, hW, h⟩ := hsp
  obtain ⟨n, f⟩ := w
  unfold m_X11_stream at h
  have hR : ∀ st w ce sl, np_rq (some .int) 1 6 Q st w ce sl → X.2.2.1 st w ce sl := fun _ _ _ _ h => by rw [hRt]; exact h
  have hT : ∀ i w ce sl, np_thq 1 6 QX i w ce sl → X.2.2.2 i w ce sl := fun _ _ _ _ h => by rw [hTh]; exact h
  refine np_soundW (so_X11_stream hX hR hT) [] 400 0 _ _ _ _ _ ?_
  conv => whnf
  refine np_rd_i (hW.g hi0) ?_
  conv => whnf
  refine ⟨q, S, i0, x1, rfl, hi0, hW, pw_bd h (fun S1 r4 h f2 hW3 ho5 => ?_)⟩
  rcases r4 with _ | j6
  · replace h := pw_on h
    conv => whnf
    refine np_rd_i (hW3.g hi0) ?_
    conv => whnf
    refine ⟨q, S1, i0, x2, rfl, hi0, hW3, pw_bd h (fun S7 r10 h f8 hW9 ho11 => ?_)⟩
    rcases r10 with _ | j12
    · replace h := pw_on h
      conv => whnf
      exact ⟨Nat.le_of_ble_eq_true rfl, Nat.le_of_ble_eq_true rfl, pw_ps h _ hW9⟩
    · replace h := pw_os h
      replace ho11 : pw_ok q 52 j12 = true := ho11
      conv => whnf
      exact ⟨Nat.le_of_ble_eq_true rfl, Nat.le_of_ble_eq_true rfl, pw_ps h _ hW9⟩
  · replace h := pw_os h
    replace ho5 : pw_ok q 54 j6 = true := ho5
    conv => whnf
    refine np_rd_i (hW3.g hi0) ?_
    conv => whnf
    refine ⟨q, S1, i0, x2, rfl, hi0, hW3, pw_bd h (fun S13 r16 h f14 hW15 ho17 => ?_)⟩
    rcases r16 with _ | j18
    · replace h := pw_on h
      conv => whnf
      exact ⟨Nat.le_of_ble_eq_true rfl, Nat.le_of_ble_eq_true rfl, pw_ps h _ hW15⟩
    · replace h := pw_os h
      replace ho17 : pw_ok q 52 j18 = true := ho17
      conv => whnf
      refine np_rd_i (hW15.g ho5) ?_
      conv => whnf
      refine pw_st h (fun z19 h => ?_)
      conv => whnf
      refine np_rd_i (hW15.g ho5) ?_
      conv => whnf
      refine ⟨q, S13, j6, j18, rfl, ho5, ho17, hW15, pw_bd h (fun S20 r23 h f21 hW22 => ?_)⟩
      conv => whnf
      exact ⟨Nat.le_of_ble_eq_true rfl, Nat.le_of_ble_eq_true rfl, trivial, pw_ps h _ hW22⟩
theorem dX11_step_0 : decode cX11_step 0 = .ok (.aload_n 0, 1) := by decide +kernel
theorem dX11_step_1 : decode cX11_step 1 = .ok (.iload_n 1, 1) := by decide +kernel
theorem dX11_step_2 : decode cX11_step 2 = .ok (.invokevirtual 211, 3) := by decide +kernel
theorem dX11_step_5 : decode cX11_step 5 = .ok (.astore_n 2, 1) := by decide +kernel
theorem dX11_step_6 : decode cX11_step 6 = .ok (.aload_n 0, 1) := by decide +kernel
theorem dX11_step_7 : decode cX11_step 7 = .ok (.iload_n 1, 1) := by decide +kernel
theorem dX11_step_8 : decode cX11_step 8 = .ok (.invokevirtual 283, 3) := by decide +kernel
theorem dX11_step_11 : decode cX11_step 11 = .ok (.astore_n 3, 1) := by decide +kernel
theorem dX11_step_12 : decode cX11_step 12 = .ok (.aload_n 2, 1) := by decide +kernel
theorem dX11_step_13 : decode cX11_step 13 = .ok (.ifnull 7, 3) := by decide +kernel
theorem dX11_step_16 : decode cX11_step 16 = .ok (.aload_n 3, 1) := by decide +kernel
theorem dX11_step_17 : decode cX11_step 17 = .ok (.ifnonnull 13, 3) := by decide +kernel
theorem dX11_step_20 : decode cX11_step 20 = .ok (.new 96, 3) := by decide +kernel
theorem dX11_step_23 : decode cX11_step 23 = .ok (.dup, 1) := by decide +kernel
theorem dX11_step_24 : decode cX11_step 24 = .ok (.ldc 215, 2) := by decide +kernel
theorem dX11_step_26 : decode cX11_step 26 = .ok (.invokespecial 100, 3) := by decide +kernel
theorem dX11_step_29 : decode cX11_step 29 = .ok (.athrow, 1) := by decide +kernel
theorem dX11_step_30 : decode cX11_step 30 = .ok (.aload_n 3, 1) := by decide +kernel
theorem dX11_step_31 : decode cX11_step 31 = .ok (.getfield 294, 3) := by decide +kernel
theorem dX11_step_34 : decode cX11_step 34 = .ok (.astore 4, 2) := by decide +kernel
theorem dX11_step_36 : decode cX11_step 36 = .ok (.aload 4, 2) := by decide +kernel
theorem dX11_step_38 : decode cX11_step 38 = .ok (.ifnonnull 14, 3) := by decide +kernel
theorem dX11_step_41 : decode cX11_step 41 = .ok (.new 116, 3) := by decide +kernel
theorem dX11_step_44 : decode cX11_step 44 = .ok (.dup, 1) := by decide +kernel
theorem dX11_step_45 : decode cX11_step 45 = .ok (.ldc_w 298, 3) := by decide +kernel
theorem dX11_step_48 : decode cX11_step 48 = .ok (.invokespecial 120, 3) := by decide +kernel
theorem dX11_step_51 : decode cX11_step 51 = .ok (.athrow, 1) := by decide +kernel
theorem dX11_step_52 : decode cX11_step 52 = .ok (.aload_n 2, 1) := by decide +kernel
theorem dX11_step_53 : decode cX11_step 53 = .ok (.aload_n 3, 1) := by decide +kernel
theorem dX11_step_54 : decode cX11_step 54 = .ok (.getfield 287, 3) := by decide +kernel
theorem dX11_step_57 : decode cX11_step 57 = .ok (.invokevirtual 300, 3) := by decide +kernel
theorem dX11_step_60 : decode cX11_step 60 = .ok (.istore 5, 2) := by decide +kernel
theorem dX11_step_62 : decode cX11_step 62 = .ok (.iload 5, 2) := by decide +kernel
theorem dX11_step_64 : decode cX11_step 64 = .ok (.ifCond .ge 17, 3) := by decide +kernel
theorem dX11_step_67 : decode cX11_step 67 = .ok (.aload_n 2, 1) := by decide +kernel
theorem dX11_step_68 : decode cX11_step 68 = .ok (.getfield 246, 3) := by decide +kernel
theorem dX11_step_71 : decode cX11_step 71 = .ok (.ifCond .eq 7, 3) := by decide +kernel
theorem dX11_step_74 : decode cX11_step 74 = .ok (.iconst (-1), 1) := by decide +kernel
theorem dX11_step_75 : decode cX11_step 75 = .ok (.goto 5, 3) := by decide +kernel
theorem dX11_step_78 : decode cX11_step 78 = .ok (.bipush (-2), 2) := by decide +kernel
theorem dX11_step_80 : decode cX11_step 80 = .ok (.ireturn, 1) := by decide +kernel
theorem dX11_step_81 : decode cX11_step 81 = .ok (.aload_n 3, 1) := by decide +kernel
theorem dX11_step_82 : decode cX11_step 82 = .ok (.invokevirtual 303, 3) := by decide +kernel
theorem dX11_step_85 : decode cX11_step 85 = .ok (.ifCond .eq 14, 3) := by decide +kernel
theorem dX11_step_88 : decode cX11_step 88 = .ok (.new 116, 3) := by decide +kernel
theorem dX11_step_91 : decode cX11_step 91 = .ok (.dup, 1) := by decide +kernel
theorem dX11_step_92 : decode cX11_step 92 = .ok (.ldc_w 304, 3) := by decide +kernel
theorem dX11_step_95 : decode cX11_step 95 = .ok (.invokespecial 120, 3) := by decide +kernel
theorem dX11_step_98 : decode cX11_step 98 = .ok (.athrow, 1) := by decide +kernel
theorem dX11_step_99 : decode cX11_step 99 = .ok (.aload_n 3, 1) := by decide +kernel
theorem dX11_step_100 : decode cX11_step 100 = .ok (.invokevirtual 306, 3) := by decide +kernel
theorem dX11_step_103 : decode cX11_step 103 = .ok (.aload_n 0, 1) := by decide +kernel
theorem dX11_step_104 : decode cX11_step 104 = .ok (.getfield 54, 3) := by decide +kernel
theorem dX11_step_107 : decode cX11_step 107 = .ok (.aload 4, 2) := by decide +kernel
theorem dX11_step_109 : decode cX11_step 109 = .ok (.getfield 140, 3) := by decide +kernel
theorem dX11_step_112 : decode cX11_step 112 = .ok (.aload_n 2, 1) := by decide +kernel
theorem dX11_step_113 : decode cX11_step 113 = .ok (.aload_n 3, 1) := by decide +kernel
theorem dX11_step_114 : decode cX11_step 114 = .ok (.getfield 287, 3) := by decide +kernel
theorem dX11_step_117 : decode cX11_step 117 = .ok (.invokevirtual 258, 3) := by decide +kernel
theorem dX11_step_120 : decode cX11_step 120 = .ok (.iconst 0, 1) := by decide +kernel
theorem dX11_step_121 : decode cX11_step 121 = .ok (.istore 6, 2) := by decide +kernel
theorem dX11_step_123 : decode cX11_step 123 = .ok (.iload 6, 2) := by decide +kernel
theorem dX11_step_125 : decode cX11_step 125 = .ok (.sipush 10000, 3) := by decide +kernel
theorem dX11_step_128 : decode cX11_step 128 = .ok (.if_icmp .ge 53, 3) := by decide +kernel
theorem dX11_step_131 : decode cX11_step 131 = .ok (.aload_n 0, 1) := by decide +kernel
theorem dX11_step_132 : decode cX11_step 132 = .ok (.getfield 54, 3) := by decide +kernel
theorem dX11_step_135 : decode cX11_step 135 = .ok (.invokevirtual 262, 3) := by decide +kernel
theorem dX11_step_138 : decode cX11_step 138 = .ok (.ifCond .eq 43, 3) := by decide +kernel
theorem dX11_step_141 : decode cX11_step 141 = .ok (.aload_n 3, 1) := by decide +kernel
theorem dX11_step_142 : decode cX11_step 142 = .ok (.getfield 287, 3) := by decide +kernel
theorem dX11_step_145 : decode cX11_step 145 = .ok (.aload_n 0, 1) := by decide +kernel
theorem dX11_step_146 : decode cX11_step 146 = .ok (.getfield 54, 3) := by decide +kernel
theorem dX11_step_149 : decode cX11_step 149 = .ok (.getfield 278, 3) := by decide +kernel
theorem dX11_step_152 : decode cX11_step 152 = .ok (.getfield 282, 3) := by decide +kernel
theorem dX11_step_155 : decode cX11_step 155 = .ok (.iadd, 1) := by decide +kernel
theorem dX11_step_156 : decode cX11_step 156 = .ok (.iload 5, 2) := by decide +kernel
theorem dX11_step_158 : decode cX11_step 158 = .ok (.if_icmp .ne 17, 3) := by decide +kernel
theorem dX11_step_161 : decode cX11_step 161 = .ok (.aload_n 3, 1) := by decide +kernel
theorem dX11_step_162 : decode cX11_step 162 = .ok (.aload_n 0, 1) := by decide +kernel
theorem dX11_step_163 : decode cX11_step 163 = .ok (.getfield 54, 3) := by decide +kernel
theorem dX11_step_166 : decode cX11_step 166 = .ok (.getfield 278, 3) := by decide +kernel
theorem dX11_step_169 : decode cX11_step 169 = .ok (.getfield 202, 3) := by decide +kernel
theorem dX11_step_172 : decode cX11_step 172 = .ok (.invokevirtual 309, 3) := by decide +kernel
theorem dX11_step_175 : decode cX11_step 175 = .ok (.iinc 6 1, 3) := by decide +kernel
theorem dX11_step_178 : decode cX11_step 178 = .ok (.goto (-55), 3) := by decide +kernel
theorem dX11_step_181 : decode cX11_step 181 = .ok (.aload_n 3, 1) := by decide +kernel
theorem dX11_step_182 : decode cX11_step 182 = .ok (.aload_n 0, 1) := by decide +kernel
theorem dX11_step_183 : decode cX11_step 183 = .ok (.getfield 54, 3) := by decide +kernel
theorem dX11_step_186 : decode cX11_step 186 = .ok (.getfield 265, 3) := by decide +kernel
theorem dX11_step_189 : decode cX11_step 189 = .ok (.iload 5, 2) := by decide +kernel
theorem dX11_step_191 : decode cX11_step 191 = .ok (.iconst 1, 1) := by decide +kernel
theorem dX11_step_192 : decode cX11_step 192 = .ok (.iadd, 1) := by decide +kernel
theorem dX11_step_193 : decode cX11_step 193 = .ok (.aload_n 2, 1) := by decide +kernel
theorem dX11_step_194 : decode cX11_step 194 = .ok (.getfield 232, 3) := by decide +kernel
theorem dX11_step_197 : decode cX11_step 197 = .ok (.invokestatic 268, 3) := by decide +kernel
theorem dX11_step_200 : decode cX11_step 200 = .ok (.invokevirtual 313, 3) := by decide +kernel
theorem dX11_step_203 : decode cX11_step 203 = .ok (.ifCond .eq 7, 3) := by decide +kernel
theorem dX11_step_206 : decode cX11_step 206 = .ok (.iconst 1, 1) := by decide +kernel
theorem dX11_step_207 : decode cX11_step 207 = .ok (.goto 4, 3) := by decide +kernel
theorem dX11_step_210 : decode cX11_step 210 = .ok (.iconst 0, 1) := by decide +kernel
theorem dX11_step_211 : decode cX11_step 211 = .ok (.ireturn, 1) := by decide +kernel
def is_X11_step (Rt : np_Rt) (Th : np_Th) : List (Nat × np_Op) := [(0, np_ald 1 0), (1, np_ild 1 1), (2, nw_callV 11 2 sp_X11_fileOf 2 0 0 1 6), (5, np_ast 1 2), (6, np_ald 1 0), (7, np_ild 1 1), (8, nw_callV 11 2 sp_X11_tableOf 2 0 0 1 6), (11, np_ast 1 3), (12, np_ald 1 2), (13, np_ifnull 20), (16, np_ald 1 3), (17, np_ifnonnull 30), (20, nq_throw Th 0), (30, np_ald 1 3), (31, nw_getn 6 5), (34, np_ast 2 4), (36, np_ald 2 4), (38, np_ifnonnull 52), (41, nq_throw Th 2), (52, np_ald 1 2), (53, np_ald 1 3), (54, nw_getf 6 6), (57, nw_callV 7 2 sp_X7_endOfLine 3 0 0 1 6), (60, nw_ist 2 5), (62, np_ild 2 5), (64, nq_if (fun x => 0 ≤ x) 81), (67, np_ald 1 2), (68, nw_getf 7 2), (71, nq_if (fun x => x = 0) 78), (74, np_push 1 (.int (-1))), (75, np_goto 80), (78, np_push 2 (.int (-2))), (80, np_ret Rt), (81, np_ald 1 3), (82, nw_callV 6 1 sp_X6_isFull 1 0 0 1 6), (85, nq_if (fun x => x = 0) 99), (88, nq_throw Th 2), (99, np_ald 1 3), (100, nw_callV 6 1 sp_X6_beginLine 1 0 0 1 6), (103, np_ald 1 0), (104, nw_getf 11 7), (107, np_ald 2 4), (109, nw_getf 1 0), (112, np_ald 1 2), (113, np_ald 1 3), (114, nw_getf 6 6), (117, nw_callV 4 4 sp_X4_begin 5 0 0 1 6), (120, np_push 1 (.int 0)), (121, nw_ist 2 6), (123, np_ild 2 6), (125, np_push 3 (.int 10000)), (128, nq_ic (fun x y => y ≤ x) 181), (131, np_ald 1 0), (132, nw_getf 11 7), (135, nw_callV 4 1 sp_X4_goToNext 3 0 0 1 6), (138, nq_if (fun x => x = 0) 181), (141, np_ald 1 3), (142, nw_getf 6 6), (145, np_ald 1 0), (146, nw_getf 11 7), (149, nw_getf 4 1), (152, nw_getf 8 6), (155, np_ib (fun x y => x + y)), (156, np_ild 2 5), (158, nq_icne 175), (161, np_ald 1 3), (162, np_ald 1 0), (163, nw_getf 11 7), (166, nw_getf 4 1), (169, nw_getf 8 0), (172, nw_callV 6 2 sp_X6_weigh 3 0 0 1 6), (175, nw_iinc 6 1), (178, np_goto 123), (181, np_ald 1 3), (182, np_ald 1 0), (183, nw_getf 11 7), (186, nw_getf 4 10), (189, np_ild 2 5), (191, np_push 1 (.int 1)), (192, np_ib (fun x y => x + y)), (193, np_ald 1 2), (194, nw_getf 7 1), (197, nq_mm 1 6), (200, nw_callV 6 3 sp_X6_endLine 5 0 0 1 6), (203, nq_if (fun x => x = 0) 210), (206, np_push 1 (.int 1)), (207, np_goto 211), (210, np_push 1 (.int 0)), (211, np_ret Rt)]
set_option maxRecDepth 20000 in
theorem so_X11_step {X : np_Ctx} {Rt : np_Rt} {Th : np_Th} (hX : np_ok RX11 cX11_step 7 7 197 1 6 .ireturn X) (hR : ∀ st w ce sl, Rt st w ce sl → X.2.2.1 st w ce sl) (hT : ∀ i w ce sl, Th i w ce sl → X.2.2.2 i w ce sl) : ∀ q ∈ is_X11_step Rt Th, np_S X q.1 q.2 :=
  List.forall_mem_cons.mpr ⟨np_s_aload_n hX dX11_step_0 rfl, List.forall_mem_cons.mpr ⟨np_s_iload_n hX dX11_step_1 rfl, List.forall_mem_cons.mpr ⟨np_S.mono (op := np_callV 11 2 sp_X11_fileOf 2 0 0 1 6) (np_s_callV hX C_X11_fileOf dX11_step_2 (q := (RX11, TX11, 14)) rfl rfl gw941 gw63 gw938 gw940 gw17 ⟨by decide, by decide, by decide⟩ (by decide) (by decide)) nw_callV_le, List.forall_mem_cons.mpr ⟨np_s_astore_n hX dX11_step_5 rfl (by decide), List.forall_mem_cons.mpr ⟨np_s_aload_n hX dX11_step_6 rfl, List.forall_mem_cons.mpr ⟨np_s_iload_n hX dX11_step_7 rfl, List.forall_mem_cons.mpr ⟨np_S.mono (op := np_callV 11 2 sp_X11_tableOf 2 0 0 1 6) (np_s_callV hX C_X11_tableOf dX11_step_8 (q := (RX11, TX11, 14)) rfl rfl gw977 gw63 gw974 gw976 gw18 ⟨by decide, by decide, by decide⟩ (by decide) (by decide)) nw_callV_le, List.forall_mem_cons.mpr ⟨np_s_astore_n hX dX11_step_11 rfl (by decide), List.forall_mem_cons.mpr ⟨np_s_aload_n hX dX11_step_12 rfl, List.forall_mem_cons.mpr ⟨np_s_ifnull hX dX11_step_13 (by decide), List.forall_mem_cons.mpr ⟨np_s_aload_n hX dX11_step_16 rfl, List.forall_mem_cons.mpr ⟨np_s_ifnonnull hX dX11_step_17 (by decide), List.forall_mem_cons.mpr ⟨np_S.mono (op := np_throw X.2.2.2 0) (np_s_throw hX ⟨96, 215, 100, _, gw516, gw78, sw942, twX11_100, toX11_100_96, Or.inl ⟨dX11_step_20, dX11_step_23, dX11_step_24, dX11_step_26, dX11_step_29⟩⟩) (nq_throw_le hT), List.forall_mem_cons.mpr ⟨np_s_aload_n hX dX11_step_30 rfl, List.forall_mem_cons.mpr ⟨np_S.mono (op := np_getf 6 5) (np_s_getN hX dX11_step_31 (C := RX6) (T := TX6) (N := 12) rfl guX6 (by decide) gw353) nw_getn_le, List.forall_mem_cons.mpr ⟨np_s_astore hX dX11_step_34 (by decide), List.forall_mem_cons.mpr ⟨np_s_aload hX dX11_step_36, List.forall_mem_cons.mpr ⟨np_s_ifnonnull hX dX11_step_38 (by decide), List.forall_mem_cons.mpr ⟨np_S.mono (op := np_throw X.2.2.2 2) (np_s_throw hX ⟨116, 298, 120, _, gw610, gw80, sw978, twX11_120, toX11_120_116, Or.inr ⟨dX11_step_41, dX11_step_44, dX11_step_45, dX11_step_48, dX11_step_51⟩⟩) (nq_throw_le hT), List.forall_mem_cons.mpr ⟨np_s_aload_n hX dX11_step_52 rfl, List.forall_mem_cons.mpr ⟨np_s_aload_n hX dX11_step_53 rfl, List.forall_mem_cons.mpr ⟨np_S.mono (op := np_getf 6 6) (np_s_getN hX dX11_step_54 (C := RX6) (T := TX6) (N := 12) rfl guX6 (by decide) gw355) nw_getf_le, List.forall_mem_cons.mpr ⟨np_S.mono (op := np_callV 7 2 sp_X7_endOfLine 3 0 0 1 6) (np_s_callV hX C_X7_endOfLine dX11_step_57 (q := (RX7, TX7, 3)) rfl rfl gw982 gw68 gw979 gw980 gw981 ⟨by decide, by decide, by decide⟩ (by decide) (by decide)) nw_callV_le, List.forall_mem_cons.mpr ⟨np_S.mono (op := np_ist 2 5) (np_s_istore hX dX11_step_60 (by decide)) nw_ist_le, List.forall_mem_cons.mpr ⟨np_s_iload hX dX11_step_62, List.forall_mem_cons.mpr ⟨np_S.mono (op := np_if (fun x => 0 ≤ x) 81) (np_s_if_ge hX dX11_step_64 (by decide)) nq_if_le, List.forall_mem_cons.mpr ⟨np_s_aload_n hX dX11_step_67 rfl, List.forall_mem_cons.mpr ⟨np_S.mono (op := np_getf 7 2) (np_s_getN hX dX11_step_68 (C := RX7) (T := TX7) (N := 3) rfl guX7 (by decide) gw213) nw_getf_le, List.forall_mem_cons.mpr ⟨np_S.mono (op := np_if (fun x => x = 0) 78) (np_s_if_eq hX dX11_step_71 (by decide)) nq_if_le, List.forall_mem_cons.mpr ⟨np_s_iconst hX dX11_step_74 (by decide), List.forall_mem_cons.mpr ⟨np_s_goto hX dX11_step_75 (by decide), List.forall_mem_cons.mpr ⟨np_s_bipush hX dX11_step_78 (by decide), List.forall_mem_cons.mpr ⟨np_S.mono (op := np_ret X.2.2.1) (np_s_ret hX dX11_step_80) (nq_ret_le hR), List.forall_mem_cons.mpr ⟨np_s_aload_n hX dX11_step_81 rfl, List.forall_mem_cons.mpr ⟨np_S.mono (op := np_callV 6 1 sp_X6_isFull 1 0 0 1 6) (np_s_callV hX C_X6_isFull dX11_step_82 (q := (RX6, TX6, 12)) rfl rfl gw993 gw72 gw990 gw991 gw992 ⟨by decide, by decide, by decide⟩ (by decide) (by decide)) nw_callV_le, List.forall_mem_cons.mpr ⟨np_S.mono (op := np_if (fun x => x = 0) 99) (np_s_if_eq hX dX11_step_85 (by decide)) nq_if_le, List.forall_mem_cons.mpr ⟨np_S.mono (op := np_throw X.2.2.2 2) (np_s_throw hX ⟨116, 304, 120, _, gw610, gw80, sw994, twX11_120, toX11_120_116, Or.inr ⟨dX11_step_88, dX11_step_91, dX11_step_92, dX11_step_95, dX11_step_98⟩⟩) (nq_throw_le hT), List.forall_mem_cons.mpr ⟨np_s_aload_n hX dX11_step_99 rfl, List.forall_mem_cons.mpr ⟨np_S.mono (op := np_callV 6 1 sp_X6_beginLine 1 0 0 1 6) (np_s_callV hX C_X6_beginLine dX11_step_100 (q := (RX6, TX6, 12)) rfl rfl gw998 gw72 gw995 gw996 gw997 ⟨by decide, by decide, by decide⟩ (by decide) (by decide)) nw_callV_le, List.forall_mem_cons.mpr ⟨np_s_aload_n hX dX11_step_103 rfl, List.forall_mem_cons.mpr ⟨np_S.mono (op := np_getf 11 7) (np_s_getf hX dX11_step_104 (C := RX11) (T := TX11) (N := 14) rfl guX11 (by decide) gw448) nw_getf_le, List.forall_mem_cons.mpr ⟨np_s_aload hX dX11_step_107, List.forall_mem_cons.mpr ⟨np_S.mono (op := np_getf 1 0) (np_s_getN hX dX11_step_109 (C := RX1) (T := TX1) (N := 7) rfl guX1 (by decide) gw315) nw_getf_le, List.forall_mem_cons.mpr ⟨np_s_aload_n hX dX11_step_112 rfl, List.forall_mem_cons.mpr ⟨np_s_aload_n hX dX11_step_113 rfl, List.forall_mem_cons.mpr ⟨np_S.mono (op := np_getf 6 6) (np_s_getN hX dX11_step_114 (C := RX6) (T := TX6) (N := 12) rfl guX6 (by decide) gw355) nw_getf_le, List.forall_mem_cons.mpr ⟨np_S.mono (op := np_callV 4 4 sp_X4_begin 5 0 0 1 6) (np_s_callV hX C_X4_begin dX11_step_117 (q := (RX4, TX4, 11)) rfl rfl gw1002 gw67 gw999 gw1000 gw1001 ⟨by decide, by decide, by decide⟩ (by decide) (by decide)) nw_callV_le, List.forall_mem_cons.mpr ⟨np_s_iconst hX dX11_step_120 (by decide), List.forall_mem_cons.mpr ⟨np_S.mono (op := np_ist 2 6) (np_s_istore hX dX11_step_121 (by decide)) nw_ist_le, List.forall_mem_cons.mpr ⟨np_s_iload hX dX11_step_123, List.forall_mem_cons.mpr ⟨np_s_sipush hX dX11_step_125 (by decide), List.forall_mem_cons.mpr ⟨np_S.mono (op := np_ic (fun x y => y ≤ x) 181) (np_s_icmp_ge hX dX11_step_128 (by decide)) nq_ic_le, List.forall_mem_cons.mpr ⟨np_s_aload_n hX dX11_step_131 rfl, List.forall_mem_cons.mpr ⟨np_S.mono (op := np_getf 11 7) (np_s_getf hX dX11_step_132 (C := RX11) (T := TX11) (N := 14) rfl guX11 (by decide) gw448) nw_getf_le, List.forall_mem_cons.mpr ⟨np_S.mono (op := np_callV 4 1 sp_X4_goToNext 3 0 0 1 6) (np_s_callV hX C_X4_goToNext dX11_step_135 (q := (RX4, TX4, 11)) rfl rfl gw1011 gw67 gw1008 gw1009 gw1010 ⟨by decide, by decide, by decide⟩ (by decide) (by decide)) nw_callV_le, List.forall_mem_cons.mpr ⟨np_S.mono (op := np_if (fun x => x = 0) 181) (np_s_if_eq hX dX11_step_138 (by decide)) nq_if_le, List.forall_mem_cons.mpr ⟨np_s_aload_n hX dX11_step_141 rfl, List.forall_mem_cons.mpr ⟨np_S.mono (op := np_getf 6 6) (np_s_getN hX dX11_step_142 (C := RX6) (T := TX6) (N := 12) rfl guX6 (by decide) gw355) nw_getf_le, List.forall_mem_cons.mpr ⟨np_s_aload_n hX dX11_step_145 rfl, List.forall_mem_cons.mpr ⟨np_S.mono (op := np_getf 11 7) (np_s_getf hX dX11_step_146 (C := RX11) (T := TX11) (N := 14) rfl guX11 (by decide) gw448) nw_getf_le, List.forall_mem_cons.mpr ⟨np_S.mono (op := np_getf 4 1) (np_s_getN hX dX11_step_149 (C := RX4) (T := TX4) (N := 11) rfl guX4 (by decide) gw224) nw_getf_le, List.forall_mem_cons.mpr ⟨np_S.mono (op := np_getf 8 6) (np_s_getN hX dX11_step_152 (C := RX8) (T := TX8) (N := 9) rfl guX8 (by decide) gw160) nw_getf_le, List.forall_mem_cons.mpr ⟨np_s_iadd hX dX11_step_155, List.forall_mem_cons.mpr ⟨np_s_iload hX dX11_step_156, List.forall_mem_cons.mpr ⟨np_S.mono (op := np_icne 175) (np_s_icmp_ne hX dX11_step_158 (by decide)) nq_icne_le, List.forall_mem_cons.mpr ⟨np_s_aload_n hX dX11_step_161 rfl, List.forall_mem_cons.mpr ⟨np_s_aload_n hX dX11_step_162 rfl, List.forall_mem_cons.mpr ⟨np_S.mono (op := np_getf 11 7) (np_s_getf hX dX11_step_163 (C := RX11) (T := TX11) (N := 14) rfl guX11 (by decide) gw448) nw_getf_le, List.forall_mem_cons.mpr ⟨np_S.mono (op := np_getf 4 1) (np_s_getN hX dX11_step_166 (C := RX4) (T := TX4) (N := 11) rfl guX4 (by decide) gw224) nw_getf_le, List.forall_mem_cons.mpr ⟨np_S.mono (op := np_getf 8 0) (np_s_getN hX dX11_step_169 (C := RX8) (T := TX8) (N := 9) rfl guX8 (by decide) gw147) nw_getf_le, List.forall_mem_cons.mpr ⟨np_S.mono (op := np_callV 6 2 sp_X6_weigh 3 0 0 1 6) (np_s_callV hX C_X6_weigh dX11_step_172 (q := (RX6, TX6, 12)) rfl rfl gw1094 gw72 gw1091 gw1092 gw1093 ⟨by decide, by decide, by decide⟩ (by decide) (by decide)) nw_callV_le, List.forall_mem_cons.mpr ⟨np_S.mono (op := np_iinc 6 1) (np_s_iinc hX dX11_step_175 (by decide)) nw_iinc_le, List.forall_mem_cons.mpr ⟨np_s_goto hX dX11_step_178 (by decide), List.forall_mem_cons.mpr ⟨np_s_aload_n hX dX11_step_181 rfl, List.forall_mem_cons.mpr ⟨np_s_aload_n hX dX11_step_182 rfl, List.forall_mem_cons.mpr ⟨np_S.mono (op := np_getf 11 7) (np_s_getf hX dX11_step_183 (C := RX11) (T := TX11) (N := 14) rfl guX11 (by decide) gw448) nw_getf_le, List.forall_mem_cons.mpr ⟨np_S.mono (op := np_getf 4 10) (np_s_getN hX dX11_step_186 (C := RX4) (T := TX4) (N := 11) rfl guX4 (by decide) gw234) nw_getf_le, List.forall_mem_cons.mpr ⟨np_s_iload hX dX11_step_189, List.forall_mem_cons.mpr ⟨np_s_iconst hX dX11_step_191 (by decide), List.forall_mem_cons.mpr ⟨np_s_iadd hX dX11_step_192, List.forall_mem_cons.mpr ⟨np_s_aload_n hX dX11_step_193 rfl, List.forall_mem_cons.mpr ⟨np_S.mono (op := np_getf 7 1) (np_s_getN hX dX11_step_194 (C := RX7) (T := TX7) (N := 3) rfl guX7 (by decide) gw211) nw_getf_le, List.forall_mem_cons.mpr ⟨np_S.mono (op := np_mm 1 6) (np_s_mmin hX dX11_step_197 gw1097 gw1098 gw82 gw1099 (by decide) (by decide)) nq_mm_le, List.forall_mem_cons.mpr ⟨np_S.mono (op := np_callV 6 3 sp_X6_endLine 5 0 0 1 6) (np_s_callV hX C_X6_endLine dX11_step_200 (q := (RX6, TX6, 12)) rfl rfl gw1103 gw72 gw1100 gw1101 gw1102 ⟨by decide, by decide, by decide⟩ (by decide) (by decide)) nw_callV_le, List.forall_mem_cons.mpr ⟨np_S.mono (op := np_if (fun x => x = 0) 210) (np_s_if_eq hX dX11_step_203 (by decide)) nq_if_le, List.forall_mem_cons.mpr ⟨np_s_iconst hX dX11_step_206 (by decide), List.forall_mem_cons.mpr ⟨np_s_goto hX dX11_step_207 (by decide), List.forall_mem_cons.mpr ⟨np_s_iconst hX dX11_step_210 (by decide), List.forall_mem_cons.mpr ⟨np_S.mono (op := np_ret X.2.2.1) (np_s_ret hX dX11_step_211) (nq_ret_le hR), fun _ h => nomatch h⟩⟩⟩⟩⟩⟩⟩⟩⟩⟩⟩⟩⟩⟩⟩⟩⟩⟩⟩⟩⟩⟩⟩⟩⟩⟩⟩⟩⟩⟩⟩⟩⟩⟩⟩⟩⟩⟩⟩⟩⟩⟩⟩⟩⟩⟩⟩⟩⟩⟩⟩⟩⟩⟩⟩⟩⟩⟩⟩⟩⟩⟩⟩⟩⟩⟩⟩⟩⟩⟩⟩⟩⟩⟩⟩⟩⟩⟩⟩⟩⟩⟩⟩⟩⟩⟩⟩⟩⟩
noncomputable def m_X11_step_123 (k181 : pw_S → Nat → Nat → Nat → Int32 → pw_R (Int32 ⊕ Nat)) : Nat → pw_S → Nat → Nat → Nat → Int32 → Int32 → pw_R (Int32 ⊕ Nat)
| 0, _, _, _, _, _, _ => none
| N + 1, S, v0, v2, v3, v5, v6 =>
 if 10000 ≤ v6 then
 (k181 S v0 v2 v3 v5)
 else
 (pw_b (m_X4_goToNext S 0) fun S1 r4 =>
 if r4 = 0 then
 (k181 S1 v0 v2 v3 v5)
 else
 (if ((S1 54 v3 6) + (S1 50 407 6)) = v5 then
 (pw_b (m_X6_weigh S1 v3 0 407) fun S6 r9 =>
 pw_l (v6 + 1 : Int32) fun z11 =>
 m_X11_step_123 k181 N S6 v0 v2 v3 v5 z11)
 else
 (pw_l (v6 + 1 : Int32) fun z12 =>
 m_X11_step_123 k181 N S1 v0 v2 v3 v5 z12)))
set_option maxRecDepth 100000 in
set_option maxHeartbeats 8000000 in
theorem L_X11_step_123 {X : np_Ctx} (hX : np_ok RX11 cX11_step 7 7 197 1 6 .ireturn X) {Q : Option Value → np_W → Prop} {QX : Nat → np_W → Prop} {q n : Nat} (hR : ∀ st w ce sl, np_rq (some .int) 1 6 Q st w ce sl → X.2.2.1 st w ce sl) (hT : ∀ i w ce sl, np_thq 1 6 QX i w ce sl → X.2.2.2 i w ce sl) {k181 : pw_S → Nat → Nat → Nat → Int32 → pw_R (Int32 ⊕ Nat)} (hk181 : ∀ (S : pw_S) (v0 : Nat) (v2 : Nat) (v3 : Nat) (v5 : Int32) (f : Nat → Option np_E) (hv0 : pw_ok q 61 v0 = true) (hv2 : pw_ok q 53 v2 = true) (hv3 : pw_ok q 54 v3 = true), pw_W q (n, f) S → pw_p (k181 S v0 v2 v3 v5) (fun S' rx => ∀ f', pw_W q (n, f') S' → match rx with | .inl r => Q (some (.int r)) (n, f') | .inr e => QX e (n, f')) → np_G X 181 [(0, .ref (pw_pl 61 v0)), (2, .ref (pw_pl 53 v2)), (3, .ref (pw_pl 54 v3)), (5, .int v5)] [] (n, f) 0 0) : ∀ (N : Nat) (S : pw_S) (v0 : Nat) (v2 : Nat) (v3 : Nat) (v5 : Int32) (v6 : Int32) (f : Nat → Option np_E) (hv0 : pw_ok q 61 v0 = true) (hv2 : pw_ok q 53 v2 = true) (hv3 : pw_ok q 54 v3 = true), pw_W q (n, f) S → pw_p (m_X11_step_123 k181 N S v0 v2 v3 v5 v6) (fun S' rx => ∀ f', pw_W q (n, f') S' → match rx with | .inl r => Q (some (.int r)) (n, f') | .inr e => QX e (n, f')) → np_G X 123 [(0, .ref (pw_pl 61 v0)), (2, .ref (pw_pl 53 v2)), (3, .ref (pw_pl 54 v3)), (5, .int v5), (6, .int v6)] [] (n, f) 0 0 := by
  intro N
  induction N with
  | zero =>
    intro S v0 v2 v3 v5 v6 f hv0 hv2 hv3 hW h
    exact (pw_pn h).elim
  | succ N ih =>
    intro S v0 v2 v3 v5 v6 f hv0 hv2 hv3 hW h
    unfold m_X11_step_123 at h
    refine np_soundW (so_X11_step hX hR hT) [123, 181] 400 123 _ _ _ _ _ ?_
    conv => whnf
    refine pw_br h (fun _ h => ?_) (fun _ h => ?_)
    · conv => whnf
      exact np_gl (hk181 S v0 v2 v3 v5 f hv0 hv2 hv3 hW h) ⟨rfl, rfl, rfl, rfl, trivial⟩
    · conv => whnf
      refine np_rd_i (hW.g hv0) ?_
      conv => whnf
      refine np_rd_i (hW.g rfl) ?_
      conv => whnf
      refine ⟨q, S, 0, rfl, rfl, hW, pw_bd h (fun S1 r4 h f2 hW3 => ?_)⟩
      conv => whnf
      refine pw_br h (fun _ h => ?_) (fun _ h => ?_)
      · conv => whnf
        exact np_gl (hk181 S1 v0 v2 v3 v5 f2 hv0 hv2 hv3 hW3 h) ⟨rfl, rfl, rfl, rfl, trivial⟩
      · conv => whnf
        refine np_rd_i (hW3.g hv3) ?_
        conv => whnf
        refine np_rd_i (hW3.g hv0) ?_
        conv => whnf
        refine np_rd_i (hW3.g rfl) ?_
        conv => whnf
        refine np_rd_i (hW3.g rfl) ?_
        conv => whnf
        refine pw_br h (fun _ h => ?_) (fun _ h => ?_)
        · conv => whnf
          refine np_rd_i (hW3.g hv0) ?_
          conv => whnf
          refine np_rd_i (hW3.g rfl) ?_
          conv => whnf
          refine np_rd_i (hW3.g rfl) ?_
          conv => whnf
          refine np_rd_i (hW3.g hv3) ?_
          conv => whnf
          refine ⟨q, S1, v3, 0, 407, rfl, hv3, rfl, rfl, hW3, pw_bd h (fun S6 r9 h f7 hW8 => ?_)⟩
          conv => whnf
          refine pw_st h (fun z11 h => ?_)
          conv => whnf
          exact np_gl (ih S6 v0 v2 v3 v5 z11 f7 hv0 hv2 hv3 hW8 h) ⟨rfl, rfl, rfl, rfl, rfl, trivial⟩
        · conv => whnf
          refine pw_st h (fun z12 h => ?_)
          conv => whnf
          exact np_gl (ih S1 v0 v2 v3 v5 z12 f2 hv0 hv2 hv3 hW3 h) ⟨rfl, rfl, rfl, rfl, rfl, trivial⟩
noncomputable def m_X11_step (S : pw_S) (i0 : Nat) (x1 : Int32) : pw_R (Int32 ⊕ Nat) :=
 pw_b (m_X11_fileOf S i0 x1) fun S13 r16 =>
 pw_o r16 (
 (pw_b (m_X11_tableOf S13 i0 x1) fun S19 r22 =>
 pw_o r22 (
 (some (S19, .inr 0))) (fun j24 =>
 (some (S19, .inr 0))))) (fun j18 =>
 (pw_b (m_X11_tableOf S13 i0 x1) fun S25 r28 =>
 pw_o r28 (
 (some (S25, .inr 0))) (fun j30 =>
 (if (S25 54 j30 5) < 0 then
 (some (S25, .inr 2))
 else
 (pw_b (m_X7_endOfLine S25 j18 (S25 54 j30 6)) fun S32 r35 =>
 pw_l (r35 : Int32) fun z37 =>
 if 0 ≤ z37 then
 (pw_b (m_X6_isFull S32 j30) fun S38 r41 =>
 if r41 = 0 then
 (pw_b (m_X6_beginLine S38 j30) fun S43 r46 =>
 pw_b (m_X4_begin S43 0 (pw_dn 6 (S25 54 j30 5)) j18 (S43 54 j30 6)) fun S48 r51 =>
 pw_l (0 : Int32) fun z53 =>
 m_X11_step_123
 (fun S61 u54 u56 u58 u60 =>
 (pw_b (m_X6_endLine S61 u58 (S61 59 0 10) (if (S61 53 u56 1) < (u60 + 1) then (S61 53 u56 1) else (u60 + 1))) fun S64 r67 =>
 if r67 = 0 then
 (some (S64, .inl 0))
 else
 (some (S64, .inl 1)))) (pw_F 20000) S48 i0 j18 j30 z37 z53)
 else
 (some (S38, .inr 2)))
 else
 (if (S32 53 j18 2) = 0 then
 (some (S32, .inl (-2)))
 else
 (some (S32, .inl (-1)))))))))
def sp_X11_step : np_SpX := fun vs w Q QX => ∃ (q : Nat) (S : pw_S) (i0 : Nat) (x1 : Int32), vs = [.ref (pw_pl 61 i0), .int x1] ∧ pw_ok q 61 i0 = true ∧ pw_W q w S ∧ pw_p (m_X11_step S i0 x1) (fun S' rx => ∀ f', pw_W q (w.1, f') S' → match rx with | .inl r => Q (some (.int r)) (w.1, f') | .inr e => QX e (w.1, f'))
set_option maxRecDepth 100000 in
set_option maxHeartbeats 8000000 in
theorem C_X11_step : np_CX yX11_step cX11_step 7 (some .int) 7 197 1 6 sp_X11_step := by
  refine np_ofX (by decide) (by decide) (by decide) ?_
  intro X vs w Q QX hsp hX hmn hRt hTh
  obtain ⟨q, S, i0, x1, rfl, hi0, hW, h⟩ := hsp
  obtain ⟨n, f⟩ := w
  unfold m_X11_step at h
  have hR : ∀ st w ce sl, np_rq (some .int) 1 6 Q st w ce sl → X.2.2.1 st w ce sl := fun _ _ _ _ h => by rw [hRt]; exact h
  have hT : ∀ i w ce sl, np_thq 1 6 QX i w ce sl → X.2.2.2 i w ce sl := fun _ _ _ _ h => by rw [hTh]; exact h
  refine np_soundW (so_X11_step hX hR hT) [123] 400 0 _ _ _ _ _ ?_
  conv => whnf
  refine np_rd_i (hW.g hi0) ?_
  conv => whnf
  refine ⟨q, S, i0, x1, rfl, hi0, hW, pw_bd h (fun S13 r16 h f14 hW15 ho17 => ?_)⟩
  rcases r16 with _ | j18
  · replace h := pw_on h
    conv => whnf
    refine np_rd_i (hW15.g hi0) ?_
    conv => whnf
    refine ⟨q, S13, i0, x1, rfl, hi0, hW15, pw_bd h (fun S19 r22 h f20 hW21 ho23 => ?_)⟩
    rcases r22 with _ | j24
    · replace h := pw_on h
      conv => whnf
      exact ⟨Nat.le_of_ble_eq_true rfl, Nat.le_of_ble_eq_true rfl, pw_ps h _ hW21⟩
    · replace h := pw_os h
      replace ho23 : pw_ok q 54 j24 = true := ho23
      conv => whnf
      exact ⟨Nat.le_of_ble_eq_true rfl, Nat.le_of_ble_eq_true rfl, pw_ps h _ hW21⟩
  · replace h := pw_os h
    replace ho17 : pw_ok q 53 j18 = true := ho17
    conv => whnf
    refine np_rd_i (hW15.g hi0) ?_
    conv => whnf
    refine ⟨q, S13, i0, x1, rfl, hi0, hW15, pw_bd h (fun S25 r28 h f26 hW27 ho29 => ?_)⟩
    rcases r28 with _ | j30
    · replace h := pw_on h
      conv => whnf
      exact ⟨Nat.le_of_ble_eq_true rfl, Nat.le_of_ble_eq_true rfl, pw_ps h _ hW27⟩
    · replace h := pw_os h
      replace ho29 : pw_ok q 54 j30 = true := ho29
      conv => whnf
      refine np_rd_i (hW27.g ho29) ?_
      conv => whnf
      refine ⟨_, _, _, rfl, ?_⟩
      refine pw_br h (fun _ h => ?_) (fun hn31 h => ?_)
      · conv => whnf
        exact ⟨Nat.le_of_ble_eq_true rfl, Nat.le_of_ble_eq_true rfl, pw_ps h _ hW27⟩
      · conv => whnf
        refine np_rd_i (hW27.g ho29) ?_
        conv => whnf
        refine np_rd_i (hW27.g ho17) ?_
        conv => whnf
        refine ⟨q, S25, j18, (S25 54 j30 6), rfl, ho17, hW27, pw_bd h (fun S32 r35 h f33 hW34 => ?_)⟩
        conv => whnf
        refine pw_st h (fun z37 h => ?_)
        conv => whnf
        refine pw_br h (fun _ h => ?_) (fun _ h => ?_)
        · conv => whnf
          refine np_rd_i (hW34.g ho29) ?_
          conv => whnf
          refine ⟨q, S32, j30, rfl, ho29, hW34, pw_bd h (fun S38 r41 h f39 hW40 => ?_)⟩
          conv => whnf
          refine pw_br h (fun _ h => ?_) (fun _ h => ?_)
          · conv => whnf
            refine np_rd_i (hW40.g ho29) ?_
            conv => whnf
            refine ⟨q, S38, j30, rfl, ho29, hW40, pw_bd h (fun S43 r46 h f44 hW45 => ?_)⟩
            conv => whnf
            refine np_rd_i (hW45.g hi0) ?_
            conv => whnf
            refine np_rd_i (hW45.g (pw_okd (a := 52) (n := 6) rfl rfl rfl)) ?_
            conv => whnf
            refine np_rd_i (hW45.g ho29) ?_
            conv => whnf
            refine np_rd_i (hW45.g rfl) ?_
            conv => whnf
            refine ⟨q, S43, 0, (pw_dn 6 (S25 54 j30 5)), j18, (S43 54 j30 6), rfl, rfl, (pw_okd (a := 51) (n := 6) rfl rfl rfl), ho17, hW45, pw_bd h (fun S48 r51 h f49 hW50 => ?_)⟩
            conv => whnf
            refine pw_st h (fun z53 h => ?_)
            conv => whnf
            refine np_gl (L_X11_step_123 hX hR hT (fun S61 u54 u56 u58 u60 f62 ho55 ho57 ho59 hW63 h => ?_) (pw_F 20000) S48 i0 j18 j30 z37 z53 f49 hi0 ho17 ho29 hW50 h) ⟨rfl, rfl, rfl, rfl, rfl, trivial⟩
            · refine np_soundW (so_X11_step hX hR hT) [123] 400 181 _ _ _ _ _ ?_
              conv => whnf
              refine np_rd_i (hW63.g ho55) ?_
              conv => whnf
              refine np_rd_i (hW63.g rfl) ?_
              conv => whnf
              refine np_rd_i (hW63.g ho57) ?_
              conv => whnf
              refine np_rd_i (hW63.g ho59) ?_
              conv => whnf
              refine ⟨q, S61, u58, (S61 59 0 10), (if (S61 53 u56 1) < (u60 + 1) then (S61 53 u56 1) else (u60 + 1)), rfl, ho59, hW63, pw_bd h (fun S64 r67 h f65 hW66 => ?_)⟩
              conv => whnf
              refine pw_br h (fun _ h => ?_) (fun _ h => ?_)
              · conv => whnf
                exact ⟨Nat.le_of_ble_eq_true rfl, Nat.le_of_ble_eq_true rfl, trivial, pw_ps h _ hW66⟩
              · conv => whnf
                exact ⟨Nat.le_of_ble_eq_true rfl, Nat.le_of_ble_eq_true rfl, trivial, pw_ps h _ hW66⟩
          · conv => whnf
            exact ⟨Nat.le_of_ble_eq_true rfl, Nat.le_of_ble_eq_true rfl, pw_ps h _ hW40⟩
        · conv => whnf
          refine np_rd_i (hW34.g ho17) ?_
          conv => whnf
          refine pw_br h (fun _ h => ?_) (fun _ h => ?_)
          · conv => whnf
            exact ⟨Nat.le_of_ble_eq_true rfl, Nat.le_of_ble_eq_true rfl, trivial, pw_ps h _ hW34⟩
          · conv => whnf
            exact ⟨Nat.le_of_ble_eq_true rfl, Nat.le_of_ble_eq_true rfl, trivial, pw_ps h _ hW34⟩
theorem dX11_progress_0 : decode cX11_progress 0 = .ok (.aload_n 0, 1) := by decide +kernel
theorem dX11_progress_1 : decode cX11_progress 1 = .ok (.iload_n 1, 1) := by decide +kernel
theorem dX11_progress_2 : decode cX11_progress 2 = .ok (.invokevirtual 283, 3) := by decide +kernel
theorem dX11_progress_5 : decode cX11_progress 5 = .ok (.astore_n 2, 1) := by decide +kernel
theorem dX11_progress_6 : decode cX11_progress 6 = .ok (.aload_n 2, 1) := by decide +kernel
theorem dX11_progress_7 : decode cX11_progress 7 = .ok (.ifnonnull 13, 3) := by decide +kernel
theorem dX11_progress_10 : decode cX11_progress 10 = .ok (.new 96, 3) := by decide +kernel
theorem dX11_progress_13 : decode cX11_progress 13 = .ok (.dup, 1) := by decide +kernel
theorem dX11_progress_14 : decode cX11_progress 14 = .ok (.ldc 215, 2) := by decide +kernel
theorem dX11_progress_16 : decode cX11_progress 16 = .ok (.invokespecial 100, 3) := by decide +kernel
theorem dX11_progress_19 : decode cX11_progress 19 = .ok (.athrow, 1) := by decide +kernel
theorem dX11_progress_20 : decode cX11_progress 20 = .ok (.sipush 10000, 3) := by decide +kernel
theorem dX11_progress_23 : decode cX11_progress 23 = .ok (.aload_n 2, 1) := by decide +kernel
theorem dX11_progress_24 : decode cX11_progress 24 = .ok (.getfield 317, 3) := by decide +kernel
theorem dX11_progress_27 : decode cX11_progress 27 = .ok (.imul, 1) := by decide +kernel
theorem dX11_progress_28 : decode cX11_progress 28 = .ok (.sipush 1000, 3) := by decide +kernel
theorem dX11_progress_31 : decode cX11_progress 31 = .ok (.aload_n 2, 1) := by decide +kernel
theorem dX11_progress_32 : decode cX11_progress 32 = .ok (.getfield 320, 3) := by decide +kernel
theorem dX11_progress_35 : decode cX11_progress 35 = .ok (.bipush 9, 2) := by decide +kernel
theorem dX11_progress_37 : decode cX11_progress 37 = .ok (.invokestatic 268, 3) := by decide +kernel
theorem dX11_progress_40 : decode cX11_progress 40 = .ok (.imul, 1) := by decide +kernel
theorem dX11_progress_41 : decode cX11_progress 41 = .ok (.iadd, 1) := by decide +kernel
theorem dX11_progress_42 : decode cX11_progress 42 = .ok (.aload_n 2, 1) := by decide +kernel
theorem dX11_progress_43 : decode cX11_progress 43 = .ok (.getfield 287, 3) := by decide +kernel
theorem dX11_progress_46 : decode cX11_progress 46 = .ok (.iadd, 1) := by decide +kernel
theorem dX11_progress_47 : decode cX11_progress 47 = .ok (.ireturn, 1) := by decide +kernel
def is_X11_progress (Rt : np_Rt) (Th : np_Th) : List (Nat × np_Op) := [(0, np_ald 1 0), (1, np_ild 1 1), (2, nw_callV 11 2 sp_X11_tableOf 2 0 0 1 6), (5, np_ast 1 2), (6, np_ald 1 2), (7, np_ifnonnull 20), (10, nq_throw Th 0), (20, np_push 3 (.int 10000)), (23, np_ald 1 2), (24, nw_getf 6 7), (27, np_ib (fun x y => x * y)), (28, np_push 3 (.int 1000)), (31, np_ald 1 2), (32, nw_getf 6 8), (35, np_push 2 (.int 9)), (37, nq_mm 1 6), (40, np_ib (fun x y => x * y)), (41, np_ib (fun x y => x + y)), (42, np_ald 1 2), (43, nw_getf 6 6), (46, np_ib (fun x y => x + y)), (47, np_ret Rt)]
set_option maxRecDepth 20000 in
theorem so_X11_progress {X : np_Ctx} {Rt : np_Rt} {Th : np_Th} (hX : np_ok RX11 cX11_progress 3 6 100 1 6 .ireturn X) (hR : ∀ st w ce sl, Rt st w ce sl → X.2.2.1 st w ce sl) (hT : ∀ i w ce sl, Th i w ce sl → X.2.2.2 i w ce sl) : ∀ q ∈ is_X11_progress Rt Th, np_S X q.1 q.2 :=
  List.forall_mem_cons.mpr ⟨np_s_aload_n hX dX11_progress_0 rfl, List.forall_mem_cons.mpr ⟨np_s_iload_n hX dX11_progress_1 rfl, List.forall_mem_cons.mpr ⟨np_S.mono (op := np_callV 11 2 sp_X11_tableOf 2 0 0 1 6) (np_s_callV hX C_X11_tableOf dX11_progress_2 (q := (RX11, TX11, 14)) rfl rfl gw977 gw63 gw974 gw976 gw18 ⟨by decide, by decide, by decide⟩ (by decide) (by decide)) nw_callV_le, List.forall_mem_cons.mpr ⟨np_s_astore_n hX dX11_progress_5 rfl (by decide), List.forall_mem_cons.mpr ⟨np_s_aload_n hX dX11_progress_6 rfl, List.forall_mem_cons.mpr ⟨np_s_ifnonnull hX dX11_progress_7 (by decide), List.forall_mem_cons.mpr ⟨np_S.mono (op := np_throw X.2.2.2 0) (np_s_throw hX ⟨96, 215, 100, _, gw516, gw78, sw942, twX11_100, toX11_100_96, Or.inl ⟨dX11_progress_10, dX11_progress_13, dX11_progress_14, dX11_progress_16, dX11_progress_19⟩⟩) (nq_throw_le hT), List.forall_mem_cons.mpr ⟨np_s_sipush hX dX11_progress_20 (by decide), List.forall_mem_cons.mpr ⟨np_s_aload_n hX dX11_progress_23 rfl, List.forall_mem_cons.mpr ⟨np_S.mono (op := np_getf 6 7) (np_s_getN hX dX11_progress_24 (C := RX6) (T := TX6) (N := 12) rfl guX6 (by decide) gw357) nw_getf_le, List.forall_mem_cons.mpr ⟨np_s_imul hX dX11_progress_27, List.forall_mem_cons.mpr ⟨np_s_sipush hX dX11_progress_28 (by decide), List.forall_mem_cons.mpr ⟨np_s_aload_n hX dX11_progress_31 rfl, List.forall_mem_cons.mpr ⟨np_S.mono (op := np_getf 6 8) (np_s_getN hX dX11_progress_32 (C := RX6) (T := TX6) (N := 12) rfl guX6 (by decide) gw359) nw_getf_le, List.forall_mem_cons.mpr ⟨np_s_bipush hX dX11_progress_35 (by decide), List.forall_mem_cons.mpr ⟨np_S.mono (op := np_mm 1 6) (np_s_mmin hX dX11_progress_37 gw1097 gw1098 gw82 gw1099 (by decide) (by decide)) nq_mm_le, List.forall_mem_cons.mpr ⟨np_s_imul hX dX11_progress_40, List.forall_mem_cons.mpr ⟨np_s_iadd hX dX11_progress_41, List.forall_mem_cons.mpr ⟨np_s_aload_n hX dX11_progress_42 rfl, List.forall_mem_cons.mpr ⟨np_S.mono (op := np_getf 6 6) (np_s_getN hX dX11_progress_43 (C := RX6) (T := TX6) (N := 12) rfl guX6 (by decide) gw355) nw_getf_le, List.forall_mem_cons.mpr ⟨np_s_iadd hX dX11_progress_46, List.forall_mem_cons.mpr ⟨np_S.mono (op := np_ret X.2.2.1) (np_s_ret hX dX11_progress_47) (nq_ret_le hR), fun _ h => nomatch h⟩⟩⟩⟩⟩⟩⟩⟩⟩⟩⟩⟩⟩⟩⟩⟩⟩⟩⟩⟩⟩⟩
noncomputable def m_X11_progress (S : pw_S) (i0 : Nat) (x1 : Int32) : pw_R (Int32 ⊕ Nat) :=
 pw_b (m_X11_tableOf S i0 x1) fun S1 r4 =>
 pw_o r4 (
 (some (S1, .inr 0))) (fun j6 =>
 (some (S1, .inl (((10000 * (S1 54 j6 7)) + (1000 * (if 9 < (S1 54 j6 8) then 9 else (S1 54 j6 8)))) + (S1 54 j6 6)))))
def sp_X11_progress : np_SpX := fun vs w Q QX => ∃ (q : Nat) (S : pw_S) (i0 : Nat) (x1 : Int32), vs = [.ref (pw_pl 61 i0), .int x1] ∧ pw_ok q 61 i0 = true ∧ pw_W q w S ∧ pw_p (m_X11_progress S i0 x1) (fun S' rx => ∀ f', pw_W q (w.1, f') S' → match rx with | .inl r => Q (some (.int r)) (w.1, f') | .inr e => QX e (w.1, f'))
set_option maxRecDepth 100000 in
set_option maxHeartbeats 8000000 in
theorem C_X11_progress : np_CX yX11_progress cX11_progress 3 (some .int) 6 100 1 6 sp_X11_progress := by
  refine np_ofX (by decide) (by decide) (by decide) ?_
  intro X vs w Q QX hsp hX hmn hRt hTh
  obtain ⟨q, S, i0, x1, rfl, hi0, hW, h⟩ := hsp
  obtain ⟨n, f⟩ := w
  unfold m_X11_progress at h
  have hR : ∀ st w ce sl, np_rq (some .int) 1 6 Q st w ce sl → X.2.2.1 st w ce sl := fun _ _ _ _ h => by rw [hRt]; exact h
  have hT : ∀ i w ce sl, np_thq 1 6 QX i w ce sl → X.2.2.2 i w ce sl := fun _ _ _ _ h => by rw [hTh]; exact h
  refine np_soundW (so_X11_progress hX hR hT) [] 400 0 _ _ _ _ _ ?_
  conv => whnf
  refine np_rd_i (hW.g hi0) ?_
  conv => whnf
  refine ⟨q, S, i0, x1, rfl, hi0, hW, pw_bd h (fun S1 r4 h f2 hW3 ho5 => ?_)⟩
  rcases r4 with _ | j6
  · replace h := pw_on h
    conv => whnf
    exact ⟨Nat.le_of_ble_eq_true rfl, Nat.le_of_ble_eq_true rfl, pw_ps h _ hW3⟩
  · replace h := pw_os h
    replace ho5 : pw_ok q 54 j6 = true := ho5
    conv => whnf
    refine np_rd_i (hW3.g ho5) ?_
    conv => whnf
    refine np_rd_i (hW3.g ho5) ?_
    conv => whnf
    refine np_rd_i (hW3.g ho5) ?_
    conv => whnf
    exact ⟨Nat.le_of_ble_eq_true rfl, Nat.le_of_ble_eq_true rfl, trivial, pw_ps h _ hW3⟩
theorem dX11_skipped_0 : decode cX11_skipped 0 = .ok (.aload_n 0, 1) := by decide +kernel
theorem dX11_skipped_1 : decode cX11_skipped 1 = .ok (.iload_n 1, 1) := by decide +kernel
theorem dX11_skipped_2 : decode cX11_skipped 2 = .ok (.invokevirtual 283, 3) := by decide +kernel
theorem dX11_skipped_5 : decode cX11_skipped 5 = .ok (.astore_n 3, 1) := by decide +kernel
theorem dX11_skipped_6 : decode cX11_skipped 6 = .ok (.aload_n 3, 1) := by decide +kernel
theorem dX11_skipped_7 : decode cX11_skipped 7 = .ok (.ifnonnull 13, 3) := by decide +kernel
theorem dX11_skipped_10 : decode cX11_skipped 10 = .ok (.new 96, 3) := by decide +kernel
theorem dX11_skipped_13 : decode cX11_skipped 13 = .ok (.dup, 1) := by decide +kernel
theorem dX11_skipped_14 : decode cX11_skipped 14 = .ok (.ldc 215, 2) := by decide +kernel
theorem dX11_skipped_16 : decode cX11_skipped 16 = .ok (.invokespecial 100, 3) := by decide +kernel
theorem dX11_skipped_19 : decode cX11_skipped 19 = .ok (.athrow, 1) := by decide +kernel
theorem dX11_skipped_20 : decode cX11_skipped 20 = .ok (.iload_n 2, 1) := by decide +kernel
theorem dX11_skipped_21 : decode cX11_skipped 21 = .ok (.ifCond .lt 11, 3) := by decide +kernel
theorem dX11_skipped_24 : decode cX11_skipped 24 = .ok (.iload_n 2, 1) := by decide +kernel
theorem dX11_skipped_25 : decode cX11_skipped 25 = .ok (.aload_n 3, 1) := by decide +kernel
theorem dX11_skipped_26 : decode cX11_skipped 26 = .ok (.getfield 323, 3) := by decide +kernel
theorem dX11_skipped_29 : decode cX11_skipped 29 = .ok (.if_icmp .lt 14, 3) := by decide +kernel
theorem dX11_skipped_32 : decode cX11_skipped 32 = .ok (.new 96, 3) := by decide +kernel
theorem dX11_skipped_35 : decode cX11_skipped 35 = .ok (.dup, 1) := by decide +kernel
theorem dX11_skipped_36 : decode cX11_skipped 36 = .ok (.ldc_w 326, 3) := by decide +kernel
theorem dX11_skipped_39 : decode cX11_skipped 39 = .ok (.invokespecial 100, 3) := by decide +kernel
theorem dX11_skipped_42 : decode cX11_skipped 42 = .ok (.athrow, 1) := by decide +kernel
theorem dX11_skipped_43 : decode cX11_skipped 43 = .ok (.aload_n 3, 1) := by decide +kernel
theorem dX11_skipped_44 : decode cX11_skipped 44 = .ok (.getfield 328, 3) := by decide +kernel
theorem dX11_skipped_47 : decode cX11_skipped 47 = .ok (.iload_n 2, 1) := by decide +kernel
theorem dX11_skipped_48 : decode cX11_skipped 48 = .ok (.iconst 0, 1) := by decide +kernel
theorem dX11_skipped_49 : decode cX11_skipped 49 = .ok (.invokestatic 183, 3) := by decide +kernel
theorem dX11_skipped_52 : decode cX11_skipped 52 = .ok (.ireturn, 1) := by decide +kernel
def is_X11_skipped (Rt : np_Rt) (Th : np_Th) : List (Nat × np_Op) := [(0, np_ald 1 0), (1, np_ild 1 1), (2, nw_callV 11 2 sp_X11_tableOf 2 0 0 1 6), (5, np_ast 1 3), (6, np_ald 1 3), (7, np_ifnonnull 20), (10, nq_throw Th 0), (20, np_ild 1 2), (21, nq_if (fun x => x < 0) 32), (24, np_ild 1 2), (25, np_ald 1 3), (26, nw_getf 6 9), (29, nq_ic (fun x y => x < y) 43), (32, nq_throw Th 0), (43, np_ald 1 3), (44, nw_getf 6 1), (47, np_ild 1 2), (48, np_push 1 (.int 0)), (49, nq_call 3 sp_X11_at 3 0 0 1 6), (52, np_ret Rt)]
set_option maxRecDepth 20000 in
theorem so_X11_skipped {X : np_Ctx} {Rt : np_Rt} {Th : np_Th} (hX : np_ok RX11 cX11_skipped 4 6 100 1 6 .ireturn X) (hR : ∀ st w ce sl, Rt st w ce sl → X.2.2.1 st w ce sl) (hT : ∀ i w ce sl, Th i w ce sl → X.2.2.2 i w ce sl) : ∀ q ∈ is_X11_skipped Rt Th, np_S X q.1 q.2 :=
  List.forall_mem_cons.mpr ⟨np_s_aload_n hX dX11_skipped_0 rfl, List.forall_mem_cons.mpr ⟨np_s_iload_n hX dX11_skipped_1 rfl, List.forall_mem_cons.mpr ⟨np_S.mono (op := np_callV 11 2 sp_X11_tableOf 2 0 0 1 6) (np_s_callV hX C_X11_tableOf dX11_skipped_2 (q := (RX11, TX11, 14)) rfl rfl gw977 gw63 gw974 gw976 gw18 ⟨by decide, by decide, by decide⟩ (by decide) (by decide)) nw_callV_le, List.forall_mem_cons.mpr ⟨np_s_astore_n hX dX11_skipped_5 rfl (by decide), List.forall_mem_cons.mpr ⟨np_s_aload_n hX dX11_skipped_6 rfl, List.forall_mem_cons.mpr ⟨np_s_ifnonnull hX dX11_skipped_7 (by decide), List.forall_mem_cons.mpr ⟨np_S.mono (op := np_throw X.2.2.2 0) (np_s_throw hX ⟨96, 215, 100, _, gw516, gw78, sw942, twX11_100, toX11_100_96, Or.inl ⟨dX11_skipped_10, dX11_skipped_13, dX11_skipped_14, dX11_skipped_16, dX11_skipped_19⟩⟩) (nq_throw_le hT), List.forall_mem_cons.mpr ⟨np_s_iload_n hX dX11_skipped_20 rfl, List.forall_mem_cons.mpr ⟨np_S.mono (op := np_if (fun x => x < 0) 32) (np_s_if_lt hX dX11_skipped_21 (by decide)) nq_if_le, List.forall_mem_cons.mpr ⟨np_s_iload_n hX dX11_skipped_24 rfl, List.forall_mem_cons.mpr ⟨np_s_aload_n hX dX11_skipped_25 rfl, List.forall_mem_cons.mpr ⟨np_S.mono (op := np_getf 6 9) (np_s_getN hX dX11_skipped_26 (C := RX6) (T := TX6) (N := 12) rfl guX6 (by decide) gw361) nw_getf_le, List.forall_mem_cons.mpr ⟨np_S.mono (op := np_ic (fun x y => x < y) 43) (np_s_icmp_lt hX dX11_skipped_29 (by decide)) nq_ic_le, List.forall_mem_cons.mpr ⟨np_S.mono (op := np_throw X.2.2.2 0) (np_s_throw hX ⟨96, 326, 100, _, gw516, gw78, sw1145, twX11_100, toX11_100_96, Or.inr ⟨dX11_skipped_32, dX11_skipped_35, dX11_skipped_36, dX11_skipped_39, dX11_skipped_42⟩⟩) (nq_throw_le hT), List.forall_mem_cons.mpr ⟨np_s_aload_n hX dX11_skipped_43 rfl, List.forall_mem_cons.mpr ⟨np_S.mono (op := np_getf 6 1) (np_s_getN hX dX11_skipped_44 (C := RX6) (T := TX6) (N := 12) rfl guX6 (by decide) gw348) nw_getf_le, List.forall_mem_cons.mpr ⟨np_s_iload_n hX dX11_skipped_47 rfl, List.forall_mem_cons.mpr ⟨np_s_iconst hX dX11_skipped_48 (by decide), List.forall_mem_cons.mpr ⟨np_S.mono (op := np_call 3 sp_X11_at 3 0 0 1 6) (np_s_callS hX C_X11_at dX11_skipped_49 gw653 gw63 gw726 gw652 ⟨by decide, by decide, by decide⟩ (by decide) (by decide)) nq_call_le, List.forall_mem_cons.mpr ⟨np_S.mono (op := np_ret X.2.2.1) (np_s_ret hX dX11_skipped_52) (nq_ret_le hR), fun _ h => nomatch h⟩⟩⟩⟩⟩⟩⟩⟩⟩⟩⟩⟩⟩⟩⟩⟩⟩⟩⟩⟩
noncomputable def m_X11_skipped (S : pw_S) (i0 : Nat) (x1 : Int32) (x2 : Int32) : pw_R (Int32 ⊕ Nat) :=
 pw_b (m_X11_tableOf S i0 x1) fun S1 r4 =>
 pw_o r4 (
 (some (S1, .inr 0))) (fun j6 =>
 (if x2 < 0 then
 (some (S1, .inr 0))
 else
 (if x2 < (S1 54 j6 9) then
 (pw_b (m_X11_at S1 13 j6 x2 0) fun S7 r10 =>
 some (S7, .inl r10))
 else
 (some (S1, .inr 0)))))
def sp_X11_skipped : np_SpX := fun vs w Q QX => ∃ (q : Nat) (S : pw_S) (i0 : Nat) (x1 : Int32) (x2 : Int32), vs = [.ref (pw_pl 61 i0), .int x1, .int x2] ∧ pw_ok q 61 i0 = true ∧ pw_W q w S ∧ pw_p (m_X11_skipped S i0 x1 x2) (fun S' rx => ∀ f', pw_W q (w.1, f') S' → match rx with | .inl r => Q (some (.int r)) (w.1, f') | .inr e => QX e (w.1, f'))
set_option maxRecDepth 100000 in
set_option maxHeartbeats 8000000 in
theorem C_X11_skipped : np_CX yX11_skipped cX11_skipped 4 (some .int) 6 100 1 6 sp_X11_skipped := by
  refine np_ofX (by decide) (by decide) (by decide) ?_
  intro X vs w Q QX hsp hX hmn hRt hTh
  obtain ⟨q, S, i0, x1, x2, rfl, hi0, hW, h⟩ := hsp
  obtain ⟨n, f⟩ := w
  unfold m_X11_skipped at h
  have hR : ∀ st w ce sl, np_rq (some .int) 1 6 Q st w ce sl → X.2.2.1 st w ce sl := fun _ _ _ _ h => by rw [hRt]; exact h
  have hT : ∀ i w ce sl, np_thq 1 6 QX i w ce sl → X.2.2.2 i w ce sl := fun _ _ _ _ h => by rw [hTh]; exact h
  refine np_soundW (so_X11_skipped hX hR hT) [] 400 0 _ _ _ _ _ ?_
  conv => whnf
  refine np_rd_i (hW.g hi0) ?_
  conv => whnf
  refine ⟨q, S, i0, x1, rfl, hi0, hW, pw_bd h (fun S1 r4 h f2 hW3 ho5 => ?_)⟩
  rcases r4 with _ | j6
  · replace h := pw_on h
    conv => whnf
    exact ⟨Nat.le_of_ble_eq_true rfl, Nat.le_of_ble_eq_true rfl, pw_ps h _ hW3⟩
  · replace h := pw_os h
    replace ho5 : pw_ok q 54 j6 = true := ho5
    conv => whnf
    refine pw_br h (fun _ h => ?_) (fun _ h => ?_)
    · conv => whnf
      exact ⟨Nat.le_of_ble_eq_true rfl, Nat.le_of_ble_eq_true rfl, pw_ps h _ hW3⟩
    · conv => whnf
      refine np_rd_i (hW3.g ho5) ?_
      conv => whnf
      refine pw_br h (fun _ h => ?_) (fun _ h => ?_)
      · conv => whnf
        refine np_rd_i (hW3.g ho5) ?_
        conv => whnf
        refine ⟨q, S1, 13, j6, x2, 0, rfl, rfl, ho5, hW3, pw_bd h (fun S7 r10 h f8 hW9 => ?_)⟩
        conv => whnf
        exact ⟨Nat.le_of_ble_eq_true rfl, Nat.le_of_ble_eq_true rfl, trivial, pw_ps h _ hW9⟩
      · conv => whnf
        exact ⟨Nat.le_of_ble_eq_true rfl, Nat.le_of_ble_eq_true rfl, pw_ps h _ hW3⟩
theorem dX11_cell_0 : decode cX11_cell 0 = .ok (.aload_n 0, 1) := by decide +kernel
theorem dX11_cell_1 : decode cX11_cell 1 = .ok (.iload_n 1, 1) := by decide +kernel
theorem dX11_cell_2 : decode cX11_cell 2 = .ok (.invokevirtual 283, 3) := by decide +kernel
theorem dX11_cell_5 : decode cX11_cell 5 = .ok (.astore 5, 2) := by decide +kernel
theorem dX11_cell_7 : decode cX11_cell 7 = .ok (.aload 5, 2) := by decide +kernel
theorem dX11_cell_9 : decode cX11_cell 9 = .ok (.ifnull 12, 3) := by decide +kernel
theorem dX11_cell_12 : decode cX11_cell 12 = .ok (.aload 5, 2) := by decide +kernel
theorem dX11_cell_14 : decode cX11_cell 14 = .ok (.iload_n 2, 1) := by decide +kernel
theorem dX11_cell_15 : decode cX11_cell 15 = .ok (.invokevirtual 331, 3) := by decide +kernel
theorem dX11_cell_18 : decode cX11_cell 18 = .ok (.ifCond .ne 14, 3) := by decide +kernel
theorem dX11_cell_21 : decode cX11_cell 21 = .ok (.new 96, 3) := by decide +kernel
theorem dX11_cell_24 : decode cX11_cell 24 = .ok (.dup, 1) := by decide +kernel
theorem dX11_cell_25 : decode cX11_cell 25 = .ok (.ldc_w 334, 3) := by decide +kernel
theorem dX11_cell_28 : decode cX11_cell 28 = .ok (.invokespecial 100, 3) := by decide +kernel
theorem dX11_cell_31 : decode cX11_cell 31 = .ok (.athrow, 1) := by decide +kernel
theorem dX11_cell_32 : decode cX11_cell 32 = .ok (.iload_n 3, 1) := by decide +kernel
theorem dX11_cell_33 : decode cX11_cell 33 = .ok (.iload 4, 2) := by decide +kernel
theorem dX11_cell_35 : decode cX11_cell 35 = .ok (.invokestatic 172, 3) := by decide +kernel
theorem dX11_cell_38 : decode cX11_cell 38 = .ok (.ifCond .ne 13, 3) := by decide +kernel
theorem dX11_cell_41 : decode cX11_cell 41 = .ok (.new 96, 3) := by decide +kernel
theorem dX11_cell_44 : decode cX11_cell 44 = .ok (.dup, 1) := by decide +kernel
theorem dX11_cell_45 : decode cX11_cell 45 = .ok (.ldc 176, 2) := by decide +kernel
theorem dX11_cell_47 : decode cX11_cell 47 = .ok (.invokespecial 100, 3) := by decide +kernel
theorem dX11_cell_50 : decode cX11_cell 50 = .ok (.athrow, 1) := by decide +kernel
theorem dX11_cell_51 : decode cX11_cell 51 = .ok (.aload 5, 2) := by decide +kernel
theorem dX11_cell_53 : decode cX11_cell 53 = .ok (.iload_n 2, 1) := by decide +kernel
theorem dX11_cell_54 : decode cX11_cell 54 = .ok (.iload_n 3, 1) := by decide +kernel
theorem dX11_cell_55 : decode cX11_cell 55 = .ok (.iload 4, 2) := by decide +kernel
theorem dX11_cell_57 : decode cX11_cell 57 = .ok (.invokestatic 178, 3) := by decide +kernel
theorem dX11_cell_60 : decode cX11_cell 60 = .ok (.invokevirtual 336, 3) := by decide +kernel
theorem dX11_cell_63 : decode cX11_cell 63 = .ok (.ireturn, 1) := by decide +kernel
def is_X11_cell (Rt : np_Rt) (Th : np_Th) : List (Nat × np_Op) := [(0, np_ald 1 0), (1, np_ild 1 1), (2, nw_callV 11 2 sp_X11_tableOf 2 0 0 1 6), (5, np_ast 2 5), (7, np_ald 2 5), (9, np_ifnull 21), (12, np_ald 2 5), (14, np_ild 1 2), (15, nw_callV 6 2 sp_X6_hasRow 2 0 0 1 6), (18, nq_ifne 32), (21, nq_throw Th 0), (32, np_ild 1 3), (33, np_ild 2 4), (35, nq_call 2 sp_X11_isCell 2 0 0 1 6), (38, nq_ifne 51), (41, nq_throw Th 0), (51, np_ald 2 5), (53, np_ild 1 2), (54, np_ild 1 3), (55, np_ild 2 4), (57, nq_call 2 sp_X11_cellPlace 2 0 0 1 6), (60, nw_callV 6 3 sp_X6_told 3 0 0 1 6), (63, np_ret Rt)]
set_option maxRecDepth 20000 in
theorem so_X11_cell {X : np_Ctx} {Rt : np_Rt} {Th : np_Th} (hX : np_ok RX11 cX11_cell 6 6 100 1 6 .ireturn X) (hR : ∀ st w ce sl, Rt st w ce sl → X.2.2.1 st w ce sl) (hT : ∀ i w ce sl, Th i w ce sl → X.2.2.2 i w ce sl) : ∀ q ∈ is_X11_cell Rt Th, np_S X q.1 q.2 :=
  List.forall_mem_cons.mpr ⟨np_s_aload_n hX dX11_cell_0 rfl, List.forall_mem_cons.mpr ⟨np_s_iload_n hX dX11_cell_1 rfl, List.forall_mem_cons.mpr ⟨np_S.mono (op := np_callV 11 2 sp_X11_tableOf 2 0 0 1 6) (np_s_callV hX C_X11_tableOf dX11_cell_2 (q := (RX11, TX11, 14)) rfl rfl gw977 gw63 gw974 gw976 gw18 ⟨by decide, by decide, by decide⟩ (by decide) (by decide)) nw_callV_le, List.forall_mem_cons.mpr ⟨np_s_astore hX dX11_cell_5 (by decide), List.forall_mem_cons.mpr ⟨np_s_aload hX dX11_cell_7, List.forall_mem_cons.mpr ⟨np_s_ifnull hX dX11_cell_9 (by decide), List.forall_mem_cons.mpr ⟨np_s_aload hX dX11_cell_12, List.forall_mem_cons.mpr ⟨np_s_iload_n hX dX11_cell_14 rfl, List.forall_mem_cons.mpr ⟨np_S.mono (op := np_callV 6 2 sp_X6_hasRow 2 0 0 1 6) (np_s_callV hX C_X6_hasRow dX11_cell_15 (q := (RX6, TX6, 12)) rfl rfl gw1120 gw72 gw1259 gw1118 gw1119 ⟨by decide, by decide, by decide⟩ (by decide) (by decide)) nw_callV_le, List.forall_mem_cons.mpr ⟨np_S.mono (op := np_ifne 32) (np_s_if_ne hX dX11_cell_18 (by decide)) nq_ifne_le, List.forall_mem_cons.mpr ⟨np_S.mono (op := np_throw X.2.2.2 0) (np_s_throw hX ⟨96, 334, 100, _, gw516, gw78, sw1260, twX11_100, toX11_100_96, Or.inr ⟨dX11_cell_21, dX11_cell_24, dX11_cell_25, dX11_cell_28, dX11_cell_31⟩⟩) (nq_throw_le hT), List.forall_mem_cons.mpr ⟨np_s_iload_n hX dX11_cell_32 rfl, List.forall_mem_cons.mpr ⟨np_s_iload hX dX11_cell_33, List.forall_mem_cons.mpr ⟨np_S.mono (op := np_call 2 sp_X11_isCell 2 0 0 1 6) (np_s_callS hX C_X11_isCell dX11_cell_35 gw721 gw63 gw719 gw720 ⟨by decide, by decide, by decide⟩ (by decide) (by decide)) nq_call_le, List.forall_mem_cons.mpr ⟨np_S.mono (op := np_ifne 51) (np_s_if_ne hX dX11_cell_38 (by decide)) nq_ifne_le, List.forall_mem_cons.mpr ⟨np_S.mono (op := np_throw X.2.2.2 0) (np_s_throw hX ⟨96, 176, 100, _, gw516, gw78, sw722, twX11_100, toX11_100_96, Or.inl ⟨dX11_cell_41, dX11_cell_44, dX11_cell_45, dX11_cell_47, dX11_cell_50⟩⟩) (nq_throw_le hT), List.forall_mem_cons.mpr ⟨np_s_aload hX dX11_cell_51, List.forall_mem_cons.mpr ⟨np_s_iload_n hX dX11_cell_53 rfl, List.forall_mem_cons.mpr ⟨np_s_iload_n hX dX11_cell_54 rfl, List.forall_mem_cons.mpr ⟨np_s_iload hX dX11_cell_55, List.forall_mem_cons.mpr ⟨np_S.mono (op := np_call 2 sp_X11_cellPlace 2 0 0 1 6) (np_s_callS hX C_X11_cellPlace dX11_cell_57 gw725 gw63 gw723 gw724 ⟨by decide, by decide, by decide⟩ (by decide) (by decide)) nq_call_le, List.forall_mem_cons.mpr ⟨np_S.mono (op := np_callV 6 3 sp_X6_told 3 0 0 1 6) (np_s_callV hX C_X6_told dX11_cell_60 (q := (RX6, TX6, 12)) rfl rfl gw1116 gw72 gw1265 gw1114 gw1115 ⟨by decide, by decide, by decide⟩ (by decide) (by decide)) nw_callV_le, List.forall_mem_cons.mpr ⟨np_S.mono (op := np_ret X.2.2.1) (np_s_ret hX dX11_cell_63) (nq_ret_le hR), fun _ h => nomatch h⟩⟩⟩⟩⟩⟩⟩⟩⟩⟩⟩⟩⟩⟩⟩⟩⟩⟩⟩⟩⟩⟩⟩
noncomputable def m_X11_cell (S : pw_S) (i0 : Nat) (x1 : Int32) (x2 : Int32) (x3 : Int32) (x4 : Int32) : pw_R (Int32 ⊕ Nat) :=
 pw_b (m_X11_tableOf S i0 x1) fun S1 r4 =>
 pw_o r4 (
 (some (S1, .inr 0))) (fun j6 =>
 (pw_b (m_X6_hasRow S1 j6 x2) fun S7 r10 =>
 if r10 = 0 then
 (some (S7, .inr 0))
 else
 (pw_b (m_X11_isCell S7 x3 x4) fun S12 r15 =>
 if r15 = 0 then
 (some (S12, .inr 0))
 else
 (pw_b (m_X11_cellPlace S12 x3 x4) fun S17 r20 =>
 pw_b (m_X6_told S17 j6 x2 r20) fun S22 r25 =>
 some (S22, .inl r25)))))
def sp_X11_cell : np_SpX := fun vs w Q QX => ∃ (q : Nat) (S : pw_S) (i0 : Nat) (x1 : Int32) (x2 : Int32) (x3 : Int32) (x4 : Int32), vs = [.ref (pw_pl 61 i0), .int x1, .int x2, .int x3, .int x4] ∧ pw_ok q 61 i0 = true ∧ pw_W q w S ∧ pw_p (m_X11_cell S i0 x1 x2 x3 x4) (fun S' rx => ∀ f', pw_W q (w.1, f') S' → match rx with | .inl r => Q (some (.int r)) (w.1, f') | .inr e => QX e (w.1, f'))
set_option maxRecDepth 100000 in
set_option maxHeartbeats 8000000 in
theorem C_X11_cell : np_CX yX11_cell cX11_cell 6 (some .int) 6 100 1 6 sp_X11_cell := by
  refine np_ofX (by decide) (by decide) (by decide) ?_
  intro X vs w Q QX hsp hX hmn hRt hTh
  obtain ⟨q, S, i0, x1, x2, x3, x4, rfl, hi0, hW, h⟩ := hsp
  obtain ⟨n, f⟩ := w
  unfold m_X11_cell at h
  have hR : ∀ st w ce sl, np_rq (some .int) 1 6 Q st w ce sl → X.2.2.1 st w ce sl := fun _ _ _ _ h => by rw [hRt]; exact h
  have hT : ∀ i w ce sl, np_thq 1 6 QX i w ce sl → X.2.2.2 i w ce sl := fun _ _ _ _ h => by rw [hTh]; exact h
  refine np_soundW (so_X11_cell hX hR hT) [] 400 0 _ _ _ _ _ ?_
  conv => whnf
  refine np_rd_i (hW.g hi0) ?_
  conv => whnf
  refine ⟨q, S, i0, x1, rfl, hi0, hW, pw_bd h (fun S1 r4 h f2 hW3 ho5 => ?_)⟩
  rcases r4 with _ | j6
  · replace h := pw_on h
    conv => whnf
    exact ⟨Nat.le_of_ble_eq_true rfl, Nat.le_of_ble_eq_true rfl, pw_ps h _ hW3⟩
  · replace h := pw_os h
    replace ho5 : pw_ok q 54 j6 = true := ho5
    conv => whnf
    refine np_rd_i (hW3.g ho5) ?_
    conv => whnf
    refine ⟨q, S1, j6, x2, rfl, ho5, hW3, pw_bd h (fun S7 r10 h f8 hW9 => ?_)⟩
    conv => whnf
    refine pw_br h (fun _ h => ?_) (fun _ h => ?_)
    · conv => whnf
      exact ⟨Nat.le_of_ble_eq_true rfl, Nat.le_of_ble_eq_true rfl, pw_ps h _ hW9⟩
    · conv => whnf
      refine ⟨q, S7, x3, x4, rfl, hW9, pw_bd h (fun S12 r15 h f13 hW14 => ?_)⟩
      conv => whnf
      refine pw_br h (fun _ h => ?_) (fun _ h => ?_)
      · conv => whnf
        exact ⟨Nat.le_of_ble_eq_true rfl, Nat.le_of_ble_eq_true rfl, pw_ps h _ hW14⟩
      · conv => whnf
        refine ⟨q, S12, x3, x4, rfl, hW14, pw_bd h (fun S17 r20 h f18 hW19 => ?_)⟩
        conv => whnf
        refine np_rd_i (hW19.g ho5) ?_
        conv => whnf
        refine ⟨q, S17, j6, x2, r20, rfl, ho5, hW19, pw_bd h (fun S22 r25 h f23 hW24 => ?_)⟩
        conv => whnf
        exact ⟨Nat.le_of_ble_eq_true rfl, Nat.le_of_ble_eq_true rfl, trivial, pw_ps h _ hW24⟩
theorem dX11_take_0 : decode cX11_take 0 = .ok (.aload_n 0, 1) := by decide +kernel
theorem dX11_take_1 : decode cX11_take 1 = .ok (.iload_n 1, 1) := by decide +kernel
theorem dX11_take_2 : decode cX11_take 2 = .ok (.invokevirtual 283, 3) := by decide +kernel
theorem dX11_take_5 : decode cX11_take 5 = .ok (.astore_n 3, 1) := by decide +kernel
theorem dX11_take_6 : decode cX11_take 6 = .ok (.aload_n 3, 1) := by decide +kernel
theorem dX11_take_7 : decode cX11_take 7 = .ok (.ifnull 11, 3) := by decide +kernel
theorem dX11_take_10 : decode cX11_take 10 = .ok (.aload_n 3, 1) := by decide +kernel
theorem dX11_take_11 : decode cX11_take 11 = .ok (.iload_n 2, 1) := by decide +kernel
theorem dX11_take_12 : decode cX11_take 12 = .ok (.invokevirtual 331, 3) := by decide +kernel
theorem dX11_take_15 : decode cX11_take 15 = .ok (.ifCond .ne 14, 3) := by decide +kernel
theorem dX11_take_18 : decode cX11_take 18 = .ok (.new 96, 3) := by decide +kernel
theorem dX11_take_21 : decode cX11_take 21 = .ok (.dup, 1) := by decide +kernel
theorem dX11_take_22 : decode cX11_take 22 = .ok (.ldc_w 334, 3) := by decide +kernel
theorem dX11_take_25 : decode cX11_take 25 = .ok (.invokespecial 100, 3) := by decide +kernel
theorem dX11_take_28 : decode cX11_take 28 = .ok (.athrow, 1) := by decide +kernel
theorem dX11_take_29 : decode cX11_take 29 = .ok (.aload_n 3, 1) := by decide +kernel
theorem dX11_take_30 : decode cX11_take 30 = .ok (.getfield 339, 3) := by decide +kernel
theorem dX11_take_33 : decode cX11_take 33 = .ok (.iload_n 2, 1) := by decide +kernel
theorem dX11_take_34 : decode cX11_take 34 = .ok (.bipush 24, 2) := by decide +kernel
theorem dX11_take_36 : decode cX11_take 36 = .ok (.imul, 1) := by decide +kernel
theorem dX11_take_37 : decode cX11_take 37 = .ok (.aload_n 0, 1) := by decide +kernel
theorem dX11_take_38 : decode cX11_take 38 = .ok (.getfield 28, 3) := by decide +kernel
theorem dX11_take_41 : decode cX11_take 41 = .ok (.iconst 0, 1) := by decide +kernel
theorem dX11_take_42 : decode cX11_take 42 = .ok (.bipush 24, 2) := by decide +kernel
theorem dX11_take_44 : decode cX11_take 44 = .ok (.invokestatic 207, 3) := by decide +kernel
theorem dX11_take_47 : decode cX11_take 47 = .ok (.iconst 0, 1) := by decide +kernel
theorem dX11_take_48 : decode cX11_take 48 = .ok (.istore 4, 2) := by decide +kernel
theorem dX11_take_50 : decode cX11_take 50 = .ok (.iconst 0, 1) := by decide +kernel
theorem dX11_take_51 : decode cX11_take 51 = .ok (.istore 5, 2) := by decide +kernel
theorem dX11_take_53 : decode cX11_take 53 = .ok (.iload 5, 2) := by decide +kernel
theorem dX11_take_55 : decode cX11_take 55 = .ok (.aload_n 0, 1) := by decide +kernel
theorem dX11_take_56 : decode cX11_take 56 = .ok (.getfield 28, 3) := by decide +kernel
theorem dX11_take_59 : decode cX11_take 59 = .ok (.arraylength, 1) := by decide +kernel
theorem dX11_take_60 : decode cX11_take 60 = .ok (.if_icmp .ge 24, 3) := by decide +kernel
theorem dX11_take_63 : decode cX11_take 63 = .ok (.aload_n 0, 1) := by decide +kernel
theorem dX11_take_64 : decode cX11_take 64 = .ok (.getfield 28, 3) := by decide +kernel
theorem dX11_take_67 : decode cX11_take 67 = .ok (.iload 5, 2) := by decide +kernel
theorem dX11_take_69 : decode cX11_take 69 = .ok (.iaload, 1) := by decide +kernel
theorem dX11_take_70 : decode cX11_take 70 = .ok (.ldc 182, 2) := by decide +kernel
theorem dX11_take_72 : decode cX11_take 72 = .ok (.if_icmp .eq 6, 3) := by decide +kernel
theorem dX11_take_75 : decode cX11_take 75 = .ok (.iinc 4 1, 3) := by decide +kernel
theorem dX11_take_78 : decode cX11_take 78 = .ok (.iinc 5 1, 3) := by decide +kernel
theorem dX11_take_81 : decode cX11_take 81 = .ok (.goto (-28), 3) := by decide +kernel
theorem dX11_take_84 : decode cX11_take 84 = .ok (.iload 4, 2) := by decide +kernel
theorem dX11_take_86 : decode cX11_take 86 = .ok (.ireturn, 1) := by decide +kernel
def is_X11_take (Rt : np_Rt) (Th : np_Th) : List (Nat × np_Op) := [(0, np_ald 1 0), (1, np_ild 1 1), (2, nw_callV 11 2 sp_X11_tableOf 2 0 0 1 6), (5, np_ast 1 3), (6, np_ald 1 3), (7, np_ifnull 18), (10, np_ald 1 3), (11, np_ild 1 2), (12, nw_callV 6 2 sp_X6_hasRow 2 0 0 1 6), (15, nq_ifne 29), (18, nq_throw Th 0), (29, np_ald 1 3), (30, nw_getf 6 0), (33, np_ild 1 2), (34, np_push 2 (.int 24)), (36, np_ib (fun x y => x * y)), (37, np_ald 1 0), (38, nw_getf 11 3), (41, np_push 1 (.int 0)), (42, np_push 2 (.int 24)), (44, nq_call 5 sp_X11_copyCells 5 0 0 1 6), (47, np_push 1 (.int 0)), (48, nw_ist 2 4), (50, np_push 1 (.int 0)), (51, nw_ist 2 5), (53, np_ild 2 5), (55, np_ald 1 0), (56, nw_getf 11 3), (59, nw_alen), (60, nq_ic (fun x y => y ≤ x) 84), (63, np_ald 1 0), (64, nw_getf 11 3), (67, np_ild 2 5), (69, nw_ialdT .int), (70, np_push 2 (.int (-2147483648))), (72, nq_ic (fun x y => x = y) 78), (75, nw_iinc 4 1), (78, nw_iinc 5 1), (81, np_goto 53), (84, np_ild 2 4), (86, np_ret Rt)]
set_option maxRecDepth 20000 in
theorem so_X11_take {X : np_Ctx} {Rt : np_Rt} {Th : np_Th} (hX : np_ok RX11 cX11_take 6 6 100 1 6 .ireturn X) (hR : ∀ st w ce sl, Rt st w ce sl → X.2.2.1 st w ce sl) (hT : ∀ i w ce sl, Th i w ce sl → X.2.2.2 i w ce sl) : ∀ q ∈ is_X11_take Rt Th, np_S X q.1 q.2 :=
  List.forall_mem_cons.mpr ⟨np_s_aload_n hX dX11_take_0 rfl, List.forall_mem_cons.mpr ⟨np_s_iload_n hX dX11_take_1 rfl, List.forall_mem_cons.mpr ⟨np_S.mono (op := np_callV 11 2 sp_X11_tableOf 2 0 0 1 6) (np_s_callV hX C_X11_tableOf dX11_take_2 (q := (RX11, TX11, 14)) rfl rfl gw977 gw63 gw974 gw976 gw18 ⟨by decide, by decide, by decide⟩ (by decide) (by decide)) nw_callV_le, List.forall_mem_cons.mpr ⟨np_s_astore_n hX dX11_take_5 rfl (by decide), List.forall_mem_cons.mpr ⟨np_s_aload_n hX dX11_take_6 rfl, List.forall_mem_cons.mpr ⟨np_s_ifnull hX dX11_take_7 (by decide), List.forall_mem_cons.mpr ⟨np_s_aload_n hX dX11_take_10 rfl, List.forall_mem_cons.mpr ⟨np_s_iload_n hX dX11_take_11 rfl, List.forall_mem_cons.mpr ⟨np_S.mono (op := np_callV 6 2 sp_X6_hasRow 2 0 0 1 6) (np_s_callV hX C_X6_hasRow dX11_take_12 (q := (RX6, TX6, 12)) rfl rfl gw1120 gw72 gw1259 gw1118 gw1119 ⟨by decide, by decide, by decide⟩ (by decide) (by decide)) nw_callV_le, List.forall_mem_cons.mpr ⟨np_S.mono (op := np_ifne 29) (np_s_if_ne hX dX11_take_15 (by decide)) nq_ifne_le, List.forall_mem_cons.mpr ⟨np_S.mono (op := np_throw X.2.2.2 0) (np_s_throw hX ⟨96, 334, 100, _, gw516, gw78, sw1260, twX11_100, toX11_100_96, Or.inr ⟨dX11_take_18, dX11_take_21, dX11_take_22, dX11_take_25, dX11_take_28⟩⟩) (nq_throw_le hT), List.forall_mem_cons.mpr ⟨np_s_aload_n hX dX11_take_29 rfl, List.forall_mem_cons.mpr ⟨np_S.mono (op := np_getf 6 0) (np_s_getN hX dX11_take_30 (C := RX6) (T := TX6) (N := 12) rfl guX6 (by decide) gw346) nw_getf_le, List.forall_mem_cons.mpr ⟨np_s_iload_n hX dX11_take_33 rfl, List.forall_mem_cons.mpr ⟨np_s_bipush hX dX11_take_34 (by decide), List.forall_mem_cons.mpr ⟨np_s_imul hX dX11_take_36, List.forall_mem_cons.mpr ⟨np_s_aload_n hX dX11_take_37 rfl, List.forall_mem_cons.mpr ⟨np_S.mono (op := np_getf 11 3) (np_s_getf hX dX11_take_38 (C := RX11) (T := TX11) (N := 14) rfl guX11 (by decide) gw444) nw_getf_le, List.forall_mem_cons.mpr ⟨np_s_iconst hX dX11_take_41 (by decide), List.forall_mem_cons.mpr ⟨np_s_bipush hX dX11_take_42 (by decide), List.forall_mem_cons.mpr ⟨np_S.mono (op := np_call 5 sp_X11_copyCells 5 0 0 1 6) (np_s_callS hX C_X11_copyCells dX11_take_44 gw893 gw63 gw917 gw892 ⟨by decide, by decide, by decide⟩ (by decide) (by decide)) nq_call_le, List.forall_mem_cons.mpr ⟨np_s_iconst hX dX11_take_47 (by decide), List.forall_mem_cons.mpr ⟨np_S.mono (op := np_ist 2 4) (np_s_istore hX dX11_take_48 (by decide)) nw_ist_le, List.forall_mem_cons.mpr ⟨np_s_iconst hX dX11_take_50 (by decide), List.forall_mem_cons.mpr ⟨np_S.mono (op := np_ist 2 5) (np_s_istore hX dX11_take_51 (by decide)) nw_ist_le, List.forall_mem_cons.mpr ⟨np_s_iload hX dX11_take_53, List.forall_mem_cons.mpr ⟨np_s_aload_n hX dX11_take_55 rfl, List.forall_mem_cons.mpr ⟨np_S.mono (op := np_getf 11 3) (np_s_getf hX dX11_take_56 (C := RX11) (T := TX11) (N := 14) rfl guX11 (by decide) gw444) nw_getf_le, List.forall_mem_cons.mpr ⟨np_S.mono (op := np_alen) (np_s_alen hX dX11_take_59) nw_alen_le, List.forall_mem_cons.mpr ⟨np_S.mono (op := np_ic (fun x y => y ≤ x) 84) (np_s_icmp_ge hX dX11_take_60 (by decide)) nq_ic_le, List.forall_mem_cons.mpr ⟨np_s_aload_n hX dX11_take_63 rfl, List.forall_mem_cons.mpr ⟨np_S.mono (op := np_getf 11 3) (np_s_getf hX dX11_take_64 (C := RX11) (T := TX11) (N := 14) rfl guX11 (by decide) gw444) nw_getf_le, List.forall_mem_cons.mpr ⟨np_s_iload hX dX11_take_67, List.forall_mem_cons.mpr ⟨np_S.mono (op := np_ialdT .int) (np_s_iald hX dX11_take_69) nw_ialdT_le, List.forall_mem_cons.mpr ⟨np_s_ldc hX dX11_take_70 gw124, List.forall_mem_cons.mpr ⟨np_S.mono (op := np_ic (fun x y => x = y) 78) (np_s_icmp_eq hX dX11_take_72 (by decide)) nq_ic_le, List.forall_mem_cons.mpr ⟨np_S.mono (op := np_iinc 4 1) (np_s_iinc hX dX11_take_75 (by decide)) nw_iinc_le, List.forall_mem_cons.mpr ⟨np_S.mono (op := np_iinc 5 1) (np_s_iinc hX dX11_take_78 (by decide)) nw_iinc_le, List.forall_mem_cons.mpr ⟨np_s_goto hX dX11_take_81 (by decide), List.forall_mem_cons.mpr ⟨np_s_iload hX dX11_take_84, List.forall_mem_cons.mpr ⟨np_S.mono (op := np_ret X.2.2.1) (np_s_ret hX dX11_take_86) (nq_ret_le hR), fun _ h => nomatch h⟩⟩⟩⟩⟩⟩⟩⟩⟩⟩⟩⟩⟩⟩⟩⟩⟩⟩⟩⟩⟩⟩⟩⟩⟩⟩⟩⟩⟩⟩⟩⟩⟩⟩⟩⟩⟩⟩⟩⟩⟩
noncomputable def m_X11_take_53 : Nat → pw_S → Nat → Int32 → Int32 → pw_R (Int32 ⊕ Nat)
| 0, _, _, _, _ => none
| N + 1, S, v0, v4, v5 =>
 if 24 ≤ v5 then
 (some (S, .inl v4))
 else
 (pw_c (np_inb v5 24) <|
 if (S 35 0 (v5 : Int32).toNatClampNeg) = (-2147483648) then
 (pw_l (v5 + 1 : Int32) fun z1 =>
 m_X11_take_53 N S v0 v4 z1)
 else
 (pw_l (v4 + 1 : Int32) fun z2 =>
 pw_l (v5 + 1 : Int32) fun z3 =>
 m_X11_take_53 N S v0 z2 z3))
set_option maxRecDepth 100000 in
set_option maxHeartbeats 8000000 in
theorem L_X11_take_53 {X : np_Ctx} (hX : np_ok RX11 cX11_take 6 6 100 1 6 .ireturn X) {Q : Option Value → np_W → Prop} {QX : Nat → np_W → Prop} {q n : Nat} (hR : ∀ st w ce sl, np_rq (some .int) 1 6 Q st w ce sl → X.2.2.1 st w ce sl) (hT : ∀ i w ce sl, np_thq 1 6 QX i w ce sl → X.2.2.2 i w ce sl) : ∀ (N : Nat) (S : pw_S) (v0 : Nat) (v4 : Int32) (v5 : Int32) (f : Nat → Option np_E) (hv0 : pw_ok q 61 v0 = true), pw_W q (n, f) S → pw_p (m_X11_take_53 N S v0 v4 v5) (fun S' rx => ∀ f', pw_W q (n, f') S' → match rx with | .inl r => Q (some (.int r)) (n, f') | .inr e => QX e (n, f')) → np_G X 53 [(0, .ref (pw_pl 61 v0)), (4, .int v4), (5, .int v5)] [] (n, f) 0 0 := by
  intro N
  induction N with
  | zero =>
    intro S v0 v4 v5 f hv0 hW h
    exact (pw_pn h).elim
  | succ N ih =>
    intro S v0 v4 v5 f hv0 hW h
    unfold m_X11_take_53 at h
    refine np_soundW (so_X11_take hX hR hT) [53] 400 53 _ _ _ _ _ ?_
    conv => whnf
    refine np_rd_i (hW.g hv0) ?_
    conv => whnf
    refine np_rd_i (hW.g rfl) ?_
    conv => whnf
    refine pw_br h (fun _ h => ?_) (fun _ h => ?_)
    · conv => whnf
      exact ⟨Nat.le_of_ble_eq_true rfl, Nat.le_of_ble_eq_true rfl, trivial, pw_ps h _ hW⟩
    · conv => whnf
      refine np_rd_i (hW.g hv0) ?_
      conv => whnf
      refine np_rd_i (hW.g rfl) ?_
      conv => whnf
      refine pw_ck h (fun _ h => ?_)
      conv => whnf
      refine pw_br h (fun _ h => ?_) (fun _ h => ?_)
      · conv => whnf
        refine pw_st h (fun z1 h => ?_)
        conv => whnf
        exact np_gl (ih S v0 v4 z1 f hv0 hW h) ⟨rfl, rfl, rfl, trivial⟩
      · conv => whnf
        refine pw_st h (fun z2 h => ?_)
        conv => whnf
        refine pw_st h (fun z3 h => ?_)
        conv => whnf
        exact np_gl (ih S v0 z2 z3 f hv0 hW h) ⟨rfl, rfl, rfl, trivial⟩
noncomputable def m_X11_take (S : pw_S) (i0 : Nat) (x1 : Int32) (x2 : Int32) : pw_R (Int32 ⊕ Nat) :=
 pw_b (m_X11_tableOf S i0 x1) fun S4 r7 =>
 pw_o r7 (
 (some (S4, .inr 0))) (fun j9 =>
 (pw_b (m_X6_hasRow S4 j9 x2) fun S10 r13 =>
 if r13 = 0 then
 (some (S10, .inr 0))
 else
 (pw_b (m_X11_copyCells S10 12 j9 (x2 * 24) 35 0 0 24) fun S15 r18 =>
 pw_l (0 : Int32) fun z20 =>
 pw_l (0 : Int32) fun z21 =>
 m_X11_take_53 (pw_F 20000) S15 i0 z20 z21)))
def sp_X11_take : np_SpX := fun vs w Q QX => ∃ (q : Nat) (S : pw_S) (i0 : Nat) (x1 : Int32) (x2 : Int32), vs = [.ref (pw_pl 61 i0), .int x1, .int x2] ∧ pw_ok q 61 i0 = true ∧ pw_W q w S ∧ pw_p (m_X11_take S i0 x1 x2) (fun S' rx => ∀ f', pw_W q (w.1, f') S' → match rx with | .inl r => Q (some (.int r)) (w.1, f') | .inr e => QX e (w.1, f'))
set_option maxRecDepth 100000 in
set_option maxHeartbeats 8000000 in
theorem C_X11_take : np_CX yX11_take cX11_take 6 (some .int) 6 100 1 6 sp_X11_take := by
  refine np_ofX (by decide) (by decide) (by decide) ?_
  intro X vs w Q QX hsp hX hmn hRt hTh
  obtain ⟨q, S, i0, x1, x2, rfl, hi0, hW, h⟩ := hsp
  obtain ⟨n, f⟩ := w
  unfold m_X11_take at h
  have hR : ∀ st w ce sl, np_rq (some .int) 1 6 Q st w ce sl → X.2.2.1 st w ce sl := fun _ _ _ _ h => by rw [hRt]; exact h
  have hT : ∀ i w ce sl, np_thq 1 6 QX i w ce sl → X.2.2.2 i w ce sl := fun _ _ _ _ h => by rw [hTh]; exact h
  refine np_soundW (so_X11_take hX hR hT) [53] 400 0 _ _ _ _ _ ?_
  conv => whnf
  refine np_rd_i (hW.g hi0) ?_
  conv => whnf
  refine ⟨q, S, i0, x1, rfl, hi0, hW, pw_bd h (fun S4 r7 h f5 hW6 ho8 => ?_)⟩
  rcases r7 with _ | j9
  · replace h := pw_on h
    conv => whnf
    exact ⟨Nat.le_of_ble_eq_true rfl, Nat.le_of_ble_eq_true rfl, pw_ps h _ hW6⟩
  · replace h := pw_os h
    replace ho8 : pw_ok q 54 j9 = true := ho8
    conv => whnf
    refine np_rd_i (hW6.g ho8) ?_
    conv => whnf
    refine ⟨q, S4, j9, x2, rfl, ho8, hW6, pw_bd h (fun S10 r13 h f11 hW12 => ?_)⟩
    conv => whnf
    refine pw_br h (fun _ h => ?_) (fun _ h => ?_)
    · conv => whnf
      exact ⟨Nat.le_of_ble_eq_true rfl, Nat.le_of_ble_eq_true rfl, pw_ps h _ hW12⟩
    · conv => whnf
      refine np_rd_i (hW12.g ho8) ?_
      conv => whnf
      refine np_rd_i (hW12.g hi0) ?_
      conv => whnf
      refine ⟨q, S10, 12, j9, (x2 * 24), 35, 0, 0, 24, rfl, rfl, ho8, rfl, rfl, hW12, pw_bd h (fun S15 r18 h f16 hW17 => ?_)⟩
      conv => whnf
      refine pw_st h (fun z20 h => ?_)
      conv => whnf
      refine pw_st h (fun z21 h => ?_)
      conv => whnf
      exact np_gl (L_X11_take_53 hX hR hT (pw_F 20000) S15 i0 z20 z21 f16 hi0 hW17 h) ⟨rfl, rfl, rfl, trivial⟩
theorem dX11_column_0 : decode cX11_column 0 = .ok (.aload_n 0, 1) := by decide +kernel
theorem dX11_column_1 : decode cX11_column 1 = .ok (.iload_n 1, 1) := by decide +kernel
theorem dX11_column_2 : decode cX11_column 2 = .ok (.invokevirtual 283, 3) := by decide +kernel
theorem dX11_column_5 : decode cX11_column 5 = .ok (.astore 5, 2) := by decide +kernel
theorem dX11_column_7 : decode cX11_column 7 = .ok (.aload 5, 2) := by decide +kernel
theorem dX11_column_9 : decode cX11_column 9 = .ok (.ifnull 10, 3) := by decide +kernel
theorem dX11_column_12 : decode cX11_column 12 = .ok (.iload_n 3, 1) := by decide +kernel
theorem dX11_column_13 : decode cX11_column 13 = .ok (.invokestatic 93, 3) := by decide +kernel
theorem dX11_column_16 : decode cX11_column 16 = .ok (.ifCond .ne 14, 3) := by decide +kernel
theorem dX11_column_19 : decode cX11_column 19 = .ok (.new 96, 3) := by decide +kernel
theorem dX11_column_22 : decode cX11_column 22 = .ok (.dup, 1) := by decide +kernel
theorem dX11_column_23 : decode cX11_column 23 = .ok (.ldc_w 342, 3) := by decide +kernel
theorem dX11_column_26 : decode cX11_column 26 = .ok (.invokespecial 100, 3) := by decide +kernel
theorem dX11_column_29 : decode cX11_column 29 = .ok (.athrow, 1) := by decide +kernel
theorem dX11_column_30 : decode cX11_column 30 = .ok (.iload_n 2, 1) := by decide +kernel
theorem dX11_column_31 : decode cX11_column 31 = .ok (.ifCond .lt 8, 3) := by decide +kernel
theorem dX11_column_34 : decode cX11_column 34 = .ok (.iload_n 2, 1) := by decide +kernel
theorem dX11_column_35 : decode cX11_column 35 = .ok (.iconst 3, 1) := by decide +kernel
theorem dX11_column_36 : decode cX11_column 36 = .ok (.if_icmp .le 14, 3) := by decide +kernel
theorem dX11_column_39 : decode cX11_column 39 = .ok (.new 107, 3) := by decide +kernel
theorem dX11_column_42 : decode cX11_column 42 = .ok (.dup, 1) := by decide +kernel
theorem dX11_column_43 : decode cX11_column 43 = .ok (.ldc_w 344, 3) := by decide +kernel
theorem dX11_column_46 : decode cX11_column 46 = .ok (.invokespecial 111, 3) := by decide +kernel
theorem dX11_column_49 : decode cX11_column 49 = .ok (.athrow, 1) := by decide +kernel
theorem dX11_column_50 : decode cX11_column 50 = .ok (.iload 4, 2) := by decide +kernel
theorem dX11_column_52 : decode cX11_column 52 = .ok (.iconst 1, 1) := by decide +kernel
theorem dX11_column_53 : decode cX11_column 53 = .ok (.if_icmp .lt 9, 3) := by decide +kernel
theorem dX11_column_56 : decode cX11_column 56 = .ok (.iload 4, 2) := by decide +kernel
theorem dX11_column_58 : decode cX11_column 58 = .ok (.iconst 5, 1) := by decide +kernel
theorem dX11_column_59 : decode cX11_column 59 = .ok (.if_icmp .le 14, 3) := by decide +kernel
theorem dX11_column_62 : decode cX11_column 62 = .ok (.new 107, 3) := by decide +kernel
theorem dX11_column_65 : decode cX11_column 65 = .ok (.dup, 1) := by decide +kernel
theorem dX11_column_66 : decode cX11_column 66 = .ok (.ldc_w 346, 3) := by decide +kernel
theorem dX11_column_69 : decode cX11_column 69 = .ok (.invokespecial 111, 3) := by decide +kernel
theorem dX11_column_72 : decode cX11_column 72 = .ok (.athrow, 1) := by decide +kernel
theorem dX11_column_73 : decode cX11_column 73 = .ok (.aload_n 0, 1) := by decide +kernel
theorem dX11_column_74 : decode cX11_column 74 = .ok (.getfield 348, 3) := by decide +kernel
theorem dX11_column_77 : decode cX11_column 77 = .ok (.aload_n 0, 1) := by decide +kernel
theorem dX11_column_78 : decode cX11_column 78 = .ok (.getfield 67, 3) := by decide +kernel
theorem dX11_column_81 : decode cX11_column 81 = .ok (.arraylength, 1) := by decide +kernel
theorem dX11_column_82 : decode cX11_column 82 = .ok (.if_icmp .lt 14, 3) := by decide +kernel
theorem dX11_column_85 : decode cX11_column 85 = .ok (.new 116, 3) := by decide +kernel
theorem dX11_column_88 : decode cX11_column 88 = .ok (.dup, 1) := by decide +kernel
theorem dX11_column_89 : decode cX11_column 89 = .ok (.ldc_w 351, 3) := by decide +kernel
theorem dX11_column_92 : decode cX11_column 92 = .ok (.invokespecial 120, 3) := by decide +kernel
theorem dX11_column_95 : decode cX11_column 95 = .ok (.athrow, 1) := by decide +kernel
theorem dX11_column_96 : decode cX11_column 96 = .ok (.aload_n 0, 1) := by decide +kernel
theorem dX11_column_97 : decode cX11_column 97 = .ok (.getfield 67, 3) := by decide +kernel
theorem dX11_column_100 : decode cX11_column 100 = .ok (.aload_n 0, 1) := by decide +kernel
theorem dX11_column_101 : decode cX11_column 101 = .ok (.getfield 348, 3) := by decide +kernel
theorem dX11_column_104 : decode cX11_column 104 = .ok (.aaload, 1) := by decide +kernel
theorem dX11_column_105 : decode cX11_column 105 = .ok (.astore 6, 2) := by decide +kernel
theorem dX11_column_107 : decode cX11_column 107 = .ok (.aload 6, 2) := by decide +kernel
theorem dX11_column_109 : decode cX11_column 109 = .ok (.ifnonnull 14, 3) := by decide +kernel
theorem dX11_column_112 : decode cX11_column 112 = .ok (.new 116, 3) := by decide +kernel
theorem dX11_column_115 : decode cX11_column 115 = .ok (.dup, 1) := by decide +kernel
theorem dX11_column_116 : decode cX11_column 116 = .ok (.ldc_w 351, 3) := by decide +kernel
theorem dX11_column_119 : decode cX11_column 119 = .ok (.invokespecial 120, 3) := by decide +kernel
theorem dX11_column_122 : decode cX11_column 122 = .ok (.athrow, 1) := by decide +kernel
theorem dX11_column_123 : decode cX11_column 123 = .ok (.aload 6, 2) := by decide +kernel
theorem dX11_column_125 : decode cX11_column 125 = .ok (.aload 5, 2) := by decide +kernel
theorem dX11_column_127 : decode cX11_column 127 = .ok (.iload_n 2, 1) := by decide +kernel
theorem dX11_column_128 : decode cX11_column 128 = .ok (.iload_n 3, 1) := by decide +kernel
theorem dX11_column_129 : decode cX11_column 129 = .ok (.iload 4, 2) := by decide +kernel
theorem dX11_column_131 : decode cX11_column 131 = .ok (.invokevirtual 353, 3) := by decide +kernel
theorem dX11_column_134 : decode cX11_column 134 = .ok (.aload_n 0, 1) := by decide +kernel
theorem dX11_column_135 : decode cX11_column 135 = .ok (.dup, 1) := by decide +kernel
theorem dX11_column_136 : decode cX11_column 136 = .ok (.getfield 348, 3) := by decide +kernel
theorem dX11_column_139 : decode cX11_column 139 = .ok (.iconst 1, 1) := by decide +kernel
theorem dX11_column_140 : decode cX11_column 140 = .ok (.iadd, 1) := by decide +kernel
theorem dX11_column_141 : decode cX11_column 141 = .ok (.putfield 348, 3) := by decide +kernel
theorem dX11_column_144 : decode cX11_column 144 = .ok (.aload_n 0, 1) := by decide +kernel
theorem dX11_column_145 : decode cX11_column 145 = .ok (.getfield 348, 3) := by decide +kernel
theorem dX11_column_148 : decode cX11_column 148 = .ok (.iconst 1, 1) := by decide +kernel
theorem dX11_column_149 : decode cX11_column 149 = .ok (.isub, 1) := by decide +kernel
theorem dX11_column_150 : decode cX11_column 150 = .ok (.ireturn, 1) := by decide +kernel
def is_X11_column (Rt : np_Rt) (Th : np_Th) : List (Nat × np_Op) := [(0, np_ald 1 0), (1, np_ild 1 1), (2, nw_callV 11 2 sp_X11_tableOf 2 0 0 1 6), (5, np_ast 2 5), (7, np_ald 2 5), (9, np_ifnull 19), (12, np_ild 1 3), (13, nq_call 1 sp_X11_isSlot 1 0 0 1 6), (16, nq_ifne 30), (19, nq_throw Th 0), (30, np_ild 1 2), (31, nq_if (fun x => x < 0) 39), (34, np_ild 1 2), (35, np_push 1 (.int 3)), (36, nq_ic (fun x y => x ≤ y) 50), (39, nq_throw Th 1), (50, np_ild 2 4), (52, np_push 1 (.int 1)), (53, nq_ic (fun x y => x < y) 62), (56, np_ild 2 4), (58, np_push 1 (.int 5)), (59, nq_ic (fun x y => x ≤ y) 73), (62, nq_throw Th 1), (73, np_ald 1 0), (74, nw_getf 11 10), (77, np_ald 1 0), (78, nw_getf 11 9), (81, nw_alen), (82, nq_ic (fun x y => x < y) 96), (85, nq_throw Th 2), (96, np_ald 1 0), (97, nw_getf 11 9), (100, np_ald 1 0), (101, nw_getf 11 10), (104, nw_aald "NotationPress$Column"), (105, np_ast 2 6), (107, np_ald 2 6), (109, np_ifnonnull 123), (112, nq_throw Th 2), (123, np_ald 2 6), (125, np_ald 2 5), (127, np_ild 1 2), (128, np_ild 1 3), (129, np_ild 2 4), (131, nw_callV 0 5 sp_X0_become 5 0 0 1 6), (134, np_ald 1 0), (135, nq_dup), (136, nw_getf 11 10), (139, np_push 1 (.int 1)), (140, np_ib (fun x y => x + y)), (141, nw_putf 11 10 (.int)), (144, np_ald 1 0), (145, nw_getf 11 10), (148, np_push 1 (.int 1)), (149, np_ib (fun x y => x - y)), (150, np_ret Rt)]
set_option maxRecDepth 20000 in
theorem so_X11_column {X : np_Ctx} {Rt : np_Rt} {Th : np_Th} (hX : np_ok RX11 cX11_column 7 6 100 1 6 .ireturn X) (hR : ∀ st w ce sl, Rt st w ce sl → X.2.2.1 st w ce sl) (hT : ∀ i w ce sl, Th i w ce sl → X.2.2.2 i w ce sl) : ∀ q ∈ is_X11_column Rt Th, np_S X q.1 q.2 :=
  List.forall_mem_cons.mpr ⟨np_s_aload_n hX dX11_column_0 rfl, List.forall_mem_cons.mpr ⟨np_s_iload_n hX dX11_column_1 rfl, List.forall_mem_cons.mpr ⟨np_S.mono (op := np_callV 11 2 sp_X11_tableOf 2 0 0 1 6) (np_s_callV hX C_X11_tableOf dX11_column_2 (q := (RX11, TX11, 14)) rfl rfl gw977 gw63 gw974 gw976 gw18 ⟨by decide, by decide, by decide⟩ (by decide) (by decide)) nw_callV_le, List.forall_mem_cons.mpr ⟨np_s_astore hX dX11_column_5 (by decide), List.forall_mem_cons.mpr ⟨np_s_aload hX dX11_column_7, List.forall_mem_cons.mpr ⟨np_s_ifnull hX dX11_column_9 (by decide), List.forall_mem_cons.mpr ⟨np_s_iload_n hX dX11_column_12 rfl, List.forall_mem_cons.mpr ⟨np_S.mono (op := np_call 1 sp_X11_isSlot 1 0 0 1 6) (np_s_callS hX C_X11_isSlot dX11_column_13 gw515 gw63 gw513 gw514 ⟨by decide, by decide, by decide⟩ (by decide) (by decide)) nq_call_le, List.forall_mem_cons.mpr ⟨np_S.mono (op := np_ifne 30) (np_s_if_ne hX dX11_column_16 (by decide)) nq_ifne_le, List.forall_mem_cons.mpr ⟨np_S.mono (op := np_throw X.2.2.2 0) (np_s_throw hX ⟨96, 342, 100, _, gw516, gw78, sw1276, twX11_100, toX11_100_96, Or.inr ⟨dX11_column_19, dX11_column_22, dX11_column_23, dX11_column_26, dX11_column_29⟩⟩) (nq_throw_le hT), List.forall_mem_cons.mpr ⟨np_s_iload_n hX dX11_column_30 rfl, List.forall_mem_cons.mpr ⟨np_S.mono (op := np_if (fun x => x < 0) 39) (np_s_if_lt hX dX11_column_31 (by decide)) nq_if_le, List.forall_mem_cons.mpr ⟨np_s_iload_n hX dX11_column_34 rfl, List.forall_mem_cons.mpr ⟨np_s_iconst hX dX11_column_35 (by decide), List.forall_mem_cons.mpr ⟨np_S.mono (op := np_ic (fun x y => x ≤ y) 50) (np_s_icmp_le hX dX11_column_36 (by decide)) nq_ic_le, List.forall_mem_cons.mpr ⟨np_S.mono (op := np_throw X.2.2.2 1) (np_s_throw hX ⟨107, 344, 111, _, gw590, gw79, sw1277, twX11_111, toX11_111_107, Or.inr ⟨dX11_column_39, dX11_column_42, dX11_column_43, dX11_column_46, dX11_column_49⟩⟩) (nq_throw_le hT), List.forall_mem_cons.mpr ⟨np_s_iload hX dX11_column_50, List.forall_mem_cons.mpr ⟨np_s_iconst hX dX11_column_52 (by decide), List.forall_mem_cons.mpr ⟨np_S.mono (op := np_ic (fun x y => x < y) 62) (np_s_icmp_lt hX dX11_column_53 (by decide)) nq_ic_le, List.forall_mem_cons.mpr ⟨np_s_iload hX dX11_column_56, List.forall_mem_cons.mpr ⟨np_s_iconst hX dX11_column_58 (by decide), List.forall_mem_cons.mpr ⟨np_S.mono (op := np_ic (fun x y => x ≤ y) 73) (np_s_icmp_le hX dX11_column_59 (by decide)) nq_ic_le, List.forall_mem_cons.mpr ⟨np_S.mono (op := np_throw X.2.2.2 1) (np_s_throw hX ⟨107, 346, 111, _, gw590, gw79, sw1278, twX11_111, toX11_111_107, Or.inr ⟨dX11_column_62, dX11_column_65, dX11_column_66, dX11_column_69, dX11_column_72⟩⟩) (nq_throw_le hT), List.forall_mem_cons.mpr ⟨np_s_aload_n hX dX11_column_73 rfl, List.forall_mem_cons.mpr ⟨np_S.mono (op := np_getf 11 10) (np_s_getf hX dX11_column_74 (C := RX11) (T := TX11) (N := 14) rfl guX11 (by decide) gw451) nw_getf_le, List.forall_mem_cons.mpr ⟨np_s_aload_n hX dX11_column_77 rfl, List.forall_mem_cons.mpr ⟨np_S.mono (op := np_getf 11 9) (np_s_getf hX dX11_column_78 (C := RX11) (T := TX11) (N := 14) rfl guX11 (by decide) gw450) nw_getf_le, List.forall_mem_cons.mpr ⟨np_S.mono (op := np_alen) (np_s_alen hX dX11_column_81) nw_alen_le, List.forall_mem_cons.mpr ⟨np_S.mono (op := np_ic (fun x y => x < y) 96) (np_s_icmp_lt hX dX11_column_82 (by decide)) nq_ic_le, List.forall_mem_cons.mpr ⟨np_S.mono (op := np_throw X.2.2.2 2) (np_s_throw hX ⟨116, 351, 120, _, gw610, gw80, sw1279, twX11_120, toX11_120_116, Or.inr ⟨dX11_column_85, dX11_column_88, dX11_column_89, dX11_column_92, dX11_column_95⟩⟩) (nq_throw_le hT), List.forall_mem_cons.mpr ⟨np_s_aload_n hX dX11_column_96 rfl, List.forall_mem_cons.mpr ⟨np_S.mono (op := np_getf 11 9) (np_s_getf hX dX11_column_97 (C := RX11) (T := TX11) (N := 14) rfl guX11 (by decide) gw450) nw_getf_le, List.forall_mem_cons.mpr ⟨np_s_aload_n hX dX11_column_100 rfl, List.forall_mem_cons.mpr ⟨np_S.mono (op := np_getf 11 10) (np_s_getf hX dX11_column_101 (C := RX11) (T := TX11) (N := 14) rfl guX11 (by decide) gw451) nw_getf_le, List.forall_mem_cons.mpr ⟨np_S.mono (op := np_aald "NotationPress$Column") (np_s_aald hX dX11_column_104) nw_aald_le, List.forall_mem_cons.mpr ⟨np_s_astore hX dX11_column_105 (by decide), List.forall_mem_cons.mpr ⟨np_s_aload hX dX11_column_107, List.forall_mem_cons.mpr ⟨np_s_ifnonnull hX dX11_column_109 (by decide), List.forall_mem_cons.mpr ⟨np_S.mono (op := np_throw X.2.2.2 2) (np_s_throw hX ⟨116, 351, 120, _, gw610, gw80, sw1279, twX11_120, toX11_120_116, Or.inr ⟨dX11_column_112, dX11_column_115, dX11_column_116, dX11_column_119, dX11_column_122⟩⟩) (nq_throw_le hT), List.forall_mem_cons.mpr ⟨np_s_aload hX dX11_column_123, List.forall_mem_cons.mpr ⟨np_s_aload hX dX11_column_125, List.forall_mem_cons.mpr ⟨np_s_iload_n hX dX11_column_127 rfl, List.forall_mem_cons.mpr ⟨np_s_iload_n hX dX11_column_128 rfl, List.forall_mem_cons.mpr ⟨np_s_iload hX dX11_column_129, List.forall_mem_cons.mpr ⟨np_S.mono (op := np_callV 0 5 sp_X0_become 5 0 0 1 6) (np_s_callV hX C_X0_become dX11_column_131 (q := (RX0, TX0, 6)) rfl rfl gw1283 gw73 gw1280 gw1281 gw1282 ⟨by decide, by decide, by decide⟩ (by decide) (by decide)) nw_callV_le, List.forall_mem_cons.mpr ⟨np_s_aload_n hX dX11_column_134 rfl, List.forall_mem_cons.mpr ⟨np_S.mono (op := np_dup) (np_s_dup hX dX11_column_135) nq_dup_le, List.forall_mem_cons.mpr ⟨np_S.mono (op := np_getf 11 10) (np_s_getf hX dX11_column_136 (C := RX11) (T := TX11) (N := 14) rfl guX11 (by decide) gw451) nw_getf_le, List.forall_mem_cons.mpr ⟨np_s_iconst hX dX11_column_139 (by decide), List.forall_mem_cons.mpr ⟨np_s_iadd hX dX11_column_140, List.forall_mem_cons.mpr ⟨np_S.mono (op := np_putf 11 10 (.int)) (np_s_putf hX dX11_column_141 (C := RX11) (T := TX11) (N := 14) (ty0 := tyX11) rfl guX11 tyX11_ok nmX11 (by decide) gw451 rfl rfl) nw_putf_le, List.forall_mem_cons.mpr ⟨np_s_aload_n hX dX11_column_144 rfl, List.forall_mem_cons.mpr ⟨np_S.mono (op := np_getf 11 10) (np_s_getf hX dX11_column_145 (C := RX11) (T := TX11) (N := 14) rfl guX11 (by decide) gw451) nw_getf_le, List.forall_mem_cons.mpr ⟨np_s_iconst hX dX11_column_148 (by decide), List.forall_mem_cons.mpr ⟨np_s_isub hX dX11_column_149, List.forall_mem_cons.mpr ⟨np_S.mono (op := np_ret X.2.2.1) (np_s_ret hX dX11_column_150) (nq_ret_le hR), fun _ h => nomatch h⟩⟩⟩⟩⟩⟩⟩⟩⟩⟩⟩⟩⟩⟩⟩⟩⟩⟩⟩⟩⟩⟩⟩⟩⟩⟩⟩⟩⟩⟩⟩⟩⟩⟩⟩⟩⟩⟩⟩⟩⟩⟩⟩⟩⟩⟩⟩⟩⟩⟩⟩⟩⟩⟩⟩⟩
noncomputable def m_X11_column (S : pw_S) (i0 : Nat) (x1 : Int32) (x2 : Int32) (x3 : Int32) (x4 : Int32) : pw_R (Int32 ⊕ Nat) :=
 pw_b (m_X11_tableOf S i0 x1) fun S1 r4 =>
 pw_o r4 (
 (some (S1, .inr 0))) (fun j6 =>
 (pw_b (m_X11_isSlot S1 x3) fun S7 r10 =>
 if r10 = 0 then
 (some (S7, .inr 0))
 else
 (if x2 < 0 then
 (some (S7, .inr 1))
 else
 (if x2 ≤ 3 then
 (if x4 < 1 then
 (some (S7, .inr 1))
 else
 (if x4 ≤ 5 then
 (if (S7 61 i0 10) < 6 then
 (pw_c (np_inb (S7 61 i0 10) 6) <|
 pw_b (m_X0_become S7 (pw_dn 6 (S7 61 i0 10)) j6 x2 x3 x4) fun S13 r16 =>
 pw_l (pw_up S13 61 i0 (upd (S13 61 i0) 10 ((S13 61 i0 10) + 1))) fun S18 =>
 some (S18, .inl ((S18 61 i0 10) - 1)))
 else
 (some (S7, .inr 2)))
 else
 (some (S7, .inr 1))))
 else
 (some (S7, .inr 1))))))
def sp_X11_column : np_SpX := fun vs w Q QX => ∃ (q : Nat) (S : pw_S) (i0 : Nat) (x1 : Int32) (x2 : Int32) (x3 : Int32) (x4 : Int32), vs = [.ref (pw_pl 61 i0), .int x1, .int x2, .int x3, .int x4] ∧ pw_ok q 61 i0 = true ∧ pw_W q w S ∧ pw_p (m_X11_column S i0 x1 x2 x3 x4) (fun S' rx => ∀ f', pw_W q (w.1, f') S' → match rx with | .inl r => Q (some (.int r)) (w.1, f') | .inr e => QX e (w.1, f'))
set_option maxRecDepth 100000 in
set_option maxHeartbeats 8000000 in
theorem C_X11_column : np_CX yX11_column cX11_column 7 (some .int) 6 100 1 6 sp_X11_column := by
  refine np_ofX (by decide) (by decide) (by decide) ?_
  intro X vs w Q QX hsp hX hmn hRt hTh
  obtain ⟨q, S, i0, x1, x2, x3, x4, rfl, hi0, hW, h⟩ := hsp
  obtain ⟨n, f⟩ := w
  unfold m_X11_column at h
  have hR : ∀ st w ce sl, np_rq (some .int) 1 6 Q st w ce sl → X.2.2.1 st w ce sl := fun _ _ _ _ h => by rw [hRt]; exact h
  have hT : ∀ i w ce sl, np_thq 1 6 QX i w ce sl → X.2.2.2 i w ce sl := fun _ _ _ _ h => by rw [hTh]; exact h
  refine np_soundW (so_X11_column hX hR hT) [] 400 0 _ _ _ _ _ ?_
  conv => whnf
  refine np_rd_i (hW.g hi0) ?_
  conv => whnf
  refine ⟨q, S, i0, x1, rfl, hi0, hW, pw_bd h (fun S1 r4 h f2 hW3 ho5 => ?_)⟩
  rcases r4 with _ | j6
  · replace h := pw_on h
    conv => whnf
    exact ⟨Nat.le_of_ble_eq_true rfl, Nat.le_of_ble_eq_true rfl, pw_ps h _ hW3⟩
  · replace h := pw_os h
    replace ho5 : pw_ok q 54 j6 = true := ho5
    conv => whnf
    refine ⟨q, S1, x3, rfl, hW3, pw_bd h (fun S7 r10 h f8 hW9 => ?_)⟩
    conv => whnf
    refine pw_br h (fun _ h => ?_) (fun _ h => ?_)
    · conv => whnf
      exact ⟨Nat.le_of_ble_eq_true rfl, Nat.le_of_ble_eq_true rfl, pw_ps h _ hW9⟩
    · conv => whnf
      refine pw_br h (fun _ h => ?_) (fun _ h => ?_)
      · conv => whnf
        exact ⟨Nat.le_of_ble_eq_true rfl, Nat.le_of_ble_eq_true rfl, pw_ps h _ hW9⟩
      · conv => whnf
        refine pw_br h (fun _ h => ?_) (fun _ h => ?_)
        · conv => whnf
          refine pw_br h (fun _ h => ?_) (fun _ h => ?_)
          · conv => whnf
            exact ⟨Nat.le_of_ble_eq_true rfl, Nat.le_of_ble_eq_true rfl, pw_ps h _ hW9⟩
          · conv => whnf
            refine pw_br h (fun _ h => ?_) (fun _ h => ?_)
            · conv => whnf
              refine np_rd_i (hW9.g hi0) ?_
              conv => whnf
              refine np_rd_i (hW9.g hi0) ?_
              conv => whnf
              refine np_rd_i (hW9.g rfl) ?_
              conv => whnf
              refine pw_br h (fun _ h => ?_) (fun _ h => ?_)
              · conv => whnf
                refine np_rd_i (hW9.g hi0) ?_
                conv => whnf
                refine np_rd_i (hW9.g hi0) ?_
                conv => whnf
                refine np_rd_i (hW9.g rfl) ?_
                conv => whnf
                refine ⟨rfl, ?_⟩
                conv => whnf
                refine pw_ck h (fun hb12 h => ?_)
                conv => whnf
                refine np_rd_i (hW9.g (pw_okd (a := 55) (n := 6) rfl rfl rfl)) ?_
                conv => whnf
                refine ⟨q, S7, (pw_dn 6 (S7 61 i0 10)), j6, x2, x3, x4, rfl, (pw_okd (a := 55) (n := 6) rfl rfl rfl), ho5, hW9, pw_bd h (fun S13 r16 h f14 hW15 => ?_)⟩
                conv => whnf
                refine np_rd_i (hW15.g hi0) ?_
                conv => whnf
                refine np_rd_i (hW15.g hi0) ?_
                conv => whnf
                refine pw_wr (a := 61) (i := i0) (d := upd (S13 61 i0) 10 ((S13 61 i0 10) + 1)) hW15 hi0 rfl h (fun S18 f19 hW20 h => ?_)
                conv => whnf
                refine np_rd_i (hW20.g hi0) ?_
                conv => whnf
                exact ⟨Nat.le_of_ble_eq_true rfl, Nat.le_of_ble_eq_true rfl, trivial, pw_ps h _ hW20⟩
              · conv => whnf
                exact ⟨Nat.le_of_ble_eq_true rfl, Nat.le_of_ble_eq_true rfl, pw_ps h _ hW9⟩
            · conv => whnf
              exact ⟨Nat.le_of_ble_eq_true rfl, Nat.le_of_ble_eq_true rfl, pw_ps h _ hW9⟩
        · conv => whnf
          exact ⟨Nat.le_of_ble_eq_true rfl, Nat.le_of_ble_eq_true rfl, pw_ps h _ hW9⟩
theorem dX11_columnOf_0 : decode cX11_columnOf 0 = .ok (.iload_n 1, 1) := by decide +kernel
theorem dX11_columnOf_1 : decode cX11_columnOf 1 = .ok (.ifCond .lt 29, 3) := by decide +kernel
theorem dX11_columnOf_4 : decode cX11_columnOf 4 = .ok (.iload_n 1, 1) := by decide +kernel
theorem dX11_columnOf_5 : decode cX11_columnOf 5 = .ok (.aload_n 0, 1) := by decide +kernel
theorem dX11_columnOf_6 : decode cX11_columnOf 6 = .ok (.getfield 348, 3) := by decide +kernel
theorem dX11_columnOf_9 : decode cX11_columnOf 9 = .ok (.if_icmp .ge 21, 3) := by decide +kernel
theorem dX11_columnOf_12 : decode cX11_columnOf 12 = .ok (.iload_n 1, 1) := by decide +kernel
theorem dX11_columnOf_13 : decode cX11_columnOf 13 = .ok (.aload_n 0, 1) := by decide +kernel
theorem dX11_columnOf_14 : decode cX11_columnOf 14 = .ok (.getfield 67, 3) := by decide +kernel
theorem dX11_columnOf_17 : decode cX11_columnOf 17 = .ok (.arraylength, 1) := by decide +kernel
theorem dX11_columnOf_18 : decode cX11_columnOf 18 = .ok (.if_icmp .ge 12, 3) := by decide +kernel
theorem dX11_columnOf_21 : decode cX11_columnOf 21 = .ok (.aload_n 0, 1) := by decide +kernel
theorem dX11_columnOf_22 : decode cX11_columnOf 22 = .ok (.getfield 67, 3) := by decide +kernel
theorem dX11_columnOf_25 : decode cX11_columnOf 25 = .ok (.iload_n 1, 1) := by decide +kernel
theorem dX11_columnOf_26 : decode cX11_columnOf 26 = .ok (.aaload, 1) := by decide +kernel
theorem dX11_columnOf_27 : decode cX11_columnOf 27 = .ok (.goto 4, 3) := by decide +kernel
theorem dX11_columnOf_30 : decode cX11_columnOf 30 = .ok (.aconst_null, 1) := by decide +kernel
theorem dX11_columnOf_31 : decode cX11_columnOf 31 = .ok (.areturn, 1) := by decide +kernel
def is_X11_columnOf (Rt : np_Rt) : List (Nat × np_Op) := [(0, np_ild 1 1), (1, nq_if (fun x => x < 0) 30), (4, np_ild 1 1), (5, np_ald 1 0), (6, nw_getf 11 10), (9, nq_ic (fun x y => y ≤ x) 30), (12, np_ild 1 1), (13, np_ald 1 0), (14, nw_getf 11 9), (17, nw_alen), (18, nq_ic (fun x y => y ≤ x) 30), (21, np_ald 1 0), (22, nw_getf 11 9), (25, np_ild 1 1), (26, nw_aald "NotationPress$Column"), (27, np_goto 31), (30, np_push 1 .null), (31, np_ret Rt)]
set_option maxRecDepth 20000 in
theorem so_X11_columnOf {X : np_Ctx} {Rt : np_Rt} (hX : np_ok RX11 cX11_columnOf 2 0 0 0 0 .areturn X) (hR : ∀ st w ce sl, Rt st w ce sl → X.2.2.1 st w ce sl) : ∀ q ∈ is_X11_columnOf Rt, np_S X q.1 q.2 :=
  List.forall_mem_cons.mpr ⟨np_s_iload_n hX dX11_columnOf_0 rfl, List.forall_mem_cons.mpr ⟨np_S.mono (op := np_if (fun x => x < 0) 30) (np_s_if_lt hX dX11_columnOf_1 (by decide)) nq_if_le, List.forall_mem_cons.mpr ⟨np_s_iload_n hX dX11_columnOf_4 rfl, List.forall_mem_cons.mpr ⟨np_s_aload_n hX dX11_columnOf_5 rfl, List.forall_mem_cons.mpr ⟨np_S.mono (op := np_getf 11 10) (np_s_getf hX dX11_columnOf_6 (C := RX11) (T := TX11) (N := 14) rfl guX11 (by decide) gw451) nw_getf_le, List.forall_mem_cons.mpr ⟨np_S.mono (op := np_ic (fun x y => y ≤ x) 30) (np_s_icmp_ge hX dX11_columnOf_9 (by decide)) nq_ic_le, List.forall_mem_cons.mpr ⟨np_s_iload_n hX dX11_columnOf_12 rfl, List.forall_mem_cons.mpr ⟨np_s_aload_n hX dX11_columnOf_13 rfl, List.forall_mem_cons.mpr ⟨np_S.mono (op := np_getf 11 9) (np_s_getf hX dX11_columnOf_14 (C := RX11) (T := TX11) (N := 14) rfl guX11 (by decide) gw450) nw_getf_le, List.forall_mem_cons.mpr ⟨np_S.mono (op := np_alen) (np_s_alen hX dX11_columnOf_17) nw_alen_le, List.forall_mem_cons.mpr ⟨np_S.mono (op := np_ic (fun x y => y ≤ x) 30) (np_s_icmp_ge hX dX11_columnOf_18 (by decide)) nq_ic_le, List.forall_mem_cons.mpr ⟨np_s_aload_n hX dX11_columnOf_21 rfl, List.forall_mem_cons.mpr ⟨np_S.mono (op := np_getf 11 9) (np_s_getf hX dX11_columnOf_22 (C := RX11) (T := TX11) (N := 14) rfl guX11 (by decide) gw450) nw_getf_le, List.forall_mem_cons.mpr ⟨np_s_iload_n hX dX11_columnOf_25 rfl, List.forall_mem_cons.mpr ⟨np_S.mono (op := np_aald "NotationPress$Column") (np_s_aald hX dX11_columnOf_26) nw_aald_le, List.forall_mem_cons.mpr ⟨np_s_goto hX dX11_columnOf_27 (by decide), List.forall_mem_cons.mpr ⟨np_s_null hX dX11_columnOf_30, List.forall_mem_cons.mpr ⟨np_S.mono (op := np_ret X.2.2.1) (np_s_ret hX dX11_columnOf_31) (nq_ret_le hR), fun _ h => nomatch h⟩⟩⟩⟩⟩⟩⟩⟩⟩⟩⟩⟩⟩⟩⟩⟩⟩⟩
noncomputable def m_X11_columnOf (S : pw_S) (i0 : Nat) (x1 : Int32) : pw_R (Option Nat) :=
 if x1 < 0 then
 (some (S, none))
 else
 (if (S 61 i0 10) ≤ x1 then
 (some (S, none))
 else
 (if 6 ≤ x1 then
 (some (S, none))
 else
 (pw_c (np_inb x1 6) <|
 some (S, some (pw_dn 6 x1)))))
def sp_X11_columnOf : np_Sp := fun vs w Q => ∃ (q : Nat) (S : pw_S) (i0 : Nat) (x1 : Int32), vs = [.ref (pw_pl 61 i0), .int x1] ∧ pw_ok q 61 i0 = true ∧ pw_W q w S ∧ pw_p (m_X11_columnOf S i0 x1) (fun S' r => ∀ f', pw_W q (w.1, f') S' → pw_oo q 55 r = true → Q (some (pw_v 55 r)) (w.1, f'))
set_option maxRecDepth 100000 in
set_option maxHeartbeats 8000000 in
theorem C_X11_columnOf : np_C yX11_columnOf cX11_columnOf 2 (some (.object "NotationPress$Column")) 0 0 0 0 sp_X11_columnOf := by
  refine np_of (by decide) ?_
  intro X vs w Q hsp hX hmn hRt hlt
  obtain ⟨q, S, i0, x1, rfl, hi0, hW, h⟩ := hsp
  obtain ⟨n, f⟩ := w
  unfold m_X11_columnOf at h
  have hR : ∀ st w ce sl, np_rt (some (.object "NotationPress$Column")) 0 0 Q st w ce sl → X.2.2.1 st w ce sl := fun _ _ _ _ h => by rw [hRt]; exact h
  refine np_soundW (so_X11_columnOf hX hR) [] 400 0 _ _ _ _ _ ?_
  conv => whnf
  refine pw_br h (fun _ h => ?_) (fun _ h => ?_)
  · conv => whnf
    exact ⟨Nat.le_of_ble_eq_true rfl, Nat.le_of_ble_eq_true rfl, Or.inl rfl, _, fun _ _ h9 => h9, pw_ps h _ hW rfl⟩
  · conv => whnf
    refine np_rd_i (hW.g hi0) ?_
    conv => whnf
    refine pw_br h (fun _ h => ?_) (fun _ h => ?_)
    · conv => whnf
      exact ⟨Nat.le_of_ble_eq_true rfl, Nat.le_of_ble_eq_true rfl, Or.inl rfl, _, fun _ _ h9 => h9, pw_ps h _ hW rfl⟩
    · conv => whnf
      refine np_rd_i (hW.g hi0) ?_
      conv => whnf
      refine np_rd_i (hW.g rfl) ?_
      conv => whnf
      refine pw_br h (fun _ h => ?_) (fun _ h => ?_)
      · conv => whnf
        exact ⟨Nat.le_of_ble_eq_true rfl, Nat.le_of_ble_eq_true rfl, Or.inl rfl, _, fun _ _ h9 => h9, pw_ps h _ hW rfl⟩
      · conv => whnf
        refine np_rd_i (hW.g hi0) ?_
        conv => whnf
        refine np_rd_i (hW.g rfl) ?_
        conv => whnf
        refine ⟨rfl, ?_⟩
        conv => whnf
        refine pw_ck h (fun hb1 h => ?_)
        conv => whnf
        exact ⟨Nat.le_of_ble_eq_true rfl, Nat.le_of_ble_eq_true rfl, Or.inr ⟨_, rfl⟩, _, fun _ _ h9 => h9, pw_ps h _ hW (pw_okd (a := 55) (n := 6) rfl rfl rfl)⟩
theorem dX11_derived_0 : decode cX11_derived 0 = .ok (.aload_n 0, 1) := by decide +kernel
theorem dX11_derived_1 : decode cX11_derived 1 = .ok (.iload_n 1, 1) := by decide +kernel
theorem dX11_derived_2 : decode cX11_derived 2 = .ok (.invokevirtual 357, 3) := by decide +kernel
theorem dX11_derived_5 : decode cX11_derived 5 = .ok (.astore_n 3, 1) := by decide +kernel
theorem dX11_derived_6 : decode cX11_derived 6 = .ok (.aload_n 3, 1) := by decide +kernel
theorem dX11_derived_7 : decode cX11_derived 7 = .ok (.ifnull 11, 3) := by decide +kernel
theorem dX11_derived_10 : decode cX11_derived 10 = .ok (.aload_n 3, 1) := by decide +kernel
theorem dX11_derived_11 : decode cX11_derived 11 = .ok (.iload_n 2, 1) := by decide +kernel
theorem dX11_derived_12 : decode cX11_derived 12 = .ok (.invokevirtual 361, 3) := by decide +kernel
theorem dX11_derived_15 : decode cX11_derived 15 = .ok (.ifCond .ne 14, 3) := by decide +kernel
theorem dX11_derived_18 : decode cX11_derived 18 = .ok (.new 96, 3) := by decide +kernel
theorem dX11_derived_21 : decode cX11_derived 21 = .ok (.dup, 1) := by decide +kernel
theorem dX11_derived_22 : decode cX11_derived 22 = .ok (.ldc_w 362, 3) := by decide +kernel
theorem dX11_derived_25 : decode cX11_derived 25 = .ok (.invokespecial 100, 3) := by decide +kernel
theorem dX11_derived_28 : decode cX11_derived 28 = .ok (.athrow, 1) := by decide +kernel
theorem dX11_derived_29 : decode cX11_derived 29 = .ok (.aload_n 3, 1) := by decide +kernel
theorem dX11_derived_30 : decode cX11_derived 30 = .ok (.iload_n 2, 1) := by decide +kernel
theorem dX11_derived_31 : decode cX11_derived 31 = .ok (.invokevirtual 364, 3) := by decide +kernel
theorem dX11_derived_34 : decode cX11_derived 34 = .ok (.ireturn, 1) := by decide +kernel
def is_X11_derived (Rt : np_Rt) (Th : np_Th) : List (Nat × np_Op) := [(0, np_ald 1 0), (1, np_ild 1 1), (2, nw_callV 11 2 sp_X11_columnOf 2 0 0 1 6), (5, np_ast 1 3), (6, np_ald 1 3), (7, np_ifnull 18), (10, np_ald 1 3), (11, np_ild 1 2), (12, nw_callV 0 2 sp_X0_hasRow 2 0 0 1 6), (15, nq_ifne 29), (18, nq_throw Th 0), (29, np_ald 1 3), (30, np_ild 1 2), (31, nw_callV 0 2 sp_X0_fromRow 4 0 0 1 6), (34, np_ret Rt)]
set_option maxRecDepth 20000 in
theorem so_X11_derived {X : np_Ctx} {Rt : np_Rt} {Th : np_Th} (hX : np_ok RX11 cX11_derived 4 6 110 1 6 .ireturn X) (hR : ∀ st w ce sl, Rt st w ce sl → X.2.2.1 st w ce sl) (hT : ∀ i w ce sl, Th i w ce sl → X.2.2.2 i w ce sl) : ∀ q ∈ is_X11_derived Rt Th, np_S X q.1 q.2 :=
  List.forall_mem_cons.mpr ⟨np_s_aload_n hX dX11_derived_0 rfl, List.forall_mem_cons.mpr ⟨np_s_iload_n hX dX11_derived_1 rfl, List.forall_mem_cons.mpr ⟨np_S.mono (op := np_callV 11 2 sp_X11_columnOf 2 0 0 1 6) (np_s_callV hX C_X11_columnOf dX11_derived_2 (q := (RX11, TX11, 14)) rfl rfl gw1153 gw63 gw1150 gw1152 gw35 ⟨by decide, by decide, by decide⟩ (by decide) (by decide)) nw_callV_le, List.forall_mem_cons.mpr ⟨np_s_astore_n hX dX11_derived_5 rfl (by decide), List.forall_mem_cons.mpr ⟨np_s_aload_n hX dX11_derived_6 rfl, List.forall_mem_cons.mpr ⟨np_s_ifnull hX dX11_derived_7 (by decide), List.forall_mem_cons.mpr ⟨np_s_aload_n hX dX11_derived_10 rfl, List.forall_mem_cons.mpr ⟨np_s_iload_n hX dX11_derived_11 rfl, List.forall_mem_cons.mpr ⟨np_S.mono (op := np_callV 0 2 sp_X0_hasRow 2 0 0 1 6) (np_s_callV hX C_X0_hasRow dX11_derived_12 (q := (RX0, TX0, 6)) rfl rfl gw1157 gw73 gw1154 gw1155 gw1156 ⟨by decide, by decide, by decide⟩ (by decide) (by decide)) nw_callV_le, List.forall_mem_cons.mpr ⟨np_S.mono (op := np_ifne 29) (np_s_if_ne hX dX11_derived_15 (by decide)) nq_ifne_le, List.forall_mem_cons.mpr ⟨np_S.mono (op := np_throw X.2.2.2 0) (np_s_throw hX ⟨96, 362, 100, _, gw516, gw78, sw1159, twX11_100, toX11_100_96, Or.inr ⟨dX11_derived_18, dX11_derived_21, dX11_derived_22, dX11_derived_25, dX11_derived_28⟩⟩) (nq_throw_le hT), List.forall_mem_cons.mpr ⟨np_s_aload_n hX dX11_derived_29 rfl, List.forall_mem_cons.mpr ⟨np_s_iload_n hX dX11_derived_30 rfl, List.forall_mem_cons.mpr ⟨np_S.mono (op := np_callV 0 2 sp_X0_fromRow 4 0 0 1 6) (np_s_callV hX C_X0_fromRow dX11_derived_31 (q := (RX0, TX0, 6)) rfl rfl gw1163 gw73 gw1160 gw1161 gw1162 ⟨by decide, by decide, by decide⟩ (by decide) (by decide)) nw_callV_le, List.forall_mem_cons.mpr ⟨np_S.mono (op := np_ret X.2.2.1) (np_s_ret hX dX11_derived_34) (nq_ret_le hR), fun _ h => nomatch h⟩⟩⟩⟩⟩⟩⟩⟩⟩⟩⟩⟩⟩⟩⟩
noncomputable def m_X11_derived (S : pw_S) (i0 : Nat) (x1 : Int32) (x2 : Int32) : pw_R (Int32 ⊕ Nat) :=
 pw_b (m_X11_columnOf S i0 x1) fun S1 r4 =>
 pw_o r4 (
 (some (S1, .inr 0))) (fun j6 =>
 (pw_b (m_X0_hasRow S1 j6 x2) fun S7 r10 =>
 if r10 = 0 then
 (some (S7, .inr 0))
 else
 (pw_b (m_X0_fromRow S7 j6 x2) fun S12 r15 =>
 some (S12, .inl r15))))
def sp_X11_derived : np_SpX := fun vs w Q QX => ∃ (q : Nat) (S : pw_S) (i0 : Nat) (x1 : Int32) (x2 : Int32), vs = [.ref (pw_pl 61 i0), .int x1, .int x2] ∧ pw_ok q 61 i0 = true ∧ pw_W q w S ∧ pw_p (m_X11_derived S i0 x1 x2) (fun S' rx => ∀ f', pw_W q (w.1, f') S' → match rx with | .inl r => Q (some (.int r)) (w.1, f') | .inr e => QX e (w.1, f'))
set_option maxRecDepth 100000 in
set_option maxHeartbeats 8000000 in
theorem C_X11_derived : np_CX yX11_derived cX11_derived 4 (some .int) 6 110 1 6 sp_X11_derived := by
  refine np_ofX (by decide) (by decide) (by decide) ?_
  intro X vs w Q QX hsp hX hmn hRt hTh
  obtain ⟨q, S, i0, x1, x2, rfl, hi0, hW, h⟩ := hsp
  obtain ⟨n, f⟩ := w
  unfold m_X11_derived at h
  have hR : ∀ st w ce sl, np_rq (some .int) 1 6 Q st w ce sl → X.2.2.1 st w ce sl := fun _ _ _ _ h => by rw [hRt]; exact h
  have hT : ∀ i w ce sl, np_thq 1 6 QX i w ce sl → X.2.2.2 i w ce sl := fun _ _ _ _ h => by rw [hTh]; exact h
  refine np_soundW (so_X11_derived hX hR hT) [] 400 0 _ _ _ _ _ ?_
  conv => whnf
  refine np_rd_i (hW.g hi0) ?_
  conv => whnf
  refine ⟨q, S, i0, x1, rfl, hi0, hW, pw_bd h (fun S1 r4 h f2 hW3 ho5 => ?_)⟩
  rcases r4 with _ | j6
  · replace h := pw_on h
    conv => whnf
    exact ⟨Nat.le_of_ble_eq_true rfl, Nat.le_of_ble_eq_true rfl, pw_ps h _ hW3⟩
  · replace h := pw_os h
    replace ho5 : pw_ok q 55 j6 = true := ho5
    conv => whnf
    refine np_rd_i (hW3.g ho5) ?_
    conv => whnf
    refine ⟨q, S1, j6, x2, rfl, ho5, hW3, pw_bd h (fun S7 r10 h f8 hW9 => ?_)⟩
    conv => whnf
    refine pw_br h (fun _ h => ?_) (fun _ h => ?_)
    · conv => whnf
      exact ⟨Nat.le_of_ble_eq_true rfl, Nat.le_of_ble_eq_true rfl, pw_ps h _ hW9⟩
    · conv => whnf
      refine np_rd_i (hW9.g ho5) ?_
      conv => whnf
      refine ⟨q, S7, j6, x2, rfl, ho5, hW9, pw_bd h (fun S12 r15 h f13 hW14 => ?_)⟩
      conv => whnf
      exact ⟨Nat.le_of_ble_eq_true rfl, Nat.le_of_ble_eq_true rfl, trivial, pw_ps h _ hW14⟩
theorem dX11_derivedByBatch_0 : decode cX11_derivedByBatch 0 = .ok (.aload_n 0, 1) := by decide +kernel
theorem dX11_derivedByBatch_1 : decode cX11_derivedByBatch 1 = .ok (.iload_n 1, 1) := by decide +kernel
theorem dX11_derivedByBatch_2 : decode cX11_derivedByBatch 2 = .ok (.invokevirtual 357, 3) := by decide +kernel
theorem dX11_derivedByBatch_5 : decode cX11_derivedByBatch 5 = .ok (.astore_n 3, 1) := by decide +kernel
theorem dX11_derivedByBatch_6 : decode cX11_derivedByBatch 6 = .ok (.aload_n 3, 1) := by decide +kernel
theorem dX11_derivedByBatch_7 : decode cX11_derivedByBatch 7 = .ok (.ifnull 11, 3) := by decide +kernel
theorem dX11_derivedByBatch_10 : decode cX11_derivedByBatch 10 = .ok (.aload_n 3, 1) := by decide +kernel
theorem dX11_derivedByBatch_11 : decode cX11_derivedByBatch 11 = .ok (.iload_n 2, 1) := by decide +kernel
theorem dX11_derivedByBatch_12 : decode cX11_derivedByBatch 12 = .ok (.invokevirtual 361, 3) := by decide +kernel
theorem dX11_derivedByBatch_15 : decode cX11_derivedByBatch 15 = .ok (.ifCond .ne 14, 3) := by decide +kernel
theorem dX11_derivedByBatch_18 : decode cX11_derivedByBatch 18 = .ok (.new 96, 3) := by decide +kernel
theorem dX11_derivedByBatch_21 : decode cX11_derivedByBatch 21 = .ok (.dup, 1) := by decide +kernel
theorem dX11_derivedByBatch_22 : decode cX11_derivedByBatch 22 = .ok (.ldc_w 362, 3) := by decide +kernel
theorem dX11_derivedByBatch_25 : decode cX11_derivedByBatch 25 = .ok (.invokespecial 100, 3) := by decide +kernel
theorem dX11_derivedByBatch_28 : decode cX11_derivedByBatch 28 = .ok (.athrow, 1) := by decide +kernel
theorem dX11_derivedByBatch_29 : decode cX11_derivedByBatch 29 = .ok (.aload_n 3, 1) := by decide +kernel
theorem dX11_derivedByBatch_30 : decode cX11_derivedByBatch 30 = .ok (.iload_n 2, 1) := by decide +kernel
theorem dX11_derivedByBatch_31 : decode cX11_derivedByBatch 31 = .ok (.invokevirtual 367, 3) := by decide +kernel
theorem dX11_derivedByBatch_34 : decode cX11_derivedByBatch 34 = .ok (.ireturn, 1) := by decide +kernel
def is_X11_derivedByBatch (Rt : np_Rt) (Th : np_Th) : List (Nat × np_Op) := [(0, np_ald 1 0), (1, np_ild 1 1), (2, nw_callV 11 2 sp_X11_columnOf 2 0 0 1 6), (5, np_ast 1 3), (6, np_ald 1 3), (7, np_ifnull 18), (10, np_ald 1 3), (11, np_ild 1 2), (12, nw_callV 0 2 sp_X0_hasRow 2 0 0 1 6), (15, nq_ifne 29), (18, nq_throw Th 0), (29, np_ald 1 3), (30, np_ild 1 2), (31, nw_callV 0 2 sp_X0_fromBatch 4 0 0 1 6), (34, np_ret Rt)]
set_option maxRecDepth 20000 in
theorem so_X11_derivedByBatch {X : np_Ctx} {Rt : np_Rt} {Th : np_Th} (hX : np_ok RX11 cX11_derivedByBatch 4 6 132 1 6 .ireturn X) (hR : ∀ st w ce sl, Rt st w ce sl → X.2.2.1 st w ce sl) (hT : ∀ i w ce sl, Th i w ce sl → X.2.2.2 i w ce sl) : ∀ q ∈ is_X11_derivedByBatch Rt Th, np_S X q.1 q.2 :=
  List.forall_mem_cons.mpr ⟨np_s_aload_n hX dX11_derivedByBatch_0 rfl, List.forall_mem_cons.mpr ⟨np_s_iload_n hX dX11_derivedByBatch_1 rfl, List.forall_mem_cons.mpr ⟨np_S.mono (op := np_callV 11 2 sp_X11_columnOf 2 0 0 1 6) (np_s_callV hX C_X11_columnOf dX11_derivedByBatch_2 (q := (RX11, TX11, 14)) rfl rfl gw1153 gw63 gw1150 gw1152 gw35 ⟨by decide, by decide, by decide⟩ (by decide) (by decide)) nw_callV_le, List.forall_mem_cons.mpr ⟨np_s_astore_n hX dX11_derivedByBatch_5 rfl (by decide), List.forall_mem_cons.mpr ⟨np_s_aload_n hX dX11_derivedByBatch_6 rfl, List.forall_mem_cons.mpr ⟨np_s_ifnull hX dX11_derivedByBatch_7 (by decide), List.forall_mem_cons.mpr ⟨np_s_aload_n hX dX11_derivedByBatch_10 rfl, List.forall_mem_cons.mpr ⟨np_s_iload_n hX dX11_derivedByBatch_11 rfl, List.forall_mem_cons.mpr ⟨np_S.mono (op := np_callV 0 2 sp_X0_hasRow 2 0 0 1 6) (np_s_callV hX C_X0_hasRow dX11_derivedByBatch_12 (q := (RX0, TX0, 6)) rfl rfl gw1157 gw73 gw1154 gw1155 gw1156 ⟨by decide, by decide, by decide⟩ (by decide) (by decide)) nw_callV_le, List.forall_mem_cons.mpr ⟨np_S.mono (op := np_ifne 29) (np_s_if_ne hX dX11_derivedByBatch_15 (by decide)) nq_ifne_le, List.forall_mem_cons.mpr ⟨np_S.mono (op := np_throw X.2.2.2 0) (np_s_throw hX ⟨96, 362, 100, _, gw516, gw78, sw1159, twX11_100, toX11_100_96, Or.inr ⟨dX11_derivedByBatch_18, dX11_derivedByBatch_21, dX11_derivedByBatch_22, dX11_derivedByBatch_25, dX11_derivedByBatch_28⟩⟩) (nq_throw_le hT), List.forall_mem_cons.mpr ⟨np_s_aload_n hX dX11_derivedByBatch_29 rfl, List.forall_mem_cons.mpr ⟨np_s_iload_n hX dX11_derivedByBatch_30 rfl, List.forall_mem_cons.mpr ⟨np_S.mono (op := np_callV 0 2 sp_X0_fromBatch 4 0 0 1 6) (np_s_callV hX C_X0_fromBatch dX11_derivedByBatch_31 (q := (RX0, TX0, 6)) rfl rfl gw1510 gw73 gw1507 gw1508 gw1509 ⟨by decide, by decide, by decide⟩ (by decide) (by decide)) nw_callV_le, List.forall_mem_cons.mpr ⟨np_S.mono (op := np_ret X.2.2.1) (np_s_ret hX dX11_derivedByBatch_34) (nq_ret_le hR), fun _ h => nomatch h⟩⟩⟩⟩⟩⟩⟩⟩⟩⟩⟩⟩⟩⟩⟩
noncomputable def m_X11_derivedByBatch (S : pw_S) (i0 : Nat) (x1 : Int32) (x2 : Int32) : pw_R (Int32 ⊕ Nat) :=
 pw_b (m_X11_columnOf S i0 x1) fun S1 r4 =>
 pw_o r4 (
 (some (S1, .inr 0))) (fun j6 =>
 (pw_b (m_X0_hasRow S1 j6 x2) fun S7 r10 =>
 if r10 = 0 then
 (some (S7, .inr 0))
 else
 (pw_b (m_X0_fromBatch S7 j6 x2) fun S12 r15 =>
 some (S12, .inl r15))))
def sp_X11_derivedByBatch : np_SpX := fun vs w Q QX => ∃ (q : Nat) (S : pw_S) (i0 : Nat) (x1 : Int32) (x2 : Int32), vs = [.ref (pw_pl 61 i0), .int x1, .int x2] ∧ pw_ok q 61 i0 = true ∧ pw_W q w S ∧ pw_p (m_X11_derivedByBatch S i0 x1 x2) (fun S' rx => ∀ f', pw_W q (w.1, f') S' → match rx with | .inl r => Q (some (.int r)) (w.1, f') | .inr e => QX e (w.1, f'))
set_option maxRecDepth 100000 in
set_option maxHeartbeats 8000000 in
theorem C_X11_derivedByBatch : np_CX yX11_derivedByBatch cX11_derivedByBatch 4 (some .int) 6 132 1 6 sp_X11_derivedByBatch := by
  refine np_ofX (by decide) (by decide) (by decide) ?_
  intro X vs w Q QX hsp hX hmn hRt hTh
  obtain ⟨q, S, i0, x1, x2, rfl, hi0, hW, h⟩ := hsp
  obtain ⟨n, f⟩ := w
  unfold m_X11_derivedByBatch at h
  have hR : ∀ st w ce sl, np_rq (some .int) 1 6 Q st w ce sl → X.2.2.1 st w ce sl := fun _ _ _ _ h => by rw [hRt]; exact h
  have hT : ∀ i w ce sl, np_thq 1 6 QX i w ce sl → X.2.2.2 i w ce sl := fun _ _ _ _ h => by rw [hTh]; exact h
  refine np_soundW (so_X11_derivedByBatch hX hR hT) [] 400 0 _ _ _ _ _ ?_
  conv => whnf
  refine np_rd_i (hW.g hi0) ?_
  conv => whnf
  refine ⟨q, S, i0, x1, rfl, hi0, hW, pw_bd h (fun S1 r4 h f2 hW3 ho5 => ?_)⟩
  rcases r4 with _ | j6
  · replace h := pw_on h
    conv => whnf
    exact ⟨Nat.le_of_ble_eq_true rfl, Nat.le_of_ble_eq_true rfl, pw_ps h _ hW3⟩
  · replace h := pw_os h
    replace ho5 : pw_ok q 55 j6 = true := ho5
    conv => whnf
    refine np_rd_i (hW3.g ho5) ?_
    conv => whnf
    refine ⟨q, S1, j6, x2, rfl, ho5, hW3, pw_bd h (fun S7 r10 h f8 hW9 => ?_)⟩
    conv => whnf
    refine pw_br h (fun _ h => ?_) (fun _ h => ?_)
    · conv => whnf
      exact ⟨Nat.le_of_ble_eq_true rfl, Nat.le_of_ble_eq_true rfl, pw_ps h _ hW9⟩
    · conv => whnf
      refine np_rd_i (hW9.g ho5) ?_
      conv => whnf
      refine ⟨q, S7, j6, x2, rfl, ho5, hW9, pw_bd h (fun S12 r15 h f13 hW14 => ?_)⟩
      conv => whnf
      exact ⟨Nat.le_of_ble_eq_true rfl, Nat.le_of_ble_eq_true rfl, trivial, pw_ps h _ hW14⟩
theorem dX11_change_0 : decode cX11_change 0 = .ok (.iload_n 2, 1) := by decide +kernel
theorem dX11_change_1 : decode cX11_change 1 = .ok (.invokestatic 93, 3) := by decide +kernel
theorem dX11_change_4 : decode cX11_change 4 = .ok (.ifCond .eq 32, 3) := by decide +kernel
theorem dX11_change_7 : decode cX11_change 7 = .ok (.iload_n 1, 1) := by decide +kernel
theorem dX11_change_8 : decode cX11_change 8 = .ok (.iconst 1, 1) := by decide +kernel
theorem dX11_change_9 : decode cX11_change 9 = .ok (.if_icmp .eq 10, 3) := by decide +kernel
theorem dX11_change_12 : decode cX11_change 12 = .ok (.iload_n 3, 1) := by decide +kernel
theorem dX11_change_13 : decode cX11_change 13 = .ok (.invokestatic 93, 3) := by decide +kernel
theorem dX11_change_16 : decode cX11_change 16 = .ok (.ifCond .eq 20, 3) := by decide +kernel
theorem dX11_change_19 : decode cX11_change 19 = .ok (.iload_n 1, 1) := by decide +kernel
theorem dX11_change_20 : decode cX11_change 20 = .ok (.iconst 4, 1) := by decide +kernel
theorem dX11_change_21 : decode cX11_change 21 = .ok (.if_icmp .ne 11, 3) := by decide +kernel
theorem dX11_change_24 : decode cX11_change 24 = .ok (.iload 4, 2) := by decide +kernel
theorem dX11_change_26 : decode cX11_change 26 = .ok (.invokestatic 93, 3) := by decide +kernel
theorem dX11_change_29 : decode cX11_change 29 = .ok (.ifCond .eq 7, 3) := by decide +kernel
theorem dX11_change_32 : decode cX11_change 32 = .ok (.iconst 1, 1) := by decide +kernel
theorem dX11_change_33 : decode cX11_change 33 = .ok (.goto 4, 3) := by decide +kernel
theorem dX11_change_36 : decode cX11_change 36 = .ok (.iconst 0, 1) := by decide +kernel
theorem dX11_change_37 : decode cX11_change 37 = .ok (.istore 5, 2) := by decide +kernel
theorem dX11_change_39 : decode cX11_change 39 = .ok (.iload 5, 2) := by decide +kernel
theorem dX11_change_41 : decode cX11_change 41 = .ok (.ifCond .ne 13, 3) := by decide +kernel
theorem dX11_change_44 : decode cX11_change 44 = .ok (.new 96, 3) := by decide +kernel
theorem dX11_change_47 : decode cX11_change 47 = .ok (.dup, 1) := by decide +kernel
theorem dX11_change_48 : decode cX11_change 48 = .ok (.ldc 98, 2) := by decide +kernel
theorem dX11_change_50 : decode cX11_change 50 = .ok (.invokespecial 100, 3) := by decide +kernel
theorem dX11_change_53 : decode cX11_change 53 = .ok (.athrow, 1) := by decide +kernel
theorem dX11_change_54 : decode cX11_change 54 = .ok (.iload_n 1, 1) := by decide +kernel
theorem dX11_change_55 : decode cX11_change 55 = .ok (.iload_n 3, 1) := by decide +kernel
theorem dX11_change_56 : decode cX11_change 56 = .ok (.iload 4, 2) := by decide +kernel
theorem dX11_change_58 : decode cX11_change 58 = .ok (.invokestatic 370, 3) := by decide +kernel
theorem dX11_change_61 : decode cX11_change 61 = .ok (.ifCond .ne 14, 3) := by decide +kernel
theorem dX11_change_64 : decode cX11_change 64 = .ok (.new 107, 3) := by decide +kernel
theorem dX11_change_67 : decode cX11_change 67 = .ok (.dup, 1) := by decide +kernel
theorem dX11_change_68 : decode cX11_change 68 = .ok (.ldc_w 373, 3) := by decide +kernel
theorem dX11_change_71 : decode cX11_change 71 = .ok (.invokespecial 111, 3) := by decide +kernel
theorem dX11_change_74 : decode cX11_change 74 = .ok (.athrow, 1) := by decide +kernel
theorem dX11_change_75 : decode cX11_change 75 = .ok (.aload_n 0, 1) := by decide +kernel
theorem dX11_change_76 : decode cX11_change 76 = .ok (.getfield 74, 3) := by decide +kernel
theorem dX11_change_79 : decode cX11_change 79 = .ok (.iload_n 1, 1) := by decide +kernel
theorem dX11_change_80 : decode cX11_change 80 = .ok (.iload_n 2, 1) := by decide +kernel
theorem dX11_change_81 : decode cX11_change 81 = .ok (.iload_n 3, 1) := by decide +kernel
theorem dX11_change_82 : decode cX11_change 82 = .ok (.iload 4, 2) := by decide +kernel
theorem dX11_change_84 : decode cX11_change 84 = .ok (.invokevirtual 375, 3) := by decide +kernel
theorem dX11_change_87 : decode cX11_change 87 = .ok (.aload_n 0, 1) := by decide +kernel
theorem dX11_change_88 : decode cX11_change 88 = .ok (.getfield 74, 3) := by decide +kernel
theorem dX11_change_91 : decode cX11_change 91 = .ok (.invokevirtual 376, 3) := by decide +kernel
theorem dX11_change_94 : decode cX11_change 94 = .ok (.ireturn, 1) := by decide +kernel
def is_X11_change (Rt : np_Rt) (Th : np_Th) : List (Nat × np_Op) := [(0, np_ild 1 2), (1, nq_call 1 sp_X11_isSlot 1 0 0 1 6), (4, nq_if (fun x => x = 0) 36), (7, np_ild 1 1), (8, np_push 1 (.int 1)), (9, nq_ic (fun x y => x = y) 19), (12, np_ild 1 3), (13, nq_call 1 sp_X11_isSlot 1 0 0 1 6), (16, nq_if (fun x => x = 0) 36), (19, np_ild 1 1), (20, np_push 1 (.int 4)), (21, nq_icne 32), (24, np_ild 2 4), (26, nq_call 1 sp_X11_isSlot 1 0 0 1 6), (29, nq_if (fun x => x = 0) 36), (32, np_push 1 (.int 1)), (33, np_goto 37), (36, np_push 1 (.int 0)), (37, nw_ist 2 5), (39, np_ild 2 5), (41, nq_ifne 54), (44, nq_throw Th 0), (54, np_ild 1 1), (55, np_ild 1 3), (56, np_ild 2 4), (58, nq_call 3 sp_X10_inRange 3 0 0 1 6), (61, nq_ifne 75), (64, nq_throw Th 1), (75, np_ald 1 0), (76, nw_getf 11 11), (79, np_ild 1 1), (80, np_ild 1 2), (81, np_ild 1 3), (82, np_ild 2 4), (84, nw_callV 10 5 sp_X10_add 5 0 0 1 6), (87, np_ald 1 0), (88, nw_getf 11 11), (91, nw_callV 10 1 sp_X10_size 3 0 0 1 6), (94, np_ret Rt)]
set_option maxRecDepth 20000 in
theorem so_X11_change {X : np_Ctx} {Rt : np_Rt} {Th : np_Th} (hX : np_ok RX11 cX11_change 6 6 100 1 6 .ireturn X) (hR : ∀ st w ce sl, Rt st w ce sl → X.2.2.1 st w ce sl) (hT : ∀ i w ce sl, Th i w ce sl → X.2.2.2 i w ce sl) : ∀ q ∈ is_X11_change Rt Th, np_S X q.1 q.2 :=
  List.forall_mem_cons.mpr ⟨np_s_iload_n hX dX11_change_0 rfl, List.forall_mem_cons.mpr ⟨np_S.mono (op := np_call 1 sp_X11_isSlot 1 0 0 1 6) (np_s_callS hX C_X11_isSlot dX11_change_1 gw515 gw63 gw513 gw514 ⟨by decide, by decide, by decide⟩ (by decide) (by decide)) nq_call_le, List.forall_mem_cons.mpr ⟨np_S.mono (op := np_if (fun x => x = 0) 36) (np_s_if_eq hX dX11_change_4 (by decide)) nq_if_le, List.forall_mem_cons.mpr ⟨np_s_iload_n hX dX11_change_7 rfl, List.forall_mem_cons.mpr ⟨np_s_iconst hX dX11_change_8 (by decide), List.forall_mem_cons.mpr ⟨np_S.mono (op := np_ic (fun x y => x = y) 19) (np_s_icmp_eq hX dX11_change_9 (by decide)) nq_ic_le, List.forall_mem_cons.mpr ⟨np_s_iload_n hX dX11_change_12 rfl, List.forall_mem_cons.mpr ⟨np_S.mono (op := np_call 1 sp_X11_isSlot 1 0 0 1 6) (np_s_callS hX C_X11_isSlot dX11_change_13 gw515 gw63 gw513 gw514 ⟨by decide, by decide, by decide⟩ (by decide) (by decide)) nq_call_le, List.forall_mem_cons.mpr ⟨np_S.mono (op := np_if (fun x => x = 0) 36) (np_s_if_eq hX dX11_change_16 (by decide)) nq_if_le, List.forall_mem_cons.mpr ⟨np_s_iload_n hX dX11_change_19 rfl, List.forall_mem_cons.mpr ⟨np_s_iconst hX dX11_change_20 (by decide), List.forall_mem_cons.mpr ⟨np_S.mono (op := np_icne 32) (np_s_icmp_ne hX dX11_change_21 (by decide)) nq_icne_le, List.forall_mem_cons.mpr ⟨np_s_iload hX dX11_change_24, List.forall_mem_cons.mpr ⟨np_S.mono (op := np_call 1 sp_X11_isSlot 1 0 0 1 6) (np_s_callS hX C_X11_isSlot dX11_change_26 gw515 gw63 gw513 gw514 ⟨by decide, by decide, by decide⟩ (by decide) (by decide)) nq_call_le, List.forall_mem_cons.mpr ⟨np_S.mono (op := np_if (fun x => x = 0) 36) (np_s_if_eq hX dX11_change_29 (by decide)) nq_if_le, List.forall_mem_cons.mpr ⟨np_s_iconst hX dX11_change_32 (by decide), List.forall_mem_cons.mpr ⟨np_s_goto hX dX11_change_33 (by decide), List.forall_mem_cons.mpr ⟨np_s_iconst hX dX11_change_36 (by decide), List.forall_mem_cons.mpr ⟨np_S.mono (op := np_ist 2 5) (np_s_istore hX dX11_change_37 (by decide)) nw_ist_le, List.forall_mem_cons.mpr ⟨np_s_iload hX dX11_change_39, List.forall_mem_cons.mpr ⟨np_S.mono (op := np_ifne 54) (np_s_if_ne hX dX11_change_41 (by decide)) nq_ifne_le, List.forall_mem_cons.mpr ⟨np_S.mono (op := np_throw X.2.2.2 0) (np_s_throw hX ⟨96, 98, 100, _, gw516, gw78, sw557, twX11_100, toX11_100_96, Or.inl ⟨dX11_change_44, dX11_change_47, dX11_change_48, dX11_change_50, dX11_change_53⟩⟩) (nq_throw_le hT), List.forall_mem_cons.mpr ⟨np_s_iload_n hX dX11_change_54 rfl, List.forall_mem_cons.mpr ⟨np_s_iload_n hX dX11_change_55 rfl, List.forall_mem_cons.mpr ⟨np_s_iload hX dX11_change_56, List.forall_mem_cons.mpr ⟨np_S.mono (op := np_call 3 sp_X10_inRange 3 0 0 1 6) (np_s_callS hX C_X10_inRange dX11_change_58 gw1293 gw70 gw1291 gw1292 ⟨by decide, by decide, by decide⟩ (by decide) (by decide)) nq_call_le, List.forall_mem_cons.mpr ⟨np_S.mono (op := np_ifne 75) (np_s_if_ne hX dX11_change_61 (by decide)) nq_ifne_le, List.forall_mem_cons.mpr ⟨np_S.mono (op := np_throw X.2.2.2 1) (np_s_throw hX ⟨107, 373, 111, _, gw590, gw79, sw1296, twX11_111, toX11_111_107, Or.inr ⟨dX11_change_64, dX11_change_67, dX11_change_68, dX11_change_71, dX11_change_74⟩⟩) (nq_throw_le hT), List.forall_mem_cons.mpr ⟨np_s_aload_n hX dX11_change_75 rfl, List.forall_mem_cons.mpr ⟨np_S.mono (op := np_getf 11 11) (np_s_getf hX dX11_change_76 (C := RX11) (T := TX11) (N := 14) rfl guX11 (by decide) gw452) nw_getf_le, List.forall_mem_cons.mpr ⟨np_s_iload_n hX dX11_change_79 rfl, List.forall_mem_cons.mpr ⟨np_s_iload_n hX dX11_change_80 rfl, List.forall_mem_cons.mpr ⟨np_s_iload_n hX dX11_change_81 rfl, List.forall_mem_cons.mpr ⟨np_s_iload hX dX11_change_82, List.forall_mem_cons.mpr ⟨np_S.mono (op := np_callV 10 5 sp_X10_add 5 0 0 1 6) (np_s_callV hX C_X10_add dX11_change_84 (q := (RX10, TX10, 3)) rfl rfl gw1300 gw70 gw1297 gw1298 gw1299 ⟨by decide, by decide, by decide⟩ (by decide) (by decide)) nw_callV_le, List.forall_mem_cons.mpr ⟨np_s_aload_n hX dX11_change_87 rfl, List.forall_mem_cons.mpr ⟨np_S.mono (op := np_getf 11 11) (np_s_getf hX dX11_change_88 (C := RX11) (T := TX11) (N := 14) rfl guX11 (by decide) gw452) nw_getf_le, List.forall_mem_cons.mpr ⟨np_S.mono (op := np_callV 10 1 sp_X10_size 3 0 0 1 6) (np_s_callV hX C_X10_size dX11_change_91 (q := (RX10, TX10, 3)) rfl rfl gw1305 gw70 gw1302 gw1303 gw1304 ⟨by decide, by decide, by decide⟩ (by decide) (by decide)) nw_callV_le, List.forall_mem_cons.mpr ⟨np_S.mono (op := np_ret X.2.2.1) (np_s_ret hX dX11_change_94) (nq_ret_le hR), fun _ h => nomatch h⟩⟩⟩⟩⟩⟩⟩⟩⟩⟩⟩⟩⟩⟩⟩⟩⟩⟩⟩⟩⟩⟩⟩⟩⟩⟩⟩⟩⟩⟩⟩⟩⟩⟩⟩⟩⟩⟩⟩
noncomputable def m_X11_change (S : pw_S) (i0 : Nat) (x1 : Int32) (x2 : Int32) (x3 : Int32) (x4 : Int32) : pw_R (Int32 ⊕ Nat) :=
 pw_b (m_X11_isSlot S x2) fun S1 r4 =>
 if r4 = 0 then
 (pw_l (0 : Int32) fun z6 =>
 if z6 = 0 then
 (some (S1, .inr 0))
 else
 (pw_b (m_X10_inRange S1 x1 x3 x4) fun S7 r10 =>
 if r10 = 0 then
 (some (S7, .inr 1))
 else
 (pw_b (m_X10_add S7 0 x1 x2 x3 x4) fun S12 r15 =>
 pw_b (m_X10_size S12 0) fun S17 r20 =>
 some (S17, .inl r20))))
 else
 (if x1 = 1 then
 (if x1 = 4 then
 (pw_b (m_X11_isSlot S1 x4) fun S22 r25 =>
 if r25 = 0 then
 (pw_l (0 : Int32) fun z27 =>
 if z27 = 0 then
 (some (S22, .inr 0))
 else
 (pw_b (m_X10_inRange S22 x1 x3 x4) fun S28 r31 =>
 if r31 = 0 then
 (some (S28, .inr 1))
 else
 (pw_b (m_X10_add S28 0 x1 x2 x3 x4) fun S33 r36 =>
 pw_b (m_X10_size S33 0) fun S38 r41 =>
 some (S38, .inl r41))))
 else
 (pw_l (1 : Int32) fun z43 =>
 if z43 = 0 then
 (some (S22, .inr 0))
 else
 (pw_b (m_X10_inRange S22 x1 x3 x4) fun S44 r47 =>
 if r47 = 0 then
 (some (S44, .inr 1))
 else
 (pw_b (m_X10_add S44 0 x1 x2 x3 x4) fun S49 r52 =>
 pw_b (m_X10_size S49 0) fun S54 r57 =>
 some (S54, .inl r57)))))
 else
 (pw_l (1 : Int32) fun z59 =>
 if z59 = 0 then
 (some (S1, .inr 0))
 else
 (pw_b (m_X10_inRange S1 x1 x3 x4) fun S60 r63 =>
 if r63 = 0 then
 (some (S60, .inr 1))
 else
 (pw_b (m_X10_add S60 0 x1 x2 x3 x4) fun S65 r68 =>
 pw_b (m_X10_size S65 0) fun S70 r73 =>
 some (S70, .inl r73)))))
 else
 (pw_b (m_X11_isSlot S1 x3) fun S75 r78 =>
 if r78 = 0 then
 (pw_l (0 : Int32) fun z80 =>
 if z80 = 0 then
 (some (S75, .inr 0))
 else
 (pw_b (m_X10_inRange S75 x1 x3 x4) fun S81 r84 =>
 if r84 = 0 then
 (some (S81, .inr 1))
 else
 (pw_b (m_X10_add S81 0 x1 x2 x3 x4) fun S86 r89 =>
 pw_b (m_X10_size S86 0) fun S91 r94 =>
 some (S91, .inl r94))))
 else
 (if x1 = 4 then
 (pw_b (m_X11_isSlot S75 x4) fun S96 r99 =>
 if r99 = 0 then
 (pw_l (0 : Int32) fun z101 =>
 if z101 = 0 then
 (some (S96, .inr 0))
 else
 (pw_b (m_X10_inRange S96 x1 x3 x4) fun S102 r105 =>
 if r105 = 0 then
 (some (S102, .inr 1))
 else
 (pw_b (m_X10_add S102 0 x1 x2 x3 x4) fun S107 r110 =>
 pw_b (m_X10_size S107 0) fun S112 r115 =>
 some (S112, .inl r115))))
 else
 (pw_l (1 : Int32) fun z117 =>
 if z117 = 0 then
 (some (S96, .inr 0))
 else
 (pw_b (m_X10_inRange S96 x1 x3 x4) fun S118 r121 =>
 if r121 = 0 then
 (some (S118, .inr 1))
 else
 (pw_b (m_X10_add S118 0 x1 x2 x3 x4) fun S123 r126 =>
 pw_b (m_X10_size S123 0) fun S128 r131 =>
 some (S128, .inl r131)))))
 else
 (pw_l (1 : Int32) fun z133 =>
 if z133 = 0 then
 (some (S75, .inr 0))
 else
 (pw_b (m_X10_inRange S75 x1 x3 x4) fun S134 r137 =>
 if r137 = 0 then
 (some (S134, .inr 1))
 else
 (pw_b (m_X10_add S134 0 x1 x2 x3 x4) fun S139 r142 =>
 pw_b (m_X10_size S139 0) fun S144 r147 =>
 some (S144, .inl r147)))))))
def sp_X11_change : np_SpX := fun vs w Q QX => ∃ (q : Nat) (S : pw_S) (i0 : Nat) (x1 : Int32) (x2 : Int32) (x3 : Int32) (x4 : Int32), vs = [.ref (pw_pl 61 i0), .int x1, .int x2, .int x3, .int x4] ∧ pw_ok q 61 i0 = true ∧ pw_W q w S ∧ pw_p (m_X11_change S i0 x1 x2 x3 x4) (fun S' rx => ∀ f', pw_W q (w.1, f') S' → match rx with | .inl r => Q (some (.int r)) (w.1, f') | .inr e => QX e (w.1, f'))
set_option maxRecDepth 100000 in
set_option maxHeartbeats 8000000 in
theorem C_X11_change : np_CX yX11_change cX11_change 6 (some .int) 6 100 1 6 sp_X11_change := by
  refine np_ofX (by decide) (by decide) (by decide) ?_
  intro X vs w Q QX hsp hX hmn hRt hTh
  obtain ⟨q, S, i0, x1, x2, x3, x4, rfl, hi0, hW, h⟩ := hsp
  obtain ⟨n, f⟩ := w
  unfold m_X11_change at h
  have hR : ∀ st w ce sl, np_rq (some .int) 1 6 Q st w ce sl → X.2.2.1 st w ce sl := fun _ _ _ _ h => by rw [hRt]; exact h
  have hT : ∀ i w ce sl, np_thq 1 6 QX i w ce sl → X.2.2.2 i w ce sl := fun _ _ _ _ h => by rw [hTh]; exact h
  refine np_soundW (so_X11_change hX hR hT) [] 400 0 _ _ _ _ _ ?_
  conv => whnf
  refine ⟨q, S, x2, rfl, hW, pw_bd h (fun S1 r4 h f2 hW3 => ?_)⟩
  conv => whnf
  refine pw_br h (fun _ h => ?_) (fun _ h => ?_)
  · conv => whnf
    refine pw_st h (fun z6 h => ?_)
    conv => whnf
    refine pw_br h (fun _ h => ?_) (fun _ h => ?_)
    · conv => whnf
      exact ⟨Nat.le_of_ble_eq_true rfl, Nat.le_of_ble_eq_true rfl, pw_ps h _ hW3⟩
    · conv => whnf
      refine ⟨q, S1, x1, x3, x4, rfl, hW3, pw_bd h (fun S7 r10 h f8 hW9 => ?_)⟩
      conv => whnf
      refine pw_br h (fun _ h => ?_) (fun _ h => ?_)
      · conv => whnf
        exact ⟨Nat.le_of_ble_eq_true rfl, Nat.le_of_ble_eq_true rfl, pw_ps h _ hW9⟩
      · conv => whnf
        refine np_rd_i (hW9.g hi0) ?_
        conv => whnf
        refine np_rd_i (hW9.g rfl) ?_
        conv => whnf
        refine ⟨q, S7, 0, x1, x2, x3, x4, rfl, rfl, hW9, pw_bd h (fun S12 r15 h f13 hW14 => ?_)⟩
        conv => whnf
        refine np_rd_i (hW14.g hi0) ?_
        conv => whnf
        refine np_rd_i (hW14.g rfl) ?_
        conv => whnf
        refine ⟨q, S12, 0, rfl, rfl, hW14, pw_bd h (fun S17 r20 h f18 hW19 => ?_)⟩
        conv => whnf
        exact ⟨Nat.le_of_ble_eq_true rfl, Nat.le_of_ble_eq_true rfl, trivial, pw_ps h _ hW19⟩
  · conv => whnf
    refine pw_br h (fun _ h => ?_) (fun _ h => ?_)
    · conv => whnf
      refine pw_br h (fun _ h => ?_) (fun _ h => ?_)
      · conv => whnf
        refine ⟨q, S1, x4, rfl, hW3, pw_bd h (fun S22 r25 h f23 hW24 => ?_)⟩
        conv => whnf
        refine pw_br h (fun _ h => ?_) (fun _ h => ?_)
        · conv => whnf
          refine pw_st h (fun z27 h => ?_)
          conv => whnf
          refine pw_br h (fun _ h => ?_) (fun _ h => ?_)
          · conv => whnf
            exact ⟨Nat.le_of_ble_eq_true rfl, Nat.le_of_ble_eq_true rfl, pw_ps h _ hW24⟩
          · conv => whnf
            refine ⟨q, S22, x1, x3, x4, rfl, hW24, pw_bd h (fun S28 r31 h f29 hW30 => ?_)⟩
            conv => whnf
            refine pw_br h (fun _ h => ?_) (fun _ h => ?_)
            · conv => whnf
              exact ⟨Nat.le_of_ble_eq_true rfl, Nat.le_of_ble_eq_true rfl, pw_ps h _ hW30⟩
            · conv => whnf
              refine np_rd_i (hW30.g hi0) ?_
              conv => whnf
              refine np_rd_i (hW30.g rfl) ?_
              conv => whnf
              refine ⟨q, S28, 0, x1, x2, x3, x4, rfl, rfl, hW30, pw_bd h (fun S33 r36 h f34 hW35 => ?_)⟩
              conv => whnf
              refine np_rd_i (hW35.g hi0) ?_
              conv => whnf
              refine np_rd_i (hW35.g rfl) ?_
              conv => whnf
              refine ⟨q, S33, 0, rfl, rfl, hW35, pw_bd h (fun S38 r41 h f39 hW40 => ?_)⟩
              conv => whnf
              exact ⟨Nat.le_of_ble_eq_true rfl, Nat.le_of_ble_eq_true rfl, trivial, pw_ps h _ hW40⟩
        · conv => whnf
          refine pw_st h (fun z43 h => ?_)
          conv => whnf
          refine pw_br h (fun _ h => ?_) (fun _ h => ?_)
          · conv => whnf
            exact ⟨Nat.le_of_ble_eq_true rfl, Nat.le_of_ble_eq_true rfl, pw_ps h _ hW24⟩
          · conv => whnf
            refine ⟨q, S22, x1, x3, x4, rfl, hW24, pw_bd h (fun S44 r47 h f45 hW46 => ?_)⟩
            conv => whnf
            refine pw_br h (fun _ h => ?_) (fun _ h => ?_)
            · conv => whnf
              exact ⟨Nat.le_of_ble_eq_true rfl, Nat.le_of_ble_eq_true rfl, pw_ps h _ hW46⟩
            · conv => whnf
              refine np_rd_i (hW46.g hi0) ?_
              conv => whnf
              refine np_rd_i (hW46.g rfl) ?_
              conv => whnf
              refine ⟨q, S44, 0, x1, x2, x3, x4, rfl, rfl, hW46, pw_bd h (fun S49 r52 h f50 hW51 => ?_)⟩
              conv => whnf
              refine np_rd_i (hW51.g hi0) ?_
              conv => whnf
              refine np_rd_i (hW51.g rfl) ?_
              conv => whnf
              refine ⟨q, S49, 0, rfl, rfl, hW51, pw_bd h (fun S54 r57 h f55 hW56 => ?_)⟩
              conv => whnf
              exact ⟨Nat.le_of_ble_eq_true rfl, Nat.le_of_ble_eq_true rfl, trivial, pw_ps h _ hW56⟩
      · conv => whnf
        refine pw_st h (fun z59 h => ?_)
        conv => whnf
        refine pw_br h (fun _ h => ?_) (fun _ h => ?_)
        · conv => whnf
          exact ⟨Nat.le_of_ble_eq_true rfl, Nat.le_of_ble_eq_true rfl, pw_ps h _ hW3⟩
        · conv => whnf
          refine ⟨q, S1, x1, x3, x4, rfl, hW3, pw_bd h (fun S60 r63 h f61 hW62 => ?_)⟩
          conv => whnf
          refine pw_br h (fun _ h => ?_) (fun _ h => ?_)
          · conv => whnf
            exact ⟨Nat.le_of_ble_eq_true rfl, Nat.le_of_ble_eq_true rfl, pw_ps h _ hW62⟩
          · conv => whnf
            refine np_rd_i (hW62.g hi0) ?_
            conv => whnf
            refine np_rd_i (hW62.g rfl) ?_
            conv => whnf
            refine ⟨q, S60, 0, x1, x2, x3, x4, rfl, rfl, hW62, pw_bd h (fun S65 r68 h f66 hW67 => ?_)⟩
            conv => whnf
            refine np_rd_i (hW67.g hi0) ?_
            conv => whnf
            refine np_rd_i (hW67.g rfl) ?_
            conv => whnf
            refine ⟨q, S65, 0, rfl, rfl, hW67, pw_bd h (fun S70 r73 h f71 hW72 => ?_)⟩
            conv => whnf
            exact ⟨Nat.le_of_ble_eq_true rfl, Nat.le_of_ble_eq_true rfl, trivial, pw_ps h _ hW72⟩
    · conv => whnf
      refine ⟨q, S1, x3, rfl, hW3, pw_bd h (fun S75 r78 h f76 hW77 => ?_)⟩
      conv => whnf
      refine pw_br h (fun _ h => ?_) (fun _ h => ?_)
      · conv => whnf
        refine pw_st h (fun z80 h => ?_)
        conv => whnf
        refine pw_br h (fun _ h => ?_) (fun _ h => ?_)
        · conv => whnf
          exact ⟨Nat.le_of_ble_eq_true rfl, Nat.le_of_ble_eq_true rfl, pw_ps h _ hW77⟩
        · conv => whnf
          refine ⟨q, S75, x1, x3, x4, rfl, hW77, pw_bd h (fun S81 r84 h f82 hW83 => ?_)⟩
          conv => whnf
          refine pw_br h (fun _ h => ?_) (fun _ h => ?_)
          · conv => whnf
            exact ⟨Nat.le_of_ble_eq_true rfl, Nat.le_of_ble_eq_true rfl, pw_ps h _ hW83⟩
          · conv => whnf
            refine np_rd_i (hW83.g hi0) ?_
            conv => whnf
            refine np_rd_i (hW83.g rfl) ?_
            conv => whnf
            refine ⟨q, S81, 0, x1, x2, x3, x4, rfl, rfl, hW83, pw_bd h (fun S86 r89 h f87 hW88 => ?_)⟩
            conv => whnf
            refine np_rd_i (hW88.g hi0) ?_
            conv => whnf
            refine np_rd_i (hW88.g rfl) ?_
            conv => whnf
            refine ⟨q, S86, 0, rfl, rfl, hW88, pw_bd h (fun S91 r94 h f92 hW93 => ?_)⟩
            conv => whnf
            exact ⟨Nat.le_of_ble_eq_true rfl, Nat.le_of_ble_eq_true rfl, trivial, pw_ps h _ hW93⟩
      · conv => whnf
        refine pw_br h (fun _ h => ?_) (fun _ h => ?_)
        · conv => whnf
          refine ⟨q, S75, x4, rfl, hW77, pw_bd h (fun S96 r99 h f97 hW98 => ?_)⟩
          conv => whnf
          refine pw_br h (fun _ h => ?_) (fun _ h => ?_)
          · conv => whnf
            refine pw_st h (fun z101 h => ?_)
            conv => whnf
            refine pw_br h (fun _ h => ?_) (fun _ h => ?_)
            · conv => whnf
              exact ⟨Nat.le_of_ble_eq_true rfl, Nat.le_of_ble_eq_true rfl, pw_ps h _ hW98⟩
            · conv => whnf
              refine ⟨q, S96, x1, x3, x4, rfl, hW98, pw_bd h (fun S102 r105 h f103 hW104 => ?_)⟩
              conv => whnf
              refine pw_br h (fun _ h => ?_) (fun _ h => ?_)
              · conv => whnf
                exact ⟨Nat.le_of_ble_eq_true rfl, Nat.le_of_ble_eq_true rfl, pw_ps h _ hW104⟩
              · conv => whnf
                refine np_rd_i (hW104.g hi0) ?_
                conv => whnf
                refine np_rd_i (hW104.g rfl) ?_
                conv => whnf
                refine ⟨q, S102, 0, x1, x2, x3, x4, rfl, rfl, hW104, pw_bd h (fun S107 r110 h f108 hW109 => ?_)⟩
                conv => whnf
                refine np_rd_i (hW109.g hi0) ?_
                conv => whnf
                refine np_rd_i (hW109.g rfl) ?_
                conv => whnf
                refine ⟨q, S107, 0, rfl, rfl, hW109, pw_bd h (fun S112 r115 h f113 hW114 => ?_)⟩
                conv => whnf
                exact ⟨Nat.le_of_ble_eq_true rfl, Nat.le_of_ble_eq_true rfl, trivial, pw_ps h _ hW114⟩
          · conv => whnf
            refine pw_st h (fun z117 h => ?_)
            conv => whnf
            refine pw_br h (fun _ h => ?_) (fun _ h => ?_)
            · conv => whnf
              exact ⟨Nat.le_of_ble_eq_true rfl, Nat.le_of_ble_eq_true rfl, pw_ps h _ hW98⟩
            · conv => whnf
              refine ⟨q, S96, x1, x3, x4, rfl, hW98, pw_bd h (fun S118 r121 h f119 hW120 => ?_)⟩
              conv => whnf
              refine pw_br h (fun _ h => ?_) (fun _ h => ?_)
              · conv => whnf
                exact ⟨Nat.le_of_ble_eq_true rfl, Nat.le_of_ble_eq_true rfl, pw_ps h _ hW120⟩
              · conv => whnf
                refine np_rd_i (hW120.g hi0) ?_
                conv => whnf
                refine np_rd_i (hW120.g rfl) ?_
                conv => whnf
                refine ⟨q, S118, 0, x1, x2, x3, x4, rfl, rfl, hW120, pw_bd h (fun S123 r126 h f124 hW125 => ?_)⟩
                conv => whnf
                refine np_rd_i (hW125.g hi0) ?_
                conv => whnf
                refine np_rd_i (hW125.g rfl) ?_
                conv => whnf
                refine ⟨q, S123, 0, rfl, rfl, hW125, pw_bd h (fun S128 r131 h f129 hW130 => ?_)⟩
                conv => whnf
                exact ⟨Nat.le_of_ble_eq_true rfl, Nat.le_of_ble_eq_true rfl, trivial, pw_ps h _ hW130⟩
        · conv => whnf
          refine pw_st h (fun z133 h => ?_)
          conv => whnf
          refine pw_br h (fun _ h => ?_) (fun _ h => ?_)
          · conv => whnf
            exact ⟨Nat.le_of_ble_eq_true rfl, Nat.le_of_ble_eq_true rfl, pw_ps h _ hW77⟩
          · conv => whnf
            refine ⟨q, S75, x1, x3, x4, rfl, hW77, pw_bd h (fun S134 r137 h f135 hW136 => ?_)⟩
            conv => whnf
            refine pw_br h (fun _ h => ?_) (fun _ h => ?_)
            · conv => whnf
              exact ⟨Nat.le_of_ble_eq_true rfl, Nat.le_of_ble_eq_true rfl, pw_ps h _ hW136⟩
            · conv => whnf
              refine np_rd_i (hW136.g hi0) ?_
              conv => whnf
              refine np_rd_i (hW136.g rfl) ?_
              conv => whnf
              refine ⟨q, S134, 0, x1, x2, x3, x4, rfl, rfl, hW136, pw_bd h (fun S139 r142 h f140 hW141 => ?_)⟩
              conv => whnf
              refine np_rd_i (hW141.g hi0) ?_
              conv => whnf
              refine np_rd_i (hW141.g rfl) ?_
              conv => whnf
              refine ⟨q, S139, 0, rfl, rfl, hW141, pw_bd h (fun S144 r147 h f145 hW146 => ?_)⟩
              conv => whnf
              exact ⟨Nat.le_of_ble_eq_true rfl, Nat.le_of_ble_eq_true rfl, trivial, pw_ps h _ hW146⟩
