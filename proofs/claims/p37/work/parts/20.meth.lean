theorem gw36 : (Jvm.Cond.selects "NotationPress$Column" ({ cls := "NotationPress$Column", name := "told", desc := "(I)I" } : Jvm.MethodName) ({ cls := "NotationPress$Column", name := "told", desc := "(I)I" } : Jvm.MethodName)) ∈ np_gw := np_gwi 36 (by decide +kernel) rfl
theorem gw37 : (Jvm.Cond.selects "NotationPress$Column" ({ cls := "NotationPress$Column", name := "join", desc := "(II)I" } : Jvm.MethodName) ({ cls := "NotationPress$Column", name := "join", desc := "(II)I" } : Jvm.MethodName)) ∈ np_gw := np_gwi 37 (by decide +kernel) rfl
theorem gw57 : (Jvm.Cond.selects "NotationPress$Column" ({ cls := "NotationPress$Column", name := "gatherBase", desc := "()I" } : Jvm.MethodName) ({ cls := "NotationPress$Column", name := "gatherBase", desc := "()I" } : Jvm.MethodName)) ∈ np_gw := np_gwi 57 (by decide +kernel) rfl
theorem gw58 : (Jvm.Cond.selects "NotationPress$Column" ({ cls := "NotationPress$Column", name := "shiftBatch", desc := "(I)I" } : Jvm.MethodName) ({ cls := "NotationPress$Column", name := "shiftBatch", desc := "(I)I" } : Jvm.MethodName)) ∈ np_gw := np_gwi 58 (by decide +kernel) rfl
theorem gw59 : (Jvm.Cond.selects "NotationPress$Column" ({ cls := "NotationPress$Column", name := "differBatch", desc := "(I)I" } : Jvm.MethodName) ({ cls := "NotationPress$Column", name := "differBatch", desc := "(I)I" } : Jvm.MethodName)) ∈ np_gw := np_gwi 59 (by decide +kernel) rfl
theorem gw60 : (Jvm.Cond.selects "NotationPress$Column" ({ cls := "NotationPress$Column", name := "totalBatch", desc := "(I)I" } : Jvm.MethodName) ({ cls := "NotationPress$Column", name := "totalBatch", desc := "(I)I" } : Jvm.MethodName)) ∈ np_gw := np_gwi 60 (by decide +kernel) rfl
theorem gw61 : (Jvm.Cond.selects "NotationPress$Column" ({ cls := "NotationPress$Column", name := "greatestBatch", desc := "(I)I" } : Jvm.MethodName) ({ cls := "NotationPress$Column", name := "greatestBatch", desc := "(I)I" } : Jvm.MethodName)) ∈ np_gw := np_gwi 61 (by decide +kernel) rfl
theorem gw63 : (Jvm.Cond.initialized "NotationPress") ∈ np_gw := np_gwi 63 (by decide +kernel) rfl
theorem gw72 : (Jvm.Cond.initialized "NotationPress$Table") ∈ np_gw := np_gwi 72 (by decide +kernel) rfl
theorem gw73 : (Jvm.Cond.initialized "NotationPress$Column") ∈ np_gw := np_gwi 73 (by decide +kernel) rfl
theorem gw82 : (Jvm.Cond.initialized "java/lang/Math") ∈ np_gw := np_gwi 82 (by decide +kernel) rfl
theorem gw126 : (Jvm.Cond.static ({ cls := "NotationPress", name := "fillAll", desc := "([II)V" } : Jvm.MethodName)) ∈ np_gw := np_gwi 126 (by decide +kernel) rfl
theorem gw127 : (Jvm.Cond.code ({ cls := "NotationPress", name := "fillAll", desc := "([II)V" } : Jvm.MethodName) prog_1_method_44_code (3 : Nat) (Option.none : Option Jvm.ClassFile.FieldType)) ∈ np_gw := np_gwi 127 (by decide +kernel) rfl
theorem gw345 : (Jvm.Cond.fieldLink "NotationPress$Table" (9 : Nat) "NotationPress$Table" "rows" "[I") ∈ np_gw := np_gwi 345 (by decide +kernel) rfl
theorem gw356 : (Jvm.Cond.fieldLink "NotationPress$Table" (39 : Nat) "NotationPress$Table" "rowCount" "I") ∈ np_gw := np_gwi 356 (by decide +kernel) rfl
theorem gw364 : (Jvm.Cond.laysFinal "NotationPress$Table" "NotationPress$Table" "rows" "[I") ∈ np_gw := np_gwi 364 (by decide +kernel) rfl
theorem gw366 : (Jvm.Cond.laysFinal "NotationPress$Table" "NotationPress$Table" "ledger" "[I") ∈ np_gw := np_gwi 366 (by decide +kernel) rfl
theorem gw368 : (Jvm.Cond.laysFinal "NotationPress$Table" "NotationPress$Table" "bucketFirst" "[I") ∈ np_gw := np_gwi 368 (by decide +kernel) rfl
theorem gw370 : (Jvm.Cond.laysFinal "NotationPress$Table" "NotationPress$Table" "bucketLast" "[I") ∈ np_gw := np_gwi 370 (by decide +kernel) rfl
theorem gw372 : (Jvm.Cond.laysFinal "NotationPress$Table" "NotationPress$Table" "nextInBucket" "[I") ∈ np_gw := np_gwi 372 (by decide +kernel) rfl
theorem gw374 : (Jvm.Cond.lays "NotationPress$Table" "NotationPress$Table" "description" "LNotationPress$Description;") ∈ np_gw := np_gwi 374 (by decide +kernel) rfl
theorem gw376 : (Jvm.Cond.lays "NotationPress$Table" "NotationPress$Table" "place" "I") ∈ np_gw := np_gwi 376 (by decide +kernel) rfl
theorem gw378 : (Jvm.Cond.lays "NotationPress$Table" "NotationPress$Table" "rowCount" "I") ∈ np_gw := np_gwi 378 (by decide +kernel) rfl
theorem gw380 : (Jvm.Cond.lays "NotationPress$Table" "NotationPress$Table" "doubts" "I") ∈ np_gw := np_gwi 380 (by decide +kernel) rfl
theorem gw382 : (Jvm.Cond.lays "NotationPress$Table" "NotationPress$Table" "skippedCount" "I") ∈ np_gw := np_gwi 382 (by decide +kernel) rfl
theorem gw384 : (Jvm.Cond.lays "NotationPress$Table" "NotationPress$Table" "right" "I") ∈ np_gw := np_gwi 384 (by decide +kernel) rfl
theorem gw386 : (Jvm.Cond.lays "NotationPress$Table" "NotationPress$Table" "why" "I") ∈ np_gw := np_gwi 386 (by decide +kernel) rfl
theorem gw394 : (Jvm.Cond.fieldLink "NotationPress$Column" (9 : Nat) "NotationPress$Column" "base" "[I") ∈ np_gw := np_gwi 394 (by decide +kernel) rfl
theorem gw395 : (Jvm.Cond.fieldLink "NotationPress$Column" (15 : Nat) "NotationPress$Column" "values" "[I") ∈ np_gw := np_gwi 395 (by decide +kernel) rfl
theorem gw396 : (Jvm.Cond.fieldLink "NotationPress$Column" (18 : Nat) "NotationPress$Column" "table" "LNotationPress$Table;") ∈ np_gw := np_gwi 396 (by decide +kernel) rfl
theorem gw397 : (Jvm.Cond.fieldLink "NotationPress$Column" (22 : Nat) "NotationPress$Column" "kind" "I") ∈ np_gw := np_gwi 397 (by decide +kernel) rfl
theorem gw398 : (Jvm.Cond.fieldLink "NotationPress$Column" (26 : Nat) "NotationPress$Column" "slot" "I") ∈ np_gw := np_gwi 398 (by decide +kernel) rfl
theorem gw399 : (Jvm.Cond.fieldLink "NotationPress$Column" (29 : Nat) "NotationPress$Column" "window" "I") ∈ np_gw := np_gwi 399 (by decide +kernel) rfl
theorem gw400 : (Jvm.Cond.laysFinal "NotationPress$Column" "NotationPress$Column" "base" "[I") ∈ np_gw := np_gwi 400 (by decide +kernel) rfl
theorem gw402 : (Jvm.Cond.laysFinal "NotationPress$Column" "NotationPress$Column" "values" "[I") ∈ np_gw := np_gwi 402 (by decide +kernel) rfl
theorem gw404 : (Jvm.Cond.lays "NotationPress$Column" "NotationPress$Column" "table" "LNotationPress$Table;") ∈ np_gw := np_gwi 404 (by decide +kernel) rfl
theorem gw406 : (Jvm.Cond.lays "NotationPress$Column" "NotationPress$Column" "kind" "I") ∈ np_gw := np_gwi 406 (by decide +kernel) rfl
theorem gw408 : (Jvm.Cond.lays "NotationPress$Column" "NotationPress$Column" "slot" "I") ∈ np_gw := np_gwi 408 (by decide +kernel) rfl
theorem gw410 : (Jvm.Cond.lays "NotationPress$Column" "NotationPress$Column" "window" "I") ∈ np_gw := np_gwi 410 (by decide +kernel) rfl
theorem gw652 : (Jvm.Cond.static ({ cls := "NotationPress", name := "at", desc := "([III)I" } : Jvm.MethodName)) ∈ np_gw := np_gwi 652 (by decide +kernel) rfl
theorem gw653 : (Jvm.Cond.code ({ cls := "NotationPress", name := "at", desc := "([III)I" } : Jvm.MethodName) prog_1_method_42_code (3 : Nat) (Option.some Jvm.ClassFile.FieldType.int)) ∈ np_gw := np_gwi 653 (by decide +kernel) rfl
theorem gw724 : (Jvm.Cond.static ({ cls := "NotationPress", name := "cellPlace", desc := "(II)I" } : Jvm.MethodName)) ∈ np_gw := np_gwi 724 (by decide +kernel) rfl
theorem gw725 : (Jvm.Cond.code ({ cls := "NotationPress", name := "cellPlace", desc := "(II)I" } : Jvm.MethodName) prog_1_method_49_code (2 : Nat) (Option.some Jvm.ClassFile.FieldType.int)) ∈ np_gw := np_gwi 725 (by decide +kernel) rfl
theorem gw984 : (Jvm.Cond.static ({ cls := "java/lang/Math", name := "max", desc := "(II)I" } : Jvm.MethodName)) ∈ np_gw := np_gwi 984 (by decide +kernel) rfl
theorem gw985 : (Jvm.Cond.code ({ cls := "java/lang/Math", name := "max", desc := "(II)I" } : Jvm.MethodName) prog_19_method_65_code (2 : Nat) (Option.some Jvm.ClassFile.FieldType.int)) ∈ np_gw := np_gwi 985 (by decide +kernel) rfl
theorem gw1109 : (Jvm.Cond.instanceMethod ({ cls := "NotationPress$Table", name := "key", desc := "(II)I" } : Jvm.MethodName)) ∈ np_gw := np_gwi 1109 (by decide +kernel) rfl
theorem gw1110 : (Jvm.Cond.selects "NotationPress$Table" ({ cls := "NotationPress$Table", name := "key", desc := "(II)I" } : Jvm.MethodName) ({ cls := "NotationPress$Table", name := "key", desc := "(II)I" } : Jvm.MethodName)) ∈ np_gw := np_gwi 1110 (by decide +kernel) rfl
theorem gw1111 : (Jvm.Cond.code ({ cls := "NotationPress$Table", name := "key", desc := "(II)I" } : Jvm.MethodName) prog_8_method_6_code (3 : Nat) (Option.some Jvm.ClassFile.FieldType.int)) ∈ np_gw := np_gwi 1111 (by decide +kernel) rfl
theorem gw1112 : (Jvm.Cond.methodLinkNest "NotationPress$Table" (57 : Nat) ({ cls := "NotationPress", name := "cellPlace", desc := "(II)I" } : Jvm.MethodName) "NotationPress") ∈ np_nw := np_nwi 1112 (by decide +kernel) rfl
theorem gw1113 : (Jvm.Cond.methodLink "NotationPress$Table" (61 : Nat) ({ cls := "NotationPress$Table", name := "told", desc := "(II)I" } : Jvm.MethodName)) ∈ np_gw := np_gwi 1113 (by decide +kernel) rfl
theorem gw1114 : (Jvm.Cond.instanceMethod ({ cls := "NotationPress$Table", name := "told", desc := "(II)I" } : Jvm.MethodName)) ∈ np_gw := np_gwi 1114 (by decide +kernel) rfl
theorem gw1115 : (Jvm.Cond.selects "NotationPress$Table" ({ cls := "NotationPress$Table", name := "told", desc := "(II)I" } : Jvm.MethodName) ({ cls := "NotationPress$Table", name := "told", desc := "(II)I" } : Jvm.MethodName)) ∈ np_gw := np_gwi 1115 (by decide +kernel) rfl
theorem gw1116 : (Jvm.Cond.code ({ cls := "NotationPress$Table", name := "told", desc := "(II)I" } : Jvm.MethodName) prog_8_method_5_code (3 : Nat) (Option.some Jvm.ClassFile.FieldType.int)) ∈ np_gw := np_gwi 1116 (by decide +kernel) rfl
theorem gw1117 : (Jvm.Cond.methodLink "NotationPress$Table" (48 : Nat) ({ cls := "NotationPress$Table", name := "hasRow", desc := "(I)Z" } : Jvm.MethodName)) ∈ np_gw := np_gwi 1117 (by decide +kernel) rfl
theorem gw1118 : (Jvm.Cond.instanceMethod ({ cls := "NotationPress$Table", name := "hasRow", desc := "(I)Z" } : Jvm.MethodName)) ∈ np_gw := np_gwi 1118 (by decide +kernel) rfl
theorem gw1119 : (Jvm.Cond.selects "NotationPress$Table" ({ cls := "NotationPress$Table", name := "hasRow", desc := "(I)Z" } : Jvm.MethodName) ({ cls := "NotationPress$Table", name := "hasRow", desc := "(I)Z" } : Jvm.MethodName)) ∈ np_gw := np_gwi 1119 (by decide +kernel) rfl
theorem gw1120 : (Jvm.Cond.code ({ cls := "NotationPress$Table", name := "hasRow", desc := "(I)Z" } : Jvm.MethodName) prog_8_method_4_code (2 : Nat) (Option.some Jvm.ClassFile.FieldType.boolean)) ∈ np_gw := np_gwi 1120 (by decide +kernel) rfl
theorem gw1121 : (Jvm.Cond.constant "NotationPress$Table" (52 : Nat) (-2147483648 : Int32)) ∈ np_gw := np_gwi 1121 (by decide +kernel) rfl
theorem gw1122 : (Jvm.Cond.methodLinkNest "NotationPress$Table" (53 : Nat) ({ cls := "NotationPress", name := "at", desc := "([III)I" } : Jvm.MethodName) "NotationPress") ∈ np_nw := np_nwi 1122 (by decide +kernel) rfl
theorem gw1158 : (Jvm.Cond.methodLink "NotationPress$Column" (32 : Nat) ({ cls := "NotationPress$Table", name := "hasRow", desc := "(I)Z" } : Jvm.MethodName)) ∈ np_gw := np_gwi 1158 (by decide +kernel) rfl
theorem gw1164 : (Jvm.Cond.methodLink "NotationPress$Column" (43 : Nat) ({ cls := "NotationPress$Column", name := "told", desc := "(I)I" } : Jvm.MethodName)) ∈ np_gw := np_gwi 1164 (by decide +kernel) rfl
theorem gw1166 : (Jvm.Cond.instanceMethod ({ cls := "NotationPress$Column", name := "told", desc := "(I)I" } : Jvm.MethodName)) ∈ np_gw := np_gwi 1166 (by decide +kernel) rfl
theorem gw1167 : (Jvm.Cond.code ({ cls := "NotationPress$Column", name := "told", desc := "(I)I" } : Jvm.MethodName) prog_2_method_4_code (2 : Nat) (Option.some Jvm.ClassFile.FieldType.int)) ∈ np_gw := np_gwi 1167 (by decide +kernel) rfl
theorem gw1168 : (Jvm.Cond.constant "NotationPress$Column" (38 : Nat) (-2147483648 : Int32)) ∈ np_gw := np_gwi 1168 (by decide +kernel) rfl
theorem gw1169 : (Jvm.Cond.methodLink "NotationPress$Column" (39 : Nat) ({ cls := "NotationPress$Table", name := "key", desc := "(II)I" } : Jvm.MethodName)) ∈ np_gw := np_gwi 1169 (by decide +kernel) rfl
theorem gw1170 : (Jvm.Cond.methodLink "NotationPress$Column" (47 : Nat) ({ cls := "NotationPress$Column", name := "difference", desc := "(II)I" } : Jvm.MethodName)) ∈ np_gw := np_gwi 1170 (by decide +kernel) rfl
theorem gw1171 : (Jvm.Cond.static ({ cls := "NotationPress$Column", name := "difference", desc := "(II)I" } : Jvm.MethodName)) ∈ np_gw := np_gwi 1171 (by decide +kernel) rfl
theorem gw1172 : (Jvm.Cond.code ({ cls := "NotationPress$Column", name := "difference", desc := "(II)I" } : Jvm.MethodName) prog_2_method_6_code (2 : Nat) (Option.some Jvm.ClassFile.FieldType.int)) ∈ np_gw := np_gwi 1172 (by decide +kernel) rfl
theorem gw1173 : (Jvm.Cond.methodLink "NotationPress$Column" (50 : Nat) ({ cls := "NotationPress$Column", name := "join", desc := "(II)I" } : Jvm.MethodName)) ∈ np_gw := np_gwi 1173 (by decide +kernel) rfl
theorem gw1175 : (Jvm.Cond.instanceMethod ({ cls := "NotationPress$Column", name := "join", desc := "(II)I" } : Jvm.MethodName)) ∈ np_gw := np_gwi 1175 (by decide +kernel) rfl
theorem gw1176 : (Jvm.Cond.code ({ cls := "NotationPress$Column", name := "join", desc := "(II)I" } : Jvm.MethodName) prog_2_method_7_code (3 : Nat) (Option.some Jvm.ClassFile.FieldType.int)) ∈ np_gw := np_gwi 1176 (by decide +kernel) rfl
theorem gw1177 : (Jvm.Cond.methodLink "NotationPress$Column" (53 : Nat) ({ cls := "java/lang/Math", name := "max", desc := "(II)I" } : Jvm.MethodName)) ∈ np_gw := np_gwi 1177 (by decide +kernel) rfl
theorem gw1511 : (Jvm.Cond.methodLink "NotationPress$Column" (58 : Nat) ({ cls := "NotationPress$Column", name := "gatherBase", desc := "()I" } : Jvm.MethodName)) ∈ np_gw := np_gwi 1511 (by decide +kernel) rfl
theorem gw1513 : (Jvm.Cond.instanceMethod ({ cls := "NotationPress$Column", name := "gatherBase", desc := "()I" } : Jvm.MethodName)) ∈ np_gw := np_gwi 1513 (by decide +kernel) rfl
theorem gw1514 : (Jvm.Cond.code ({ cls := "NotationPress$Column", name := "gatherBase", desc := "()I" } : Jvm.MethodName) prog_2_method_9_code (3 : Nat) (Option.some Jvm.ClassFile.FieldType.int)) ∈ np_gw := np_gwi 1514 (by decide +kernel) rfl
theorem gw1515 : (Jvm.Cond.methodLink "NotationPress$Column" (62 : Nat) ({ cls := "NotationPress$Column", name := "shiftBatch", desc := "(I)I" } : Jvm.MethodName)) ∈ np_gw := np_gwi 1515 (by decide +kernel) rfl
theorem gw1517 : (Jvm.Cond.instanceMethod ({ cls := "NotationPress$Column", name := "shiftBatch", desc := "(I)I" } : Jvm.MethodName)) ∈ np_gw := np_gwi 1517 (by decide +kernel) rfl
theorem gw1518 : (Jvm.Cond.code ({ cls := "NotationPress$Column", name := "shiftBatch", desc := "(I)I" } : Jvm.MethodName) prog_2_method_11_code (3 : Nat) (Option.some Jvm.ClassFile.FieldType.int)) ∈ np_gw := np_gwi 1518 (by decide +kernel) rfl
theorem gw1519 : (Jvm.Cond.methodLinkNest "NotationPress$Column" (74 : Nat) ({ cls := "NotationPress", name := "at", desc := "([III)I" } : Jvm.MethodName) "NotationPress") ∈ np_nw := np_nwi 1519 (by decide +kernel) rfl
theorem gw1520 : (Jvm.Cond.methodLink "NotationPress$Column" (78 : Nat) ({ cls := "NotationPress$Column", name := "shifted", desc := "(II)I" } : Jvm.MethodName)) ∈ np_gw := np_gwi 1520 (by decide +kernel) rfl
theorem gw1521 : (Jvm.Cond.static ({ cls := "NotationPress$Column", name := "shifted", desc := "(II)I" } : Jvm.MethodName)) ∈ np_gw := np_gwi 1521 (by decide +kernel) rfl
theorem gw1522 : (Jvm.Cond.code ({ cls := "NotationPress$Column", name := "shifted", desc := "(II)I" } : Jvm.MethodName) prog_2_method_10_code (2 : Nat) (Option.some Jvm.ClassFile.FieldType.int)) ∈ np_gw := np_gwi 1522 (by decide +kernel) rfl
theorem gw1523 : (Jvm.Cond.methodLink "NotationPress$Column" (65 : Nat) ({ cls := "NotationPress$Column", name := "differBatch", desc := "(I)I" } : Jvm.MethodName)) ∈ np_gw := np_gwi 1523 (by decide +kernel) rfl
theorem gw1525 : (Jvm.Cond.instanceMethod ({ cls := "NotationPress$Column", name := "differBatch", desc := "(I)I" } : Jvm.MethodName)) ∈ np_gw := np_gwi 1525 (by decide +kernel) rfl
theorem gw1526 : (Jvm.Cond.code ({ cls := "NotationPress$Column", name := "differBatch", desc := "(I)I" } : Jvm.MethodName) prog_2_method_12_code (3 : Nat) (Option.some Jvm.ClassFile.FieldType.int)) ∈ np_gw := np_gwi 1526 (by decide +kernel) rfl
theorem gw1527 : (Jvm.Cond.methodLink "NotationPress$Column" (68 : Nat) ({ cls := "NotationPress$Column", name := "totalBatch", desc := "(I)I" } : Jvm.MethodName)) ∈ np_gw := np_gwi 1527 (by decide +kernel) rfl
theorem gw1529 : (Jvm.Cond.instanceMethod ({ cls := "NotationPress$Column", name := "totalBatch", desc := "(I)I" } : Jvm.MethodName)) ∈ np_gw := np_gwi 1529 (by decide +kernel) rfl
theorem gw1530 : (Jvm.Cond.code ({ cls := "NotationPress$Column", name := "totalBatch", desc := "(I)I" } : Jvm.MethodName) prog_2_method_13_code (6 : Nat) (Option.some Jvm.ClassFile.FieldType.int)) ∈ np_gw := np_gwi 1530 (by decide +kernel) rfl
theorem gw1531 : (Jvm.Cond.methodLinkNest "NotationPress$Column" (81 : Nat) ({ cls := "NotationPress", name := "fillAll", desc := "([II)V" } : Jvm.MethodName) "NotationPress") ∈ np_nw := np_nwi 1531 (by decide +kernel) rfl
theorem gw1532 : (Jvm.Cond.methodLink "NotationPress$Column" (71 : Nat) ({ cls := "NotationPress$Column", name := "greatestBatch", desc := "(I)I" } : Jvm.MethodName)) ∈ np_gw := np_gwi 1532 (by decide +kernel) rfl
theorem gw1534 : (Jvm.Cond.instanceMethod ({ cls := "NotationPress$Column", name := "greatestBatch", desc := "(I)I" } : Jvm.MethodName)) ∈ np_gw := np_gwi 1534 (by decide +kernel) rfl
theorem gw1535 : (Jvm.Cond.code ({ cls := "NotationPress$Column", name := "greatestBatch", desc := "(I)I" } : Jvm.MethodName) prog_2_method_14_code (5 : Nat) (Option.some Jvm.ClassFile.FieldType.int)) ∈ np_gw := np_gwi 1535 (by decide +kernel) rfl
set_option maxRecDepth 20000 in
theorem guX0 : ∀ w ∈ u_ws RX0 TX0 6, w ∈ np_gw := by
  show ∀ w ∈ [(Jvm.Cond.laysFinal "NotationPress$Column" "NotationPress$Column" "base" "[I"), (Jvm.Cond.laysFinal "NotationPress$Column" "NotationPress$Column" "values" "[I"), (Jvm.Cond.lays "NotationPress$Column" "NotationPress$Column" "table" "LNotationPress$Table;"), (Jvm.Cond.lays "NotationPress$Column" "NotationPress$Column" "kind" "I"), (Jvm.Cond.lays "NotationPress$Column" "NotationPress$Column" "slot" "I"), (Jvm.Cond.lays "NotationPress$Column" "NotationPress$Column" "window" "I")], w ∈ np_gw
  exact List.forall_mem_cons.mpr ⟨gw400, List.forall_mem_cons.mpr ⟨gw402, List.forall_mem_cons.mpr ⟨gw404, List.forall_mem_cons.mpr ⟨gw406, List.forall_mem_cons.mpr ⟨gw408, List.forall_mem_cons.mpr ⟨gw410, fun _ h => nomatch h⟩⟩⟩⟩⟩⟩
theorem ndX0 : ∀ j, j < 6 → defaultValue (tyX0 j) = vp_V [.null, .null, .null, .int 0, .int 0, .int 0] j := by decide +kernel
theorem nfX0 : ∀ v ∈ ([.null, .null, .null, .int 0, .int 0, .int 0] : List Value), ∀ ad : Nat → Nat, np_v ad v = v := by
  intro v hv ad
  simp only [List.mem_cons, List.not_mem_nil, or_false] at hv
  rcases hv with rfl | rfl | rfl | rfl | rfl | rfl <;> rfl
set_option maxRecDepth 20000 in
theorem guX6 : ∀ w ∈ u_ws RX6 TX6 12, w ∈ np_gw := by
  show ∀ w ∈ [(Jvm.Cond.laysFinal "NotationPress$Table" "NotationPress$Table" "rows" "[I"), (Jvm.Cond.laysFinal "NotationPress$Table" "NotationPress$Table" "ledger" "[I"), (Jvm.Cond.laysFinal "NotationPress$Table" "NotationPress$Table" "bucketFirst" "[I"), (Jvm.Cond.laysFinal "NotationPress$Table" "NotationPress$Table" "bucketLast" "[I"), (Jvm.Cond.laysFinal "NotationPress$Table" "NotationPress$Table" "nextInBucket" "[I"), (Jvm.Cond.lays "NotationPress$Table" "NotationPress$Table" "description" "LNotationPress$Description;"), (Jvm.Cond.lays "NotationPress$Table" "NotationPress$Table" "place" "I"), (Jvm.Cond.lays "NotationPress$Table" "NotationPress$Table" "rowCount" "I"), (Jvm.Cond.lays "NotationPress$Table" "NotationPress$Table" "doubts" "I"), (Jvm.Cond.lays "NotationPress$Table" "NotationPress$Table" "skippedCount" "I"), (Jvm.Cond.lays "NotationPress$Table" "NotationPress$Table" "right" "I"), (Jvm.Cond.lays "NotationPress$Table" "NotationPress$Table" "why" "I")], w ∈ np_gw
  exact List.forall_mem_cons.mpr ⟨gw364, List.forall_mem_cons.mpr ⟨gw366, List.forall_mem_cons.mpr ⟨gw368, List.forall_mem_cons.mpr ⟨gw370, List.forall_mem_cons.mpr ⟨gw372, List.forall_mem_cons.mpr ⟨gw374, List.forall_mem_cons.mpr ⟨gw376, List.forall_mem_cons.mpr ⟨gw378, List.forall_mem_cons.mpr ⟨gw380, List.forall_mem_cons.mpr ⟨gw382, List.forall_mem_cons.mpr ⟨gw384, List.forall_mem_cons.mpr ⟨gw386, fun _ h => nomatch h⟩⟩⟩⟩⟩⟩⟩⟩⟩⟩⟩⟩
theorem ndX6 : ∀ j, j < 12 → defaultValue (tyX6 j) = vp_V [.null, .null, .null, .null, .null, .null, .int 0, .int 0, .int 0, .int 0, .int 0, .int 0] j := by decide +kernel
theorem nfX6 : ∀ v ∈ ([.null, .null, .null, .null, .null, .null, .int 0, .int 0, .int 0, .int 0, .int 0, .int 0] : List Value), ∀ ad : Nat → Nat, np_v ad v = v := by
  intro v hv ad
  simp only [List.mem_cons, List.not_mem_nil, or_false] at hv
  rcases hv with rfl | rfl | rfl | rfl | rfl | rfl | rfl | rfl | rfl | rfl | rfl | rfl <;> rfl
theorem dX0_become_0 : decode cX0_become 0 = .ok (.aload_n 0, 1) := by decide +kernel
theorem dX0_become_1 : decode cX0_become 1 = .ok (.aload_n 1, 1) := by decide +kernel
theorem dX0_become_2 : decode cX0_become 2 = .ok (.putfield 18, 3) := by decide +kernel
theorem dX0_become_5 : decode cX0_become 5 = .ok (.aload_n 0, 1) := by decide +kernel
theorem dX0_become_6 : decode cX0_become 6 = .ok (.iload_n 2, 1) := by decide +kernel
theorem dX0_become_7 : decode cX0_become 7 = .ok (.putfield 22, 3) := by decide +kernel
theorem dX0_become_10 : decode cX0_become 10 = .ok (.aload_n 0, 1) := by decide +kernel
theorem dX0_become_11 : decode cX0_become 11 = .ok (.iload_n 3, 1) := by decide +kernel
theorem dX0_become_12 : decode cX0_become 12 = .ok (.putfield 26, 3) := by decide +kernel
theorem dX0_become_15 : decode cX0_become 15 = .ok (.aload_n 0, 1) := by decide +kernel
theorem dX0_become_16 : decode cX0_become 16 = .ok (.iload 4, 2) := by decide +kernel
theorem dX0_become_18 : decode cX0_become 18 = .ok (.putfield 29, 3) := by decide +kernel
theorem dX0_become_21 : decode cX0_become 21 = .ok (.return_, 1) := by decide +kernel
def is_X0_become (Rt : np_Rt) : List (Nat × np_Op) := [(0, np_ald 1 0), (1, np_ald 1 1), (2, nw_putf 0 2 (.object "NotationPress$Table")), (5, np_ald 1 0), (6, np_ild 1 2), (7, nw_putf 0 3 (.int)), (10, np_ald 1 0), (11, np_ild 1 3), (12, nw_putf 0 4 (.int)), (15, np_ald 1 0), (16, np_ild 2 4), (18, nw_putf 0 5 (.int)), (21, np_ret Rt)]
set_option maxRecDepth 20000 in
theorem so_X0_become {X : np_Ctx} {Rt : np_Rt} (hX : np_ok RX0 cX0_become 5 0 0 0 0 .return_ X) (hR : ∀ st w ce sl, Rt st w ce sl → X.2.2.1 st w ce sl) : ∀ q ∈ is_X0_become Rt, np_S X q.1 q.2 :=
  List.forall_mem_cons.mpr ⟨np_s_aload_n hX dX0_become_0 rfl, List.forall_mem_cons.mpr ⟨np_s_aload_n hX dX0_become_1 rfl, List.forall_mem_cons.mpr ⟨np_S.mono (op := np_putf 0 2 (.object "NotationPress$Table")) (np_s_putf hX dX0_become_2 (C := RX0) (T := TX0) (N := 6) (ty0 := tyX0) rfl guX0 tyX0_ok nmX0 (by decide) gw396 rfl rfl) nw_putf_le, List.forall_mem_cons.mpr ⟨np_s_aload_n hX dX0_become_5 rfl, List.forall_mem_cons.mpr ⟨np_s_iload_n hX dX0_become_6 rfl, List.forall_mem_cons.mpr ⟨np_S.mono (op := np_putf 0 3 (.int)) (np_s_putf hX dX0_become_7 (C := RX0) (T := TX0) (N := 6) (ty0 := tyX0) rfl guX0 tyX0_ok nmX0 (by decide) gw397 rfl rfl) nw_putf_le, List.forall_mem_cons.mpr ⟨np_s_aload_n hX dX0_become_10 rfl, List.forall_mem_cons.mpr ⟨np_s_iload_n hX dX0_become_11 rfl, List.forall_mem_cons.mpr ⟨np_S.mono (op := np_putf 0 4 (.int)) (np_s_putf hX dX0_become_12 (C := RX0) (T := TX0) (N := 6) (ty0 := tyX0) rfl guX0 tyX0_ok nmX0 (by decide) gw398 rfl rfl) nw_putf_le, List.forall_mem_cons.mpr ⟨np_s_aload_n hX dX0_become_15 rfl, List.forall_mem_cons.mpr ⟨np_s_iload hX dX0_become_16, List.forall_mem_cons.mpr ⟨np_S.mono (op := np_putf 0 5 (.int)) (np_s_putf hX dX0_become_18 (C := RX0) (T := TX0) (N := 6) (ty0 := tyX0) rfl guX0 tyX0_ok nmX0 (by decide) gw399 rfl rfl) nw_putf_le, List.forall_mem_cons.mpr ⟨np_S.mono (op := np_ret X.2.2.1) (np_s_ret hX dX0_become_21) (nq_ret_le hR), fun _ h => nomatch h⟩⟩⟩⟩⟩⟩⟩⟩⟩⟩⟩⟩⟩
noncomputable def m_X0_become (S : pw_S) (i0 : Nat) (i1 : Nat) (x2 : Int32) (x3 : Int32) (x4 : Int32) : pw_R Unit :=
 pw_l (pw_up S 55 i0 (upd (S 55 i0) 2 (Int32.ofNat i1))) fun S1 =>
 pw_l (pw_up S1 55 i0 (upd (S1 55 i0) 3 x2)) fun S4 =>
 pw_l (pw_up S4 55 i0 (upd (S4 55 i0) 4 x3)) fun S7 =>
 pw_l (pw_up S7 55 i0 (upd (S7 55 i0) 5 x4)) fun S10 =>
 some (S10, ())
def sp_X0_become : np_Sp := fun vs w Q => ∃ (q : Nat) (S : pw_S) (i0 : Nat) (i1 : Nat) (x2 : Int32) (x3 : Int32) (x4 : Int32), vs = [.ref (pw_pl 55 i0), .ref (pw_pl 54 i1), .int x2, .int x3, .int x4] ∧ pw_ok q 55 i0 = true ∧ pw_ok q 54 i1 = true ∧ pw_W q w S ∧ pw_p (m_X0_become S i0 i1 x2 x3 x4) (fun S' r => ∀ f', pw_W q (w.1, f') S' → Q none (w.1, f'))
set_option maxRecDepth 100000 in
set_option maxHeartbeats 8000000 in
theorem C_X0_become : np_C yX0_become cX0_become 5 none 0 0 0 0 sp_X0_become := by
  refine np_of (by decide) ?_
  intro X vs w Q hsp hX hmn hRt hlt
  obtain ⟨q, S, i0, i1, x2, x3, x4, rfl, hi0, hi1, hW, h⟩ := hsp
  obtain ⟨n, f⟩ := w
  unfold m_X0_become at h
  have hR : ∀ st w ce sl, np_rt none 0 0 Q st w ce sl → X.2.2.1 st w ce sl := fun _ _ _ _ h => by rw [hRt]; exact h
  refine np_soundW (so_X0_become hX hR) [] 400 0 _ _ _ _ _ ?_
  conv => whnf
  refine np_rd_i (hW.g hi0) ?_
  conv => whnf
  refine pw_wr (a := 55) (i := i0) (d := upd (S 55 i0) 2 (Int32.ofNat i1)) hW hi0 (congrArg (fun z => (Sum.inr (0, [.ref (pw_pl 17 i0), .ref (pw_pl 18 i0), z, .int (S 55 i0 3), .int (S 55 i0 4), .int (S 55 i0 5)]) : np_E)) (pw_nr_of (q := q) (a := 54) (n := 2) rfl rfl hi1).symm) h (fun S1 f2 hW3 h => ?_)
  conv => whnf
  refine np_rd_i (hW3.g hi0) ?_
  conv => whnf
  refine pw_wr (a := 55) (i := i0) (d := upd (S1 55 i0) 3 x2) hW3 hi0 rfl h (fun S4 f5 hW6 h => ?_)
  conv => whnf
  refine np_rd_i (hW6.g hi0) ?_
  conv => whnf
  refine pw_wr (a := 55) (i := i0) (d := upd (S4 55 i0) 4 x3) hW6 hi0 rfl h (fun S7 f8 hW9 h => ?_)
  conv => whnf
  refine np_rd_i (hW9.g hi0) ?_
  conv => whnf
  refine pw_wr (a := 55) (i := i0) (d := upd (S7 55 i0) 5 x4) hW9 hi0 rfl h (fun S10 f11 hW12 h => ?_)
  conv => whnf
  exact ⟨Nat.le_of_ble_eq_true rfl, Nat.le_of_ble_eq_true rfl, rfl, _, fun _ _ h9 => h9, pw_ps h _ hW12⟩
theorem dX6_hasRow_0 : decode cX6_hasRow 0 = .ok (.iload_n 1, 1) := by decide +kernel
theorem dX6_hasRow_1 : decode cX6_hasRow 1 = .ok (.ifCond .lt 15, 3) := by decide +kernel
theorem dX6_hasRow_4 : decode cX6_hasRow 4 = .ok (.iload_n 1, 1) := by decide +kernel
theorem dX6_hasRow_5 : decode cX6_hasRow 5 = .ok (.aload_n 0, 1) := by decide +kernel
theorem dX6_hasRow_6 : decode cX6_hasRow 6 = .ok (.getfield 39, 3) := by decide +kernel
theorem dX6_hasRow_9 : decode cX6_hasRow 9 = .ok (.if_icmp .ge 7, 3) := by decide +kernel
theorem dX6_hasRow_12 : decode cX6_hasRow 12 = .ok (.iconst 1, 1) := by decide +kernel
theorem dX6_hasRow_13 : decode cX6_hasRow 13 = .ok (.goto 4, 3) := by decide +kernel
theorem dX6_hasRow_16 : decode cX6_hasRow 16 = .ok (.iconst 0, 1) := by decide +kernel
theorem dX6_hasRow_17 : decode cX6_hasRow 17 = .ok (.ireturn, 1) := by decide +kernel
def is_X6_hasRow (Rt : np_Rt) : List (Nat × np_Op) := [(0, np_ild 1 1), (1, nq_if (fun x => x < 0) 16), (4, np_ild 1 1), (5, np_ald 1 0), (6, nw_getf 6 7), (9, nq_ic (fun x y => y ≤ x) 16), (12, np_push 1 (.int 1)), (13, np_goto 17), (16, np_push 1 (.int 0)), (17, np_ret Rt)]
set_option maxRecDepth 20000 in
theorem so_X6_hasRow {X : np_Ctx} {Rt : np_Rt} (hX : np_ok RX6 cX6_hasRow 2 0 0 0 0 .ireturn X) (hR : ∀ st w ce sl, Rt st w ce sl → X.2.2.1 st w ce sl) : ∀ q ∈ is_X6_hasRow Rt, np_S X q.1 q.2 :=
  List.forall_mem_cons.mpr ⟨np_s_iload_n hX dX6_hasRow_0 rfl, List.forall_mem_cons.mpr ⟨np_S.mono (op := np_if (fun x => x < 0) 16) (np_s_if_lt hX dX6_hasRow_1 (by decide)) nq_if_le, List.forall_mem_cons.mpr ⟨np_s_iload_n hX dX6_hasRow_4 rfl, List.forall_mem_cons.mpr ⟨np_s_aload_n hX dX6_hasRow_5 rfl, List.forall_mem_cons.mpr ⟨np_S.mono (op := np_getf 6 7) (np_s_getf hX dX6_hasRow_6 (C := RX6) (T := TX6) (N := 12) rfl guX6 (by decide) gw356) nw_getf_le, List.forall_mem_cons.mpr ⟨np_S.mono (op := np_ic (fun x y => y ≤ x) 16) (np_s_icmp_ge hX dX6_hasRow_9 (by decide)) nq_ic_le, List.forall_mem_cons.mpr ⟨np_s_iconst hX dX6_hasRow_12 (by decide), List.forall_mem_cons.mpr ⟨np_s_goto hX dX6_hasRow_13 (by decide), List.forall_mem_cons.mpr ⟨np_s_iconst hX dX6_hasRow_16 (by decide), List.forall_mem_cons.mpr ⟨np_S.mono (op := np_ret X.2.2.1) (np_s_ret hX dX6_hasRow_17) (nq_ret_le hR), fun _ h => nomatch h⟩⟩⟩⟩⟩⟩⟩⟩⟩⟩
noncomputable def m_X6_hasRow (S : pw_S) (i0 : Nat) (x1 : Int32) : pw_R Int32 :=
 if x1 < 0 then
 (some (S, 0))
 else
 (if (S 54 i0 7) ≤ x1 then
 (some (S, 0))
 else
 (some (S, 1)))
def sp_X6_hasRow : np_Sp := fun vs w Q => ∃ (q : Nat) (S : pw_S) (i0 : Nat) (x1 : Int32), vs = [.ref (pw_pl 54 i0), .int x1] ∧ pw_ok q 54 i0 = true ∧ pw_W q w S ∧ pw_p (m_X6_hasRow S i0 x1) (fun S' r => ∀ f', pw_W q (w.1, f') S' → Q (some (.int r)) (w.1, f'))
set_option maxRecDepth 100000 in
set_option maxHeartbeats 8000000 in
theorem C_X6_hasRow : np_C yX6_hasRow cX6_hasRow 2 (some .boolean) 0 0 0 0 sp_X6_hasRow := by
  refine np_of (by decide) ?_
  intro X vs w Q hsp hX hmn hRt hlt
  obtain ⟨q, S, i0, x1, rfl, hi0, hW, h⟩ := hsp
  obtain ⟨n, f⟩ := w
  unfold m_X6_hasRow at h
  have hR : ∀ st w ce sl, np_rt (some .boolean) 0 0 Q st w ce sl → X.2.2.1 st w ce sl := fun _ _ _ _ h => by rw [hRt]; exact h
  refine np_soundW (so_X6_hasRow hX hR) [] 400 0 _ _ _ _ _ ?_
  conv => whnf
  refine pw_br h (fun _ h => ?_) (fun _ h => ?_)
  · conv => whnf
    exact ⟨Nat.le_of_ble_eq_true rfl, Nat.le_of_ble_eq_true rfl, ⟨_, rfl, by decide⟩, _, fun _ _ h9 => h9, pw_ps h _ hW⟩
  · conv => whnf
    refine np_rd_i (hW.g hi0) ?_
    conv => whnf
    refine pw_br h (fun _ h => ?_) (fun _ h => ?_)
    · conv => whnf
      exact ⟨Nat.le_of_ble_eq_true rfl, Nat.le_of_ble_eq_true rfl, ⟨_, rfl, by decide⟩, _, fun _ _ h9 => h9, pw_ps h _ hW⟩
    · conv => whnf
      exact ⟨Nat.le_of_ble_eq_true rfl, Nat.le_of_ble_eq_true rfl, ⟨_, rfl, by decide⟩, _, fun _ _ h9 => h9, pw_ps h _ hW⟩
theorem dX0_hasRow_0 : decode cX0_hasRow 0 = .ok (.aload_n 0, 1) := by decide +kernel
theorem dX0_hasRow_1 : decode cX0_hasRow 1 = .ok (.getfield 18, 3) := by decide +kernel
theorem dX0_hasRow_4 : decode cX0_hasRow 4 = .ok (.ifnull 18, 3) := by decide +kernel
theorem dX0_hasRow_7 : decode cX0_hasRow 7 = .ok (.aload_n 0, 1) := by decide +kernel
theorem dX0_hasRow_8 : decode cX0_hasRow 8 = .ok (.getfield 18, 3) := by decide +kernel
theorem dX0_hasRow_11 : decode cX0_hasRow 11 = .ok (.iload_n 1, 1) := by decide +kernel
theorem dX0_hasRow_12 : decode cX0_hasRow 12 = .ok (.invokevirtual 32, 3) := by decide +kernel
theorem dX0_hasRow_15 : decode cX0_hasRow 15 = .ok (.ifCond .eq 7, 3) := by decide +kernel
theorem dX0_hasRow_18 : decode cX0_hasRow 18 = .ok (.iconst 1, 1) := by decide +kernel
theorem dX0_hasRow_19 : decode cX0_hasRow 19 = .ok (.goto 4, 3) := by decide +kernel
theorem dX0_hasRow_22 : decode cX0_hasRow 22 = .ok (.iconst 0, 1) := by decide +kernel
theorem dX0_hasRow_23 : decode cX0_hasRow 23 = .ok (.ireturn, 1) := by decide +kernel
def is_X0_hasRow (Rt : np_Rt) : List (Nat × np_Op) := [(0, np_ald 1 0), (1, nw_getn 0 2), (4, np_ifnull 22), (7, np_ald 1 0), (8, nw_getn 0 2), (11, np_ild 1 1), (12, nw_callV 6 2 sp_X6_hasRow 2 0 0 0 0), (15, nq_if (fun x => x = 0) 22), (18, np_push 1 (.int 1)), (19, np_goto 23), (22, np_push 1 (.int 0)), (23, np_ret Rt)]
set_option maxRecDepth 20000 in
theorem so_X0_hasRow {X : np_Ctx} {Rt : np_Rt} (hX : np_ok RX0 cX0_hasRow 2 1 21 0 0 .ireturn X) (hR : ∀ st w ce sl, Rt st w ce sl → X.2.2.1 st w ce sl) : ∀ q ∈ is_X0_hasRow Rt, np_S X q.1 q.2 :=
  List.forall_mem_cons.mpr ⟨np_s_aload_n hX dX0_hasRow_0 rfl, List.forall_mem_cons.mpr ⟨np_S.mono (op := np_getf 0 2) (np_s_getf hX dX0_hasRow_1 (C := RX0) (T := TX0) (N := 6) rfl guX0 (by decide) gw396) nw_getn_le, List.forall_mem_cons.mpr ⟨np_s_ifnull hX dX0_hasRow_4 (by decide), List.forall_mem_cons.mpr ⟨np_s_aload_n hX dX0_hasRow_7 rfl, List.forall_mem_cons.mpr ⟨np_S.mono (op := np_getf 0 2) (np_s_getf hX dX0_hasRow_8 (C := RX0) (T := TX0) (N := 6) rfl guX0 (by decide) gw396) nw_getn_le, List.forall_mem_cons.mpr ⟨np_s_iload_n hX dX0_hasRow_11 rfl, List.forall_mem_cons.mpr ⟨np_S.mono (op := np_callV 6 2 sp_X6_hasRow 2 0 0 0 0) (np_s_callV hX C_X6_hasRow dX0_hasRow_12 (q := (RX6, TX6, 12)) rfl rfl gw1120 gw72 gw1158 gw1118 gw1119 ⟨by decide, by decide, by decide⟩ (by decide) (by decide)) nw_callV_le, List.forall_mem_cons.mpr ⟨np_S.mono (op := np_if (fun x => x = 0) 22) (np_s_if_eq hX dX0_hasRow_15 (by decide)) nq_if_le, List.forall_mem_cons.mpr ⟨np_s_iconst hX dX0_hasRow_18 (by decide), List.forall_mem_cons.mpr ⟨np_s_goto hX dX0_hasRow_19 (by decide), List.forall_mem_cons.mpr ⟨np_s_iconst hX dX0_hasRow_22 (by decide), List.forall_mem_cons.mpr ⟨np_S.mono (op := np_ret X.2.2.1) (np_s_ret hX dX0_hasRow_23) (nq_ret_le hR), fun _ h => nomatch h⟩⟩⟩⟩⟩⟩⟩⟩⟩⟩⟩⟩
noncomputable def m_X0_hasRow (S : pw_S) (i0 : Nat) (x1 : Int32) : pw_R Int32 :=
 if (S 55 i0 2) < 0 then
 (some (S, 0))
 else
 (pw_b (m_X6_hasRow S (pw_dn 2 (S 55 i0 2)) x1) fun S2 r5 =>
 if r5 = 0 then
 (some (S2, 0))
 else
 (some (S2, 1)))
def sp_X0_hasRow : np_Sp := fun vs w Q => ∃ (q : Nat) (S : pw_S) (i0 : Nat) (x1 : Int32), vs = [.ref (pw_pl 55 i0), .int x1] ∧ pw_ok q 55 i0 = true ∧ pw_W q w S ∧ pw_p (m_X0_hasRow S i0 x1) (fun S' r => ∀ f', pw_W q (w.1, f') S' → Q (some (.int r)) (w.1, f'))
set_option maxRecDepth 100000 in
set_option maxHeartbeats 8000000 in
theorem C_X0_hasRow : np_C yX0_hasRow cX0_hasRow 2 (some .boolean) 1 21 0 0 sp_X0_hasRow := by
  refine np_of (by decide) ?_
  intro X vs w Q hsp hX hmn hRt hlt
  obtain ⟨q, S, i0, x1, rfl, hi0, hW, h⟩ := hsp
  obtain ⟨n, f⟩ := w
  unfold m_X0_hasRow at h
  have hR : ∀ st w ce sl, np_rt (some .boolean) 0 0 Q st w ce sl → X.2.2.1 st w ce sl := fun _ _ _ _ h => by rw [hRt]; exact h
  refine np_soundW (so_X0_hasRow hX hR) [] 400 0 _ _ _ _ _ ?_
  conv => whnf
  refine np_rd_i (hW.g hi0) ?_
  conv => whnf
  refine ⟨_, _, _, rfl, ?_⟩
  refine pw_br h (fun _ h => ?_) (fun hn1 h => ?_)
  · conv => whnf
    exact ⟨Nat.le_of_ble_eq_true rfl, Nat.le_of_ble_eq_true rfl, ⟨_, rfl, by decide⟩, _, fun _ _ h9 => h9, pw_ps h _ hW⟩
  · conv => whnf
    refine np_rd_i (hW.g hi0) ?_
    conv => whnf
    refine ⟨_, _, _, rfl, ?_⟩
    refine pw_brn hn1 ?_
    conv => whnf
    refine np_rd_i (hW.g (pw_okd (a := 54) (n := 2) rfl rfl rfl)) ?_
    conv => whnf
    refine ⟨q, S, (pw_dn 2 (S 55 i0 2)), x1, rfl, (pw_okd (a := 54) (n := 2) rfl rfl rfl), hW, pw_bd h (fun S2 r5 h f3 hW4 => ?_)⟩
    conv => whnf
    refine pw_br h (fun _ h => ?_) (fun _ h => ?_)
    · conv => whnf
      exact ⟨Nat.le_of_ble_eq_true rfl, Nat.le_of_ble_eq_true rfl, ⟨_, rfl, by decide⟩, _, fun _ _ h9 => h9, pw_ps h _ hW4⟩
    · conv => whnf
      exact ⟨Nat.le_of_ble_eq_true rfl, Nat.le_of_ble_eq_true rfl, ⟨_, rfl, by decide⟩, _, fun _ _ h9 => h9, pw_ps h _ hW4⟩
theorem dX11_cellPlace_0 : decode cX11_cellPlace 0 = .ok (.iload_n 0, 1) := by decide +kernel
theorem dX11_cellPlace_1 : decode cX11_cellPlace 1 = .ok (.iconst 3, 1) := by decide +kernel
theorem dX11_cellPlace_2 : decode cX11_cellPlace 2 = .ok (.imul, 1) := by decide +kernel
theorem dX11_cellPlace_3 : decode cX11_cellPlace 3 = .ok (.iload_n 1, 1) := by decide +kernel
theorem dX11_cellPlace_4 : decode cX11_cellPlace 4 = .ok (.iadd, 1) := by decide +kernel
theorem dX11_cellPlace_5 : decode cX11_cellPlace 5 = .ok (.ireturn, 1) := by decide +kernel
def is_X11_cellPlace (Rt : np_Rt) : List (Nat × np_Op) := [(0, np_ild 1 0), (1, np_push 1 (.int 3)), (2, np_ib (fun x y => x * y)), (3, np_ild 1 1), (4, np_ib (fun x y => x + y)), (5, np_ret Rt)]
set_option maxRecDepth 20000 in
theorem so_X11_cellPlace {X : np_Ctx} {Rt : np_Rt} (hX : np_ok RX11 cX11_cellPlace 2 0 0 0 0 .ireturn X) (hR : ∀ st w ce sl, Rt st w ce sl → X.2.2.1 st w ce sl) : ∀ q ∈ is_X11_cellPlace Rt, np_S X q.1 q.2 :=
  List.forall_mem_cons.mpr ⟨np_s_iload_n hX dX11_cellPlace_0 rfl, List.forall_mem_cons.mpr ⟨np_s_iconst hX dX11_cellPlace_1 (by decide), List.forall_mem_cons.mpr ⟨np_s_imul hX dX11_cellPlace_2, List.forall_mem_cons.mpr ⟨np_s_iload_n hX dX11_cellPlace_3 rfl, List.forall_mem_cons.mpr ⟨np_s_iadd hX dX11_cellPlace_4, List.forall_mem_cons.mpr ⟨np_S.mono (op := np_ret X.2.2.1) (np_s_ret hX dX11_cellPlace_5) (nq_ret_le hR), fun _ h => nomatch h⟩⟩⟩⟩⟩⟩
noncomputable def m_X11_cellPlace (S : pw_S) (x0 : Int32) (x1 : Int32) : pw_R Int32 :=
 some (S, ((x0 * 3) + x1))
def sp_X11_cellPlace : np_Sp := fun vs w Q => ∃ (q : Nat) (S : pw_S) (x0 : Int32) (x1 : Int32), vs = [.int x0, .int x1] ∧ pw_W q w S ∧ pw_p (m_X11_cellPlace S x0 x1) (fun S' r => ∀ f', pw_W q (w.1, f') S' → Q (some (.int r)) (w.1, f'))
set_option maxRecDepth 100000 in
set_option maxHeartbeats 8000000 in
theorem C_X11_cellPlace : np_C yX11_cellPlace cX11_cellPlace 2 (some .int) 0 0 0 0 sp_X11_cellPlace := by
  refine np_of (by decide) ?_
  intro X vs w Q hsp hX hmn hRt hlt
  obtain ⟨q, S, x0, x1, rfl, hW, h⟩ := hsp
  obtain ⟨n, f⟩ := w
  unfold m_X11_cellPlace at h
  have hR : ∀ st w ce sl, np_rt (some .int) 0 0 Q st w ce sl → X.2.2.1 st w ce sl := fun _ _ _ _ h => by rw [hRt]; exact h
  refine np_soundW (so_X11_cellPlace hX hR) [] 400 0 _ _ _ _ _ ?_
  conv => whnf
  exact ⟨Nat.le_of_ble_eq_true rfl, Nat.le_of_ble_eq_true rfl, ⟨_, rfl⟩, _, fun _ _ h9 => h9, pw_ps h _ hW⟩
theorem dX11_at_0 : decode cX11_at 0 = .ok (.iload_n 1, 1) := by decide +kernel
theorem dX11_at_1 : decode cX11_at 1 = .ok (.ifCond .lt 15, 3) := by decide +kernel
theorem dX11_at_4 : decode cX11_at 4 = .ok (.iload_n 1, 1) := by decide +kernel
theorem dX11_at_5 : decode cX11_at 5 = .ok (.aload_n 0, 1) := by decide +kernel
theorem dX11_at_6 : decode cX11_at 6 = .ok (.arraylength, 1) := by decide +kernel
theorem dX11_at_7 : decode cX11_at 7 = .ok (.if_icmp .ge 9, 3) := by decide +kernel
theorem dX11_at_10 : decode cX11_at 10 = .ok (.aload_n 0, 1) := by decide +kernel
theorem dX11_at_11 : decode cX11_at 11 = .ok (.iload_n 1, 1) := by decide +kernel
theorem dX11_at_12 : decode cX11_at 12 = .ok (.iaload, 1) := by decide +kernel
theorem dX11_at_13 : decode cX11_at 13 = .ok (.goto 4, 3) := by decide +kernel
theorem dX11_at_16 : decode cX11_at 16 = .ok (.iload_n 2, 1) := by decide +kernel
theorem dX11_at_17 : decode cX11_at 17 = .ok (.ireturn, 1) := by decide +kernel
def is_X11_at (Rt : np_Rt) : List (Nat × np_Op) := [(0, np_ild 1 1), (1, nq_if (fun x => x < 0) 16), (4, np_ild 1 1), (5, np_ald 1 0), (6, nw_alen), (7, nq_ic (fun x y => y ≤ x) 16), (10, np_ald 1 0), (11, np_ild 1 1), (12, nw_ialdT .int), (13, np_goto 17), (16, np_ild 1 2), (17, np_ret Rt)]
set_option maxRecDepth 20000 in
theorem so_X11_at {X : np_Ctx} {Rt : np_Rt} (hX : np_ok RX11 cX11_at 3 0 0 0 0 .ireturn X) (hR : ∀ st w ce sl, Rt st w ce sl → X.2.2.1 st w ce sl) : ∀ q ∈ is_X11_at Rt, np_S X q.1 q.2 :=
  List.forall_mem_cons.mpr ⟨np_s_iload_n hX dX11_at_0 rfl, List.forall_mem_cons.mpr ⟨np_S.mono (op := np_if (fun x => x < 0) 16) (np_s_if_lt hX dX11_at_1 (by decide)) nq_if_le, List.forall_mem_cons.mpr ⟨np_s_iload_n hX dX11_at_4 rfl, List.forall_mem_cons.mpr ⟨np_s_aload_n hX dX11_at_5 rfl, List.forall_mem_cons.mpr ⟨np_S.mono (op := np_alen) (np_s_alen hX dX11_at_6) nw_alen_le, List.forall_mem_cons.mpr ⟨np_S.mono (op := np_ic (fun x y => y ≤ x) 16) (np_s_icmp_ge hX dX11_at_7 (by decide)) nq_ic_le, List.forall_mem_cons.mpr ⟨np_s_aload_n hX dX11_at_10 rfl, List.forall_mem_cons.mpr ⟨np_s_iload_n hX dX11_at_11 rfl, List.forall_mem_cons.mpr ⟨np_S.mono (op := np_ialdT .int) (np_s_iald hX dX11_at_12) nw_ialdT_le, List.forall_mem_cons.mpr ⟨np_s_goto hX dX11_at_13 (by decide), List.forall_mem_cons.mpr ⟨np_s_iload_n hX dX11_at_16 rfl, List.forall_mem_cons.mpr ⟨np_S.mono (op := np_ret X.2.2.1) (np_s_ret hX dX11_at_17) (nq_ret_le hR), fun _ h => nomatch h⟩⟩⟩⟩⟩⟩⟩⟩⟩⟩⟩⟩
noncomputable def m_X11_at (S : pw_S) (a0 : Nat) (i0 : Nat) (x1 : Int32) (x2 : Int32) : pw_R Int32 :=
 if x1 < 0 then
 (some (S, x2))
 else
 (if (Int32.ofNat (pw_len a0)) ≤ x1 then
 (some (S, x2))
 else
 (pw_c (np_inb x1 (pw_len a0)) <|
 some (S, (S a0 i0 (x1 : Int32).toNatClampNeg))))
def sp_X11_at : np_Sp := fun vs w Q => ∃ (q : Nat) (S : pw_S) (a0 : Nat) (i0 : Nat) (x1 : Int32) (x2 : Int32), vs = [.ref (pw_pl a0 i0), .int x1, .int x2] ∧ pw_arr a0 = true ∧ pw_ok q a0 i0 = true ∧ pw_W q w S ∧ pw_p (m_X11_at S a0 i0 x1 x2) (fun S' r => ∀ f', pw_W q (w.1, f') S' → Q (some (.int r)) (w.1, f'))
set_option maxRecDepth 100000 in
set_option maxHeartbeats 8000000 in
theorem C_X11_at : np_C yX11_at cX11_at 3 (some .int) 0 0 0 0 sp_X11_at := by
  refine np_of (by decide) ?_
  intro X vs w Q hsp hX hmn hRt hlt
  obtain ⟨q, S, a0, i0, x1, x2, rfl, ha0, hi0, hW, h⟩ := hsp
  obtain ⟨n, f⟩ := w
  unfold m_X11_at at h
  have hR : ∀ st w ce sl, np_rt (some .int) 0 0 Q st w ce sl → X.2.2.1 st w ce sl := fun _ _ _ _ h => by rw [hRt]; exact h
  refine np_soundW (so_X11_at hX hR) [] 400 0 _ _ _ _ _ ?_
  conv => whnf
  refine pw_br h (fun _ h => ?_) (fun _ h => ?_)
  · conv => whnf
    exact ⟨Nat.le_of_ble_eq_true rfl, Nat.le_of_ble_eq_true rfl, ⟨_, rfl⟩, _, fun _ _ h9 => h9, pw_ps h _ hW⟩
  · conv => whnf
    refine np_rd_i (hW.ga ha0 hi0) ?_
    conv => whnf
    refine pw_br h (fun _ h => ?_) (fun _ h => ?_)
    · conv => whnf
      exact ⟨Nat.le_of_ble_eq_true rfl, Nat.le_of_ble_eq_true rfl, ⟨_, rfl⟩, _, fun _ _ h9 => h9, pw_ps h _ hW⟩
    · conv => whnf
      refine np_rd_i (hW.ga ha0 hi0) ?_
      conv => whnf
      refine pw_ck h (fun _ h => ?_)
      conv => whnf
      exact ⟨Nat.le_of_ble_eq_true rfl, Nat.le_of_ble_eq_true rfl, ⟨_, rfl⟩, _, fun _ _ h9 => h9, pw_ps h _ hW⟩
theorem dX6_told_0 : decode cX6_told 0 = .ok (.aload_n 0, 1) := by decide +kernel
theorem dX6_told_1 : decode cX6_told 1 = .ok (.iload_n 1, 1) := by decide +kernel
theorem dX6_told_2 : decode cX6_told 2 = .ok (.invokevirtual 48, 3) := by decide +kernel
theorem dX6_told_5 : decode cX6_told 5 = .ok (.ifCond .eq 21, 3) := by decide +kernel
theorem dX6_told_8 : decode cX6_told 8 = .ok (.aload_n 0, 1) := by decide +kernel
theorem dX6_told_9 : decode cX6_told 9 = .ok (.getfield 9, 3) := by decide +kernel
theorem dX6_told_12 : decode cX6_told 12 = .ok (.iload_n 1, 1) := by decide +kernel
theorem dX6_told_13 : decode cX6_told 13 = .ok (.bipush 24, 2) := by decide +kernel
theorem dX6_told_15 : decode cX6_told 15 = .ok (.imul, 1) := by decide +kernel
theorem dX6_told_16 : decode cX6_told 16 = .ok (.iload_n 2, 1) := by decide +kernel
theorem dX6_told_17 : decode cX6_told 17 = .ok (.iadd, 1) := by decide +kernel
theorem dX6_told_18 : decode cX6_told 18 = .ok (.ldc 52, 2) := by decide +kernel
theorem dX6_told_20 : decode cX6_told 20 = .ok (.invokestatic 53, 3) := by decide +kernel
theorem dX6_told_23 : decode cX6_told 23 = .ok (.goto 5, 3) := by decide +kernel
theorem dX6_told_26 : decode cX6_told 26 = .ok (.ldc 52, 2) := by decide +kernel
theorem dX6_told_28 : decode cX6_told 28 = .ok (.ireturn, 1) := by decide +kernel
def is_X6_told (Rt : np_Rt) : List (Nat × np_Op) := [(0, np_ald 1 0), (1, np_ild 1 1), (2, nw_callV 6 2 sp_X6_hasRow 2 0 0 0 0), (5, nq_if (fun x => x = 0) 26), (8, np_ald 1 0), (9, nw_getf 6 0), (12, np_ild 1 1), (13, np_push 2 (.int 24)), (15, np_ib (fun x y => x * y)), (16, np_ild 1 2), (17, np_ib (fun x y => x + y)), (18, np_push 2 (.int (-2147483648))), (20, nq_call 3 sp_X11_at 3 0 0 0 0), (23, np_goto 28), (26, np_push 2 (.int (-2147483648))), (28, np_ret Rt)]
set_option maxRecDepth 20000 in
theorem so_X6_told {X : np_Ctx} {Rt : np_Rt} (hX : np_ok RX6 cX6_told 3 1 22 0 0 .ireturn X) (hR : ∀ st w ce sl, Rt st w ce sl → X.2.2.1 st w ce sl) : ∀ q ∈ is_X6_told Rt, np_S X q.1 q.2 :=
  List.forall_mem_cons.mpr ⟨np_s_aload_n hX dX6_told_0 rfl, List.forall_mem_cons.mpr ⟨np_s_iload_n hX dX6_told_1 rfl, List.forall_mem_cons.mpr ⟨np_S.mono (op := np_callV 6 2 sp_X6_hasRow 2 0 0 0 0) (np_s_callV hX C_X6_hasRow dX6_told_2 (q := (RX6, TX6, 12)) rfl rfl gw1120 gw72 gw1117 gw1118 gw1119 ⟨by decide, by decide, by decide⟩ (by decide) (by decide)) nw_callV_le, List.forall_mem_cons.mpr ⟨np_S.mono (op := np_if (fun x => x = 0) 26) (np_s_if_eq hX dX6_told_5 (by decide)) nq_if_le, List.forall_mem_cons.mpr ⟨np_s_aload_n hX dX6_told_8 rfl, List.forall_mem_cons.mpr ⟨np_S.mono (op := np_getf 6 0) (np_s_getf hX dX6_told_9 (C := RX6) (T := TX6) (N := 12) rfl guX6 (by decide) gw345) nw_getf_le, List.forall_mem_cons.mpr ⟨np_s_iload_n hX dX6_told_12 rfl, List.forall_mem_cons.mpr ⟨np_s_bipush hX dX6_told_13 (by decide), List.forall_mem_cons.mpr ⟨np_s_imul hX dX6_told_15, List.forall_mem_cons.mpr ⟨np_s_iload_n hX dX6_told_16 rfl, List.forall_mem_cons.mpr ⟨np_s_iadd hX dX6_told_17, List.forall_mem_cons.mpr ⟨np_s_ldc hX dX6_told_18 gw1121, List.forall_mem_cons.mpr ⟨np_S.mono (op := np_call 3 sp_X11_at 3 0 0 0 0) (np_s_callSN hX C_X11_at dX6_told_20 gw653 gw63 gw1122 gw652 ⟨by decide, by decide, by decide⟩ (by decide) (by decide)) nq_call_le, List.forall_mem_cons.mpr ⟨np_s_goto hX dX6_told_23 (by decide), List.forall_mem_cons.mpr ⟨np_s_ldc hX dX6_told_26 gw1121, List.forall_mem_cons.mpr ⟨np_S.mono (op := np_ret X.2.2.1) (np_s_ret hX dX6_told_28) (nq_ret_le hR), fun _ h => nomatch h⟩⟩⟩⟩⟩⟩⟩⟩⟩⟩⟩⟩⟩⟩⟩⟩
noncomputable def m_X6_told (S : pw_S) (i0 : Nat) (x1 : Int32) (x2 : Int32) : pw_R Int32 :=
 pw_b (m_X6_hasRow S i0 x1) fun S1 r4 =>
 if r4 = 0 then
 (some (S1, (-2147483648)))
 else
 (pw_b (m_X11_at S1 12 i0 ((x1 * 24) + x2) (-2147483648)) fun S6 r9 =>
 some (S6, r9))
def sp_X6_told : np_Sp := fun vs w Q => ∃ (q : Nat) (S : pw_S) (i0 : Nat) (x1 : Int32) (x2 : Int32), vs = [.ref (pw_pl 54 i0), .int x1, .int x2] ∧ pw_ok q 54 i0 = true ∧ pw_W q w S ∧ pw_p (m_X6_told S i0 x1 x2) (fun S' r => ∀ f', pw_W q (w.1, f') S' → Q (some (.int r)) (w.1, f'))
set_option maxRecDepth 100000 in
set_option maxHeartbeats 8000000 in
theorem C_X6_told : np_C yX6_told cX6_told 3 (some .int) 1 22 0 0 sp_X6_told := by
  refine np_of (by decide) ?_
  intro X vs w Q hsp hX hmn hRt hlt
  obtain ⟨q, S, i0, x1, x2, rfl, hi0, hW, h⟩ := hsp
  obtain ⟨n, f⟩ := w
  unfold m_X6_told at h
  have hR : ∀ st w ce sl, np_rt (some .int) 0 0 Q st w ce sl → X.2.2.1 st w ce sl := fun _ _ _ _ h => by rw [hRt]; exact h
  refine np_soundW (so_X6_told hX hR) [] 400 0 _ _ _ _ _ ?_
  conv => whnf
  refine np_rd_i (hW.g hi0) ?_
  conv => whnf
  refine ⟨q, S, i0, x1, rfl, hi0, hW, pw_bd h (fun S1 r4 h f2 hW3 => ?_)⟩
  conv => whnf
  refine pw_br h (fun _ h => ?_) (fun _ h => ?_)
  · conv => whnf
    exact ⟨Nat.le_of_ble_eq_true rfl, Nat.le_of_ble_eq_true rfl, ⟨_, rfl⟩, _, fun _ _ h9 => h9, pw_ps h _ hW3⟩
  · conv => whnf
    refine np_rd_i (hW3.g hi0) ?_
    conv => whnf
    refine ⟨q, S1, 12, i0, ((x1 * 24) + x2), (-2147483648), rfl, rfl, hi0, hW3, pw_bd h (fun S6 r9 h f7 hW8 => ?_)⟩
    conv => whnf
    exact ⟨Nat.le_of_ble_eq_true rfl, Nat.le_of_ble_eq_true rfl, ⟨_, rfl⟩, _, fun _ _ h9 => h9, pw_ps h _ hW8⟩
theorem dX6_key_0 : decode cX6_key 0 = .ok (.aload_n 0, 1) := by decide +kernel
theorem dX6_key_1 : decode cX6_key 1 = .ok (.iload_n 1, 1) := by decide +kernel
theorem dX6_key_2 : decode cX6_key 2 = .ok (.iload_n 2, 1) := by decide +kernel
theorem dX6_key_3 : decode cX6_key 3 = .ok (.iconst 0, 1) := by decide +kernel
theorem dX6_key_4 : decode cX6_key 4 = .ok (.invokestatic 57, 3) := by decide +kernel
theorem dX6_key_7 : decode cX6_key 7 = .ok (.invokevirtual 61, 3) := by decide +kernel
theorem dX6_key_10 : decode cX6_key 10 = .ok (.ireturn, 1) := by decide +kernel
def is_X6_key (Rt : np_Rt) : List (Nat × np_Op) := [(0, np_ald 1 0), (1, np_ild 1 1), (2, np_ild 1 2), (3, np_push 1 (.int 0)), (4, nq_call 2 sp_X11_cellPlace 2 0 0 0 0), (7, nw_callV 6 3 sp_X6_told 3 0 0 0 0), (10, np_ret Rt)]
set_option maxRecDepth 20000 in
theorem so_X6_key {X : np_Ctx} {Rt : np_Rt} (hX : np_ok RX6 cX6_key 3 2 44 0 0 .ireturn X) (hR : ∀ st w ce sl, Rt st w ce sl → X.2.2.1 st w ce sl) : ∀ q ∈ is_X6_key Rt, np_S X q.1 q.2 :=
  List.forall_mem_cons.mpr ⟨np_s_aload_n hX dX6_key_0 rfl, List.forall_mem_cons.mpr ⟨np_s_iload_n hX dX6_key_1 rfl, List.forall_mem_cons.mpr ⟨np_s_iload_n hX dX6_key_2 rfl, List.forall_mem_cons.mpr ⟨np_s_iconst hX dX6_key_3 (by decide), List.forall_mem_cons.mpr ⟨np_S.mono (op := np_call 2 sp_X11_cellPlace 2 0 0 0 0) (np_s_callSN hX C_X11_cellPlace dX6_key_4 gw725 gw63 gw1112 gw724 ⟨by decide, by decide, by decide⟩ (by decide) (by decide)) nq_call_le, List.forall_mem_cons.mpr ⟨np_S.mono (op := np_callV 6 3 sp_X6_told 3 0 0 0 0) (np_s_callV hX C_X6_told dX6_key_7 (q := (RX6, TX6, 12)) rfl rfl gw1116 gw72 gw1113 gw1114 gw1115 ⟨by decide, by decide, by decide⟩ (by decide) (by decide)) nw_callV_le, List.forall_mem_cons.mpr ⟨np_S.mono (op := np_ret X.2.2.1) (np_s_ret hX dX6_key_10) (nq_ret_le hR), fun _ h => nomatch h⟩⟩⟩⟩⟩⟩⟩
noncomputable def m_X6_key (S : pw_S) (i0 : Nat) (x1 : Int32) (x2 : Int32) : pw_R Int32 :=
 pw_b (m_X11_cellPlace S x2 0) fun S1 r4 =>
 pw_b (m_X6_told S1 i0 x1 r4) fun S6 r9 =>
 some (S6, r9)
def sp_X6_key : np_Sp := fun vs w Q => ∃ (q : Nat) (S : pw_S) (i0 : Nat) (x1 : Int32) (x2 : Int32), vs = [.ref (pw_pl 54 i0), .int x1, .int x2] ∧ pw_ok q 54 i0 = true ∧ pw_W q w S ∧ pw_p (m_X6_key S i0 x1 x2) (fun S' r => ∀ f', pw_W q (w.1, f') S' → Q (some (.int r)) (w.1, f'))
set_option maxRecDepth 100000 in
set_option maxHeartbeats 8000000 in
theorem C_X6_key : np_C yX6_key cX6_key 3 (some .int) 2 44 0 0 sp_X6_key := by
  refine np_of (by decide) ?_
  intro X vs w Q hsp hX hmn hRt hlt
  obtain ⟨q, S, i0, x1, x2, rfl, hi0, hW, h⟩ := hsp
  obtain ⟨n, f⟩ := w
  unfold m_X6_key at h
  have hR : ∀ st w ce sl, np_rt (some .int) 0 0 Q st w ce sl → X.2.2.1 st w ce sl := fun _ _ _ _ h => by rw [hRt]; exact h
  refine np_soundW (so_X6_key hX hR) [] 400 0 _ _ _ _ _ ?_
  conv => whnf
  refine ⟨q, S, x2, 0, rfl, hW, pw_bd h (fun S1 r4 h f2 hW3 => ?_)⟩
  conv => whnf
  refine np_rd_i (hW3.g hi0) ?_
  conv => whnf
  refine ⟨q, S1, i0, x1, r4, rfl, hi0, hW3, pw_bd h (fun S6 r9 h f7 hW8 => ?_)⟩
  conv => whnf
  exact ⟨Nat.le_of_ble_eq_true rfl, Nat.le_of_ble_eq_true rfl, ⟨_, rfl⟩, _, fun _ _ h9 => h9, pw_ps h _ hW8⟩
theorem dX0_told_0 : decode cX0_told 0 = .ok (.aload_n 0, 1) := by decide +kernel
theorem dX0_told_1 : decode cX0_told 1 = .ok (.getfield 18, 3) := by decide +kernel
theorem dX0_told_4 : decode cX0_told 4 = .ok (.ifnonnull 8, 3) := by decide +kernel
theorem dX0_told_7 : decode cX0_told 7 = .ok (.ldc 38, 2) := by decide +kernel
theorem dX0_told_9 : decode cX0_told 9 = .ok (.goto 15, 3) := by decide +kernel
theorem dX0_told_12 : decode cX0_told 12 = .ok (.aload_n 0, 1) := by decide +kernel
theorem dX0_told_13 : decode cX0_told 13 = .ok (.getfield 18, 3) := by decide +kernel
theorem dX0_told_16 : decode cX0_told 16 = .ok (.iload_n 1, 1) := by decide +kernel
theorem dX0_told_17 : decode cX0_told 17 = .ok (.aload_n 0, 1) := by decide +kernel
theorem dX0_told_18 : decode cX0_told 18 = .ok (.getfield 26, 3) := by decide +kernel
theorem dX0_told_21 : decode cX0_told 21 = .ok (.invokevirtual 39, 3) := by decide +kernel
theorem dX0_told_24 : decode cX0_told 24 = .ok (.ireturn, 1) := by decide +kernel
def is_X0_told (Rt : np_Rt) : List (Nat × np_Op) := [(0, np_ald 1 0), (1, nw_getn 0 2), (4, np_ifnonnull 12), (7, np_push 2 (.int (-2147483648))), (9, np_goto 24), (12, np_ald 1 0), (13, nw_getn 0 2), (16, np_ild 1 1), (17, np_ald 1 0), (18, nw_getf 0 4), (21, nw_callV 6 3 sp_X6_key 3 0 0 0 0), (24, np_ret Rt)]
set_option maxRecDepth 20000 in
theorem so_X0_told {X : np_Ctx} {Rt : np_Rt} (hX : np_ok RX0 cX0_told 2 3 66 0 0 .ireturn X) (hR : ∀ st w ce sl, Rt st w ce sl → X.2.2.1 st w ce sl) : ∀ q ∈ is_X0_told Rt, np_S X q.1 q.2 :=
  List.forall_mem_cons.mpr ⟨np_s_aload_n hX dX0_told_0 rfl, List.forall_mem_cons.mpr ⟨np_S.mono (op := np_getf 0 2) (np_s_getf hX dX0_told_1 (C := RX0) (T := TX0) (N := 6) rfl guX0 (by decide) gw396) nw_getn_le, List.forall_mem_cons.mpr ⟨np_s_ifnonnull hX dX0_told_4 (by decide), List.forall_mem_cons.mpr ⟨np_s_ldc hX dX0_told_7 gw1168, List.forall_mem_cons.mpr ⟨np_s_goto hX dX0_told_9 (by decide), List.forall_mem_cons.mpr ⟨np_s_aload_n hX dX0_told_12 rfl, List.forall_mem_cons.mpr ⟨np_S.mono (op := np_getf 0 2) (np_s_getf hX dX0_told_13 (C := RX0) (T := TX0) (N := 6) rfl guX0 (by decide) gw396) nw_getn_le, List.forall_mem_cons.mpr ⟨np_s_iload_n hX dX0_told_16 rfl, List.forall_mem_cons.mpr ⟨np_s_aload_n hX dX0_told_17 rfl, List.forall_mem_cons.mpr ⟨np_S.mono (op := np_getf 0 4) (np_s_getf hX dX0_told_18 (C := RX0) (T := TX0) (N := 6) rfl guX0 (by decide) gw398) nw_getf_le, List.forall_mem_cons.mpr ⟨np_S.mono (op := np_callV 6 3 sp_X6_key 3 0 0 0 0) (np_s_callV hX C_X6_key dX0_told_21 (q := (RX6, TX6, 12)) rfl rfl gw1111 gw72 gw1169 gw1109 gw1110 ⟨by decide, by decide, by decide⟩ (by decide) (by decide)) nw_callV_le, List.forall_mem_cons.mpr ⟨np_S.mono (op := np_ret X.2.2.1) (np_s_ret hX dX0_told_24) (nq_ret_le hR), fun _ h => nomatch h⟩⟩⟩⟩⟩⟩⟩⟩⟩⟩⟩⟩
noncomputable def m_X0_told (S : pw_S) (i0 : Nat) (x1 : Int32) : pw_R Int32 :=
 if (S 55 i0 2) < 0 then
 (some (S, (-2147483648)))
 else
 (pw_b (m_X6_key S (pw_dn 2 (S 55 i0 2)) x1 (S 55 i0 4)) fun S2 r5 =>
 some (S2, r5))
def sp_X0_told : np_Sp := fun vs w Q => ∃ (q : Nat) (S : pw_S) (i0 : Nat) (x1 : Int32), vs = [.ref (pw_pl 55 i0), .int x1] ∧ pw_ok q 55 i0 = true ∧ pw_W q w S ∧ pw_p (m_X0_told S i0 x1) (fun S' r => ∀ f', pw_W q (w.1, f') S' → Q (some (.int r)) (w.1, f'))
set_option maxRecDepth 100000 in
set_option maxHeartbeats 8000000 in
theorem C_X0_told : np_C yX0_told cX0_told 2 (some .int) 3 66 0 0 sp_X0_told := by
  refine np_of (by decide) ?_
  intro X vs w Q hsp hX hmn hRt hlt
  obtain ⟨q, S, i0, x1, rfl, hi0, hW, h⟩ := hsp
  obtain ⟨n, f⟩ := w
  unfold m_X0_told at h
  have hR : ∀ st w ce sl, np_rt (some .int) 0 0 Q st w ce sl → X.2.2.1 st w ce sl := fun _ _ _ _ h => by rw [hRt]; exact h
  refine np_soundW (so_X0_told hX hR) [] 400 0 _ _ _ _ _ ?_
  conv => whnf
  refine np_rd_i (hW.g hi0) ?_
  conv => whnf
  refine ⟨_, _, _, rfl, ?_⟩
  refine pw_br h (fun _ h => ?_) (fun hn1 h => ?_)
  · conv => whnf
    exact ⟨Nat.le_of_ble_eq_true rfl, Nat.le_of_ble_eq_true rfl, ⟨_, rfl⟩, _, fun _ _ h9 => h9, pw_ps h _ hW⟩
  · conv => whnf
    refine np_rd_i (hW.g hi0) ?_
    conv => whnf
    refine ⟨_, _, _, rfl, ?_⟩
    refine pw_brn hn1 ?_
    conv => whnf
    refine np_rd_i (hW.g hi0) ?_
    conv => whnf
    refine np_rd_i (hW.g (pw_okd (a := 54) (n := 2) rfl rfl rfl)) ?_
    conv => whnf
    refine ⟨q, S, (pw_dn 2 (S 55 i0 2)), x1, (S 55 i0 4), rfl, (pw_okd (a := 54) (n := 2) rfl rfl rfl), hW, pw_bd h (fun S2 r5 h f3 hW4 => ?_)⟩
    conv => whnf
    exact ⟨Nat.le_of_ble_eq_true rfl, Nat.le_of_ble_eq_true rfl, ⟨_, rfl⟩, _, fun _ _ h9 => h9, pw_ps h _ hW4⟩
theorem dX0_difference_0 : decode cX0_difference 0 = .ok (.iload_n 0, 1) := by decide +kernel
theorem dX0_difference_1 : decode cX0_difference 1 = .ok (.ldc 38, 2) := by decide +kernel
theorem dX0_difference_3 : decode cX0_difference 3 = .ok (.if_icmp .eq 9, 3) := by decide +kernel
theorem dX0_difference_6 : decode cX0_difference 6 = .ok (.iload_n 1, 1) := by decide +kernel
theorem dX0_difference_7 : decode cX0_difference 7 = .ok (.ldc 38, 2) := by decide +kernel
theorem dX0_difference_9 : decode cX0_difference 9 = .ok (.if_icmp .ne 8, 3) := by decide +kernel
theorem dX0_difference_12 : decode cX0_difference 12 = .ok (.ldc 38, 2) := by decide +kernel
theorem dX0_difference_14 : decode cX0_difference 14 = .ok (.goto 6, 3) := by decide +kernel
theorem dX0_difference_17 : decode cX0_difference 17 = .ok (.iload_n 0, 1) := by decide +kernel
theorem dX0_difference_18 : decode cX0_difference 18 = .ok (.iload_n 1, 1) := by decide +kernel
theorem dX0_difference_19 : decode cX0_difference 19 = .ok (.isub, 1) := by decide +kernel
theorem dX0_difference_20 : decode cX0_difference 20 = .ok (.ireturn, 1) := by decide +kernel
def is_X0_difference (Rt : np_Rt) : List (Nat × np_Op) := [(0, np_ild 1 0), (1, np_push 2 (.int (-2147483648))), (3, nq_ic (fun x y => x = y) 12), (6, np_ild 1 1), (7, np_push 2 (.int (-2147483648))), (9, nq_icne 17), (12, np_push 2 (.int (-2147483648))), (14, np_goto 20), (17, np_ild 1 0), (18, np_ild 1 1), (19, np_ib (fun x y => x - y)), (20, np_ret Rt)]
set_option maxRecDepth 20000 in
theorem so_X0_difference {X : np_Ctx} {Rt : np_Rt} (hX : np_ok RX0 cX0_difference 2 0 0 0 0 .ireturn X) (hR : ∀ st w ce sl, Rt st w ce sl → X.2.2.1 st w ce sl) : ∀ q ∈ is_X0_difference Rt, np_S X q.1 q.2 :=
  List.forall_mem_cons.mpr ⟨np_s_iload_n hX dX0_difference_0 rfl, List.forall_mem_cons.mpr ⟨np_s_ldc hX dX0_difference_1 gw1168, List.forall_mem_cons.mpr ⟨np_S.mono (op := np_ic (fun x y => x = y) 12) (np_s_icmp_eq hX dX0_difference_3 (by decide)) nq_ic_le, List.forall_mem_cons.mpr ⟨np_s_iload_n hX dX0_difference_6 rfl, List.forall_mem_cons.mpr ⟨np_s_ldc hX dX0_difference_7 gw1168, List.forall_mem_cons.mpr ⟨np_S.mono (op := np_icne 17) (np_s_icmp_ne hX dX0_difference_9 (by decide)) nq_icne_le, List.forall_mem_cons.mpr ⟨np_s_ldc hX dX0_difference_12 gw1168, List.forall_mem_cons.mpr ⟨np_s_goto hX dX0_difference_14 (by decide), List.forall_mem_cons.mpr ⟨np_s_iload_n hX dX0_difference_17 rfl, List.forall_mem_cons.mpr ⟨np_s_iload_n hX dX0_difference_18 rfl, List.forall_mem_cons.mpr ⟨np_s_isub hX dX0_difference_19, List.forall_mem_cons.mpr ⟨np_S.mono (op := np_ret X.2.2.1) (np_s_ret hX dX0_difference_20) (nq_ret_le hR), fun _ h => nomatch h⟩⟩⟩⟩⟩⟩⟩⟩⟩⟩⟩⟩
noncomputable def m_X0_difference (S : pw_S) (x0 : Int32) (x1 : Int32) : pw_R Int32 :=
 if x0 = (-2147483648) then
 (some (S, (-2147483648)))
 else
 (if x1 = (-2147483648) then
 (some (S, (-2147483648)))
 else
 (some (S, (x0 - x1))))
def sp_X0_difference : np_Sp := fun vs w Q => ∃ (q : Nat) (S : pw_S) (x0 : Int32) (x1 : Int32), vs = [.int x0, .int x1] ∧ pw_W q w S ∧ pw_p (m_X0_difference S x0 x1) (fun S' r => ∀ f', pw_W q (w.1, f') S' → Q (some (.int r)) (w.1, f'))
set_option maxRecDepth 100000 in
set_option maxHeartbeats 8000000 in
theorem C_X0_difference : np_C yX0_difference cX0_difference 2 (some .int) 0 0 0 0 sp_X0_difference := by
  refine np_of (by decide) ?_
  intro X vs w Q hsp hX hmn hRt hlt
  obtain ⟨q, S, x0, x1, rfl, hW, h⟩ := hsp
  obtain ⟨n, f⟩ := w
  unfold m_X0_difference at h
  have hR : ∀ st w ce sl, np_rt (some .int) 0 0 Q st w ce sl → X.2.2.1 st w ce sl := fun _ _ _ _ h => by rw [hRt]; exact h
  refine np_soundW (so_X0_difference hX hR) [] 400 0 _ _ _ _ _ ?_
  conv => whnf
  refine pw_br h (fun _ h => ?_) (fun _ h => ?_)
  · conv => whnf
    exact ⟨Nat.le_of_ble_eq_true rfl, Nat.le_of_ble_eq_true rfl, ⟨_, rfl⟩, _, fun _ _ h9 => h9, pw_ps h _ hW⟩
  · conv => whnf
    refine pw_br h (fun _ h => ?_) (fun _ h => ?_)
    · conv => whnf
      exact ⟨Nat.le_of_ble_eq_true rfl, Nat.le_of_ble_eq_true rfl, ⟨_, rfl⟩, _, fun _ _ h9 => h9, pw_ps h _ hW⟩
    · conv => whnf
      exact ⟨Nat.le_of_ble_eq_true rfl, Nat.le_of_ble_eq_true rfl, ⟨_, rfl⟩, _, fun _ _ h9 => h9, pw_ps h _ hW⟩
theorem dX0_join_0 : decode cX0_join 0 = .ok (.iload_n 1, 1) := by decide +kernel
theorem dX0_join_1 : decode cX0_join 1 = .ok (.ldc 38, 2) := by decide +kernel
theorem dX0_join_3 : decode cX0_join 3 = .ok (.if_icmp .ne 5, 3) := by decide +kernel
theorem dX0_join_6 : decode cX0_join 6 = .ok (.iload_n 2, 1) := by decide +kernel
theorem dX0_join_7 : decode cX0_join 7 = .ok (.ireturn, 1) := by decide +kernel
theorem dX0_join_8 : decode cX0_join 8 = .ok (.iload_n 2, 1) := by decide +kernel
theorem dX0_join_9 : decode cX0_join 9 = .ok (.ldc 38, 2) := by decide +kernel
theorem dX0_join_11 : decode cX0_join 11 = .ok (.if_icmp .ne 5, 3) := by decide +kernel
theorem dX0_join_14 : decode cX0_join 14 = .ok (.iload_n 1, 1) := by decide +kernel
theorem dX0_join_15 : decode cX0_join 15 = .ok (.ireturn, 1) := by decide +kernel
theorem dX0_join_16 : decode cX0_join 16 = .ok (.aload_n 0, 1) := by decide +kernel
theorem dX0_join_17 : decode cX0_join 17 = .ok (.getfield 22, 3) := by decide +kernel
theorem dX0_join_20 : decode cX0_join 20 = .ok (.iconst 1, 1) := by decide +kernel
theorem dX0_join_21 : decode cX0_join 21 = .ok (.if_icmp .ne 9, 3) := by decide +kernel
theorem dX0_join_24 : decode cX0_join 24 = .ok (.iload_n 1, 1) := by decide +kernel
theorem dX0_join_25 : decode cX0_join 25 = .ok (.iload_n 2, 1) := by decide +kernel
theorem dX0_join_26 : decode cX0_join 26 = .ok (.iadd, 1) := by decide +kernel
theorem dX0_join_27 : decode cX0_join 27 = .ok (.goto 8, 3) := by decide +kernel
theorem dX0_join_30 : decode cX0_join 30 = .ok (.iload_n 1, 1) := by decide +kernel
theorem dX0_join_31 : decode cX0_join 31 = .ok (.iload_n 2, 1) := by decide +kernel
theorem dX0_join_32 : decode cX0_join 32 = .ok (.invokestatic 53, 3) := by decide +kernel
theorem dX0_join_35 : decode cX0_join 35 = .ok (.ireturn, 1) := by decide +kernel
def is_X0_join (Rt : np_Rt) : List (Nat × np_Op) := [(0, np_ild 1 1), (1, np_push 2 (.int (-2147483648))), (3, nq_icne 8), (6, np_ild 1 2), (7, np_ret Rt), (8, np_ild 1 2), (9, np_push 2 (.int (-2147483648))), (11, nq_icne 16), (14, np_ild 1 1), (15, np_ret Rt), (16, np_ald 1 0), (17, nw_getf 0 3), (20, np_push 1 (.int 1)), (21, nq_icne 30), (24, np_ild 1 1), (25, np_ild 1 2), (26, np_ib (fun x y => x + y)), (27, np_goto 35), (30, np_ild 1 1), (31, np_ild 1 2), (32, nw_mx 0 0), (35, np_ret Rt)]
set_option maxRecDepth 20000 in
theorem so_X0_join {X : np_Ctx} {Rt : np_Rt} (hX : np_ok RX0 cX0_join 3 1 60 0 0 .ireturn X) (hR : ∀ st w ce sl, Rt st w ce sl → X.2.2.1 st w ce sl) : ∀ q ∈ is_X0_join Rt, np_S X q.1 q.2 :=
  List.forall_mem_cons.mpr ⟨np_s_iload_n hX dX0_join_0 rfl, List.forall_mem_cons.mpr ⟨np_s_ldc hX dX0_join_1 gw1168, List.forall_mem_cons.mpr ⟨np_S.mono (op := np_icne 8) (np_s_icmp_ne hX dX0_join_3 (by decide)) nq_icne_le, List.forall_mem_cons.mpr ⟨np_s_iload_n hX dX0_join_6 rfl, List.forall_mem_cons.mpr ⟨np_S.mono (op := np_ret X.2.2.1) (np_s_ret hX dX0_join_7) (nq_ret_le hR), List.forall_mem_cons.mpr ⟨np_s_iload_n hX dX0_join_8 rfl, List.forall_mem_cons.mpr ⟨np_s_ldc hX dX0_join_9 gw1168, List.forall_mem_cons.mpr ⟨np_S.mono (op := np_icne 16) (np_s_icmp_ne hX dX0_join_11 (by decide)) nq_icne_le, List.forall_mem_cons.mpr ⟨np_s_iload_n hX dX0_join_14 rfl, List.forall_mem_cons.mpr ⟨np_S.mono (op := np_ret X.2.2.1) (np_s_ret hX dX0_join_15) (nq_ret_le hR), List.forall_mem_cons.mpr ⟨np_s_aload_n hX dX0_join_16 rfl, List.forall_mem_cons.mpr ⟨np_S.mono (op := np_getf 0 3) (np_s_getf hX dX0_join_17 (C := RX0) (T := TX0) (N := 6) rfl guX0 (by decide) gw397) nw_getf_le, List.forall_mem_cons.mpr ⟨np_s_iconst hX dX0_join_20 (by decide), List.forall_mem_cons.mpr ⟨np_S.mono (op := np_icne 30) (np_s_icmp_ne hX dX0_join_21 (by decide)) nq_icne_le, List.forall_mem_cons.mpr ⟨np_s_iload_n hX dX0_join_24 rfl, List.forall_mem_cons.mpr ⟨np_s_iload_n hX dX0_join_25 rfl, List.forall_mem_cons.mpr ⟨np_s_iadd hX dX0_join_26, List.forall_mem_cons.mpr ⟨np_s_goto hX dX0_join_27 (by decide), List.forall_mem_cons.mpr ⟨np_s_iload_n hX dX0_join_30 rfl, List.forall_mem_cons.mpr ⟨np_s_iload_n hX dX0_join_31 rfl, List.forall_mem_cons.mpr ⟨np_S.mono (op := np_mx 0 0) (np_s_mmax hX dX0_join_32 gw1177 gw984 gw82 gw985 (by decide) (by decide)) nw_mx_le, List.forall_mem_cons.mpr ⟨np_S.mono (op := np_ret X.2.2.1) (np_s_ret hX dX0_join_35) (nq_ret_le hR), fun _ h => nomatch h⟩⟩⟩⟩⟩⟩⟩⟩⟩⟩⟩⟩⟩⟩⟩⟩⟩⟩⟩⟩⟩⟩
noncomputable def m_X0_join (S : pw_S) (i0 : Nat) (x1 : Int32) (x2 : Int32) : pw_R Int32 :=
 if x1 = (-2147483648) then
 (some (S, x2))
 else
 (if x2 = (-2147483648) then
 (some (S, x1))
 else
 (if (S 55 i0 3) = 1 then
 (some (S, (x1 + x2)))
 else
 (some (S, (if x1 < x2 then x2 else x1)))))
def sp_X0_join : np_Sp := fun vs w Q => ∃ (q : Nat) (S : pw_S) (i0 : Nat) (x1 : Int32) (x2 : Int32), vs = [.ref (pw_pl 55 i0), .int x1, .int x2] ∧ pw_ok q 55 i0 = true ∧ pw_W q w S ∧ pw_p (m_X0_join S i0 x1 x2) (fun S' r => ∀ f', pw_W q (w.1, f') S' → Q (some (.int r)) (w.1, f'))
set_option maxRecDepth 100000 in
set_option maxHeartbeats 8000000 in
theorem C_X0_join : np_C yX0_join cX0_join 3 (some .int) 1 60 0 0 sp_X0_join := by
  refine np_of (by decide) ?_
  intro X vs w Q hsp hX hmn hRt hlt
  obtain ⟨q, S, i0, x1, x2, rfl, hi0, hW, h⟩ := hsp
  obtain ⟨n, f⟩ := w
  unfold m_X0_join at h
  have hR : ∀ st w ce sl, np_rt (some .int) 0 0 Q st w ce sl → X.2.2.1 st w ce sl := fun _ _ _ _ h => by rw [hRt]; exact h
  refine np_soundW (so_X0_join hX hR) [] 400 0 _ _ _ _ _ ?_
  conv => whnf
  refine pw_br h (fun _ h => ?_) (fun _ h => ?_)
  · conv => whnf
    exact ⟨Nat.le_of_ble_eq_true rfl, Nat.le_of_ble_eq_true rfl, ⟨_, rfl⟩, _, fun _ _ h9 => h9, pw_ps h _ hW⟩
  · conv => whnf
    refine pw_br h (fun _ h => ?_) (fun _ h => ?_)
    · conv => whnf
      exact ⟨Nat.le_of_ble_eq_true rfl, Nat.le_of_ble_eq_true rfl, ⟨_, rfl⟩, _, fun _ _ h9 => h9, pw_ps h _ hW⟩
    · conv => whnf
      refine np_rd_i (hW.g hi0) ?_
      conv => whnf
      refine pw_br h (fun _ h => ?_) (fun _ h => ?_)
      · conv => whnf
        exact ⟨Nat.le_of_ble_eq_true rfl, Nat.le_of_ble_eq_true rfl, ⟨_, rfl⟩, _, fun _ _ h9 => h9, pw_ps h _ hW⟩
      · conv => whnf
        exact ⟨Nat.le_of_ble_eq_true rfl, Nat.le_of_ble_eq_true rfl, ⟨_, rfl⟩, _, fun _ _ h9 => h9, pw_ps h _ hW⟩
theorem dX0_fromRow_0 : decode cX0_fromRow 0 = .ok (.aload_n 0, 1) := by decide +kernel
theorem dX0_fromRow_1 : decode cX0_fromRow 1 = .ok (.getfield 22, 3) := by decide +kernel
theorem dX0_fromRow_4 : decode cX0_fromRow 4 = .ok (.ifCond .ne 14, 3) := by decide +kernel
theorem dX0_fromRow_7 : decode cX0_fromRow 7 = .ok (.aload_n 0, 1) := by decide +kernel
theorem dX0_fromRow_8 : decode cX0_fromRow 8 = .ok (.iload_n 1, 1) := by decide +kernel
theorem dX0_fromRow_9 : decode cX0_fromRow 9 = .ok (.aload_n 0, 1) := by decide +kernel
theorem dX0_fromRow_10 : decode cX0_fromRow 10 = .ok (.getfield 29, 3) := by decide +kernel
theorem dX0_fromRow_13 : decode cX0_fromRow 13 = .ok (.isub, 1) := by decide +kernel
theorem dX0_fromRow_14 : decode cX0_fromRow 14 = .ok (.invokevirtual 43, 3) := by decide +kernel
theorem dX0_fromRow_17 : decode cX0_fromRow 17 = .ok (.ireturn, 1) := by decide +kernel
theorem dX0_fromRow_18 : decode cX0_fromRow 18 = .ok (.aload_n 0, 1) := by decide +kernel
theorem dX0_fromRow_19 : decode cX0_fromRow 19 = .ok (.getfield 22, 3) := by decide +kernel
theorem dX0_fromRow_22 : decode cX0_fromRow 22 = .ok (.iconst 3, 1) := by decide +kernel
theorem dX0_fromRow_23 : decode cX0_fromRow 23 = .ok (.if_icmp .ne 19, 3) := by decide +kernel
theorem dX0_fromRow_26 : decode cX0_fromRow 26 = .ok (.aload_n 0, 1) := by decide +kernel
theorem dX0_fromRow_27 : decode cX0_fromRow 27 = .ok (.iload_n 1, 1) := by decide +kernel
theorem dX0_fromRow_28 : decode cX0_fromRow 28 = .ok (.invokevirtual 43, 3) := by decide +kernel
theorem dX0_fromRow_31 : decode cX0_fromRow 31 = .ok (.aload_n 0, 1) := by decide +kernel
theorem dX0_fromRow_32 : decode cX0_fromRow 32 = .ok (.iload_n 1, 1) := by decide +kernel
theorem dX0_fromRow_33 : decode cX0_fromRow 33 = .ok (.iconst 1, 1) := by decide +kernel
theorem dX0_fromRow_34 : decode cX0_fromRow 34 = .ok (.isub, 1) := by decide +kernel
theorem dX0_fromRow_35 : decode cX0_fromRow 35 = .ok (.invokevirtual 43, 3) := by decide +kernel
theorem dX0_fromRow_38 : decode cX0_fromRow 38 = .ok (.invokestatic 47, 3) := by decide +kernel
theorem dX0_fromRow_41 : decode cX0_fromRow 41 = .ok (.ireturn, 1) := by decide +kernel
theorem dX0_fromRow_42 : decode cX0_fromRow 42 = .ok (.ldc 38, 2) := by decide +kernel
theorem dX0_fromRow_44 : decode cX0_fromRow 44 = .ok (.istore_n 2, 1) := by decide +kernel
theorem dX0_fromRow_45 : decode cX0_fromRow 45 = .ok (.iconst 0, 1) := by decide +kernel
theorem dX0_fromRow_46 : decode cX0_fromRow 46 = .ok (.istore_n 3, 1) := by decide +kernel
theorem dX0_fromRow_47 : decode cX0_fromRow 47 = .ok (.iload_n 3, 1) := by decide +kernel
theorem dX0_fromRow_48 : decode cX0_fromRow 48 = .ok (.aload_n 0, 1) := by decide +kernel
theorem dX0_fromRow_49 : decode cX0_fromRow 49 = .ok (.getfield 29, 3) := by decide +kernel
theorem dX0_fromRow_52 : decode cX0_fromRow 52 = .ok (.if_icmp .ge 22, 3) := by decide +kernel
theorem dX0_fromRow_55 : decode cX0_fromRow 55 = .ok (.aload_n 0, 1) := by decide +kernel
theorem dX0_fromRow_56 : decode cX0_fromRow 56 = .ok (.iload_n 2, 1) := by decide +kernel
theorem dX0_fromRow_57 : decode cX0_fromRow 57 = .ok (.aload_n 0, 1) := by decide +kernel
theorem dX0_fromRow_58 : decode cX0_fromRow 58 = .ok (.iload_n 1, 1) := by decide +kernel
theorem dX0_fromRow_59 : decode cX0_fromRow 59 = .ok (.iload_n 3, 1) := by decide +kernel
theorem dX0_fromRow_60 : decode cX0_fromRow 60 = .ok (.isub, 1) := by decide +kernel
theorem dX0_fromRow_61 : decode cX0_fromRow 61 = .ok (.invokevirtual 43, 3) := by decide +kernel
theorem dX0_fromRow_64 : decode cX0_fromRow 64 = .ok (.invokevirtual 50, 3) := by decide +kernel
theorem dX0_fromRow_67 : decode cX0_fromRow 67 = .ok (.istore_n 2, 1) := by decide +kernel
theorem dX0_fromRow_68 : decode cX0_fromRow 68 = .ok (.iinc 3 1, 3) := by decide +kernel
theorem dX0_fromRow_71 : decode cX0_fromRow 71 = .ok (.goto (-24), 3) := by decide +kernel
theorem dX0_fromRow_74 : decode cX0_fromRow 74 = .ok (.iload_n 2, 1) := by decide +kernel
theorem dX0_fromRow_75 : decode cX0_fromRow 75 = .ok (.ireturn, 1) := by decide +kernel
def is_X0_fromRow (Rt : np_Rt) : List (Nat × np_Op) := [(0, np_ald 1 0), (1, nw_getf 0 3), (4, nq_ifne 18), (7, np_ald 1 0), (8, np_ild 1 1), (9, np_ald 1 0), (10, nw_getf 0 5), (13, np_ib (fun x y => x - y)), (14, nw_callV 0 2 sp_X0_told 2 0 0 0 0), (17, np_ret Rt), (18, np_ald 1 0), (19, nw_getf 0 3), (22, np_push 1 (.int 3)), (23, nq_icne 42), (26, np_ald 1 0), (27, np_ild 1 1), (28, nw_callV 0 2 sp_X0_told 2 0 0 0 0), (31, np_ald 1 0), (32, np_ild 1 1), (33, np_push 1 (.int 1)), (34, np_ib (fun x y => x - y)), (35, nw_callV 0 2 sp_X0_told 2 0 0 0 0), (38, nq_call 2 sp_X0_difference 2 0 0 0 0), (41, np_ret Rt), (42, np_push 2 (.int (-2147483648))), (44, nw_ist 1 2), (45, np_push 1 (.int 0)), (46, nw_ist 1 3), (47, np_ild 1 3), (48, np_ald 1 0), (49, nw_getf 0 5), (52, nq_ic (fun x y => y ≤ x) 74), (55, np_ald 1 0), (56, np_ild 1 2), (57, np_ald 1 0), (58, np_ild 1 1), (59, np_ild 1 3), (60, np_ib (fun x y => x - y)), (61, nw_callV 0 2 sp_X0_told 2 0 0 0 0), (64, nw_callV 0 3 sp_X0_join 3 0 0 0 0), (67, nw_ist 1 2), (68, nw_iinc 3 1), (71, np_goto 47), (74, np_ild 1 2), (75, np_ret Rt)]
set_option maxRecDepth 20000 in
theorem so_X0_fromRow {X : np_Ctx} {Rt : np_Rt} (hX : np_ok RX0 cX0_fromRow 4 4 87 0 0 .ireturn X) (hR : ∀ st w ce sl, Rt st w ce sl → X.2.2.1 st w ce sl) : ∀ q ∈ is_X0_fromRow Rt, np_S X q.1 q.2 :=
  List.forall_mem_cons.mpr ⟨np_s_aload_n hX dX0_fromRow_0 rfl, List.forall_mem_cons.mpr ⟨np_S.mono (op := np_getf 0 3) (np_s_getf hX dX0_fromRow_1 (C := RX0) (T := TX0) (N := 6) rfl guX0 (by decide) gw397) nw_getf_le, List.forall_mem_cons.mpr ⟨np_S.mono (op := np_ifne 18) (np_s_if_ne hX dX0_fromRow_4 (by decide)) nq_ifne_le, List.forall_mem_cons.mpr ⟨np_s_aload_n hX dX0_fromRow_7 rfl, List.forall_mem_cons.mpr ⟨np_s_iload_n hX dX0_fromRow_8 rfl, List.forall_mem_cons.mpr ⟨np_s_aload_n hX dX0_fromRow_9 rfl, List.forall_mem_cons.mpr ⟨np_S.mono (op := np_getf 0 5) (np_s_getf hX dX0_fromRow_10 (C := RX0) (T := TX0) (N := 6) rfl guX0 (by decide) gw399) nw_getf_le, List.forall_mem_cons.mpr ⟨np_s_isub hX dX0_fromRow_13, List.forall_mem_cons.mpr ⟨np_S.mono (op := np_callV 0 2 sp_X0_told 2 0 0 0 0) (np_s_callV hX C_X0_told dX0_fromRow_14 (q := (RX0, TX0, 6)) rfl rfl gw1167 gw73 gw1164 gw1166 gw36 ⟨by decide, by decide, by decide⟩ (by decide) (by decide)) nw_callV_le, List.forall_mem_cons.mpr ⟨np_S.mono (op := np_ret X.2.2.1) (np_s_ret hX dX0_fromRow_17) (nq_ret_le hR), List.forall_mem_cons.mpr ⟨np_s_aload_n hX dX0_fromRow_18 rfl, List.forall_mem_cons.mpr ⟨np_S.mono (op := np_getf 0 3) (np_s_getf hX dX0_fromRow_19 (C := RX0) (T := TX0) (N := 6) rfl guX0 (by decide) gw397) nw_getf_le, List.forall_mem_cons.mpr ⟨np_s_iconst hX dX0_fromRow_22 (by decide), List.forall_mem_cons.mpr ⟨np_S.mono (op := np_icne 42) (np_s_icmp_ne hX dX0_fromRow_23 (by decide)) nq_icne_le, List.forall_mem_cons.mpr ⟨np_s_aload_n hX dX0_fromRow_26 rfl, List.forall_mem_cons.mpr ⟨np_s_iload_n hX dX0_fromRow_27 rfl, List.forall_mem_cons.mpr ⟨np_S.mono (op := np_callV 0 2 sp_X0_told 2 0 0 0 0) (np_s_callV hX C_X0_told dX0_fromRow_28 (q := (RX0, TX0, 6)) rfl rfl gw1167 gw73 gw1164 gw1166 gw36 ⟨by decide, by decide, by decide⟩ (by decide) (by decide)) nw_callV_le, List.forall_mem_cons.mpr ⟨np_s_aload_n hX dX0_fromRow_31 rfl, List.forall_mem_cons.mpr ⟨np_s_iload_n hX dX0_fromRow_32 rfl, List.forall_mem_cons.mpr ⟨np_s_iconst hX dX0_fromRow_33 (by decide), List.forall_mem_cons.mpr ⟨np_s_isub hX dX0_fromRow_34, List.forall_mem_cons.mpr ⟨np_S.mono (op := np_callV 0 2 sp_X0_told 2 0 0 0 0) (np_s_callV hX C_X0_told dX0_fromRow_35 (q := (RX0, TX0, 6)) rfl rfl gw1167 gw73 gw1164 gw1166 gw36 ⟨by decide, by decide, by decide⟩ (by decide) (by decide)) nw_callV_le, List.forall_mem_cons.mpr ⟨np_S.mono (op := np_call 2 sp_X0_difference 2 0 0 0 0) (np_s_callS hX C_X0_difference dX0_fromRow_38 gw1172 gw73 gw1170 gw1171 ⟨by decide, by decide, by decide⟩ (by decide) (by decide)) nq_call_le, List.forall_mem_cons.mpr ⟨np_S.mono (op := np_ret X.2.2.1) (np_s_ret hX dX0_fromRow_41) (nq_ret_le hR), List.forall_mem_cons.mpr ⟨np_s_ldc hX dX0_fromRow_42 gw1168, List.forall_mem_cons.mpr ⟨np_S.mono (op := np_ist 1 2) (np_s_istore_n hX dX0_fromRow_44 rfl (by decide)) nw_ist_le, List.forall_mem_cons.mpr ⟨np_s_iconst hX dX0_fromRow_45 (by decide), List.forall_mem_cons.mpr ⟨np_S.mono (op := np_ist 1 3) (np_s_istore_n hX dX0_fromRow_46 rfl (by decide)) nw_ist_le, List.forall_mem_cons.mpr ⟨np_s_iload_n hX dX0_fromRow_47 rfl, List.forall_mem_cons.mpr ⟨np_s_aload_n hX dX0_fromRow_48 rfl, List.forall_mem_cons.mpr ⟨np_S.mono (op := np_getf 0 5) (np_s_getf hX dX0_fromRow_49 (C := RX0) (T := TX0) (N := 6) rfl guX0 (by decide) gw399) nw_getf_le, List.forall_mem_cons.mpr ⟨np_S.mono (op := np_ic (fun x y => y ≤ x) 74) (np_s_icmp_ge hX dX0_fromRow_52 (by decide)) nq_ic_le, List.forall_mem_cons.mpr ⟨np_s_aload_n hX dX0_fromRow_55 rfl, List.forall_mem_cons.mpr ⟨np_s_iload_n hX dX0_fromRow_56 rfl, List.forall_mem_cons.mpr ⟨np_s_aload_n hX dX0_fromRow_57 rfl, List.forall_mem_cons.mpr ⟨np_s_iload_n hX dX0_fromRow_58 rfl, List.forall_mem_cons.mpr ⟨np_s_iload_n hX dX0_fromRow_59 rfl, List.forall_mem_cons.mpr ⟨np_s_isub hX dX0_fromRow_60, List.forall_mem_cons.mpr ⟨np_S.mono (op := np_callV 0 2 sp_X0_told 2 0 0 0 0) (np_s_callV hX C_X0_told dX0_fromRow_61 (q := (RX0, TX0, 6)) rfl rfl gw1167 gw73 gw1164 gw1166 gw36 ⟨by decide, by decide, by decide⟩ (by decide) (by decide)) nw_callV_le, List.forall_mem_cons.mpr ⟨np_S.mono (op := np_callV 0 3 sp_X0_join 3 0 0 0 0) (np_s_callV hX C_X0_join dX0_fromRow_64 (q := (RX0, TX0, 6)) rfl rfl gw1176 gw73 gw1173 gw1175 gw37 ⟨by decide, by decide, by decide⟩ (by decide) (by decide)) nw_callV_le, List.forall_mem_cons.mpr ⟨np_S.mono (op := np_ist 1 2) (np_s_istore_n hX dX0_fromRow_67 rfl (by decide)) nw_ist_le, List.forall_mem_cons.mpr ⟨np_S.mono (op := np_iinc 3 1) (np_s_iinc hX dX0_fromRow_68 (by decide)) nw_iinc_le, List.forall_mem_cons.mpr ⟨np_s_goto hX dX0_fromRow_71 (by decide), List.forall_mem_cons.mpr ⟨np_s_iload_n hX dX0_fromRow_74 rfl, List.forall_mem_cons.mpr ⟨np_S.mono (op := np_ret X.2.2.1) (np_s_ret hX dX0_fromRow_75) (nq_ret_le hR), fun _ h => nomatch h⟩⟩⟩⟩⟩⟩⟩⟩⟩⟩⟩⟩⟩⟩⟩⟩⟩⟩⟩⟩⟩⟩⟩⟩⟩⟩⟩⟩⟩⟩⟩⟩⟩⟩⟩⟩⟩⟩⟩⟩⟩⟩⟩⟩⟩
noncomputable def m_X0_fromRow_47 : Nat → pw_S → Nat → Int32 → Int32 → Int32 → pw_R Int32
| 0, _, _, _, _, _ => none
| N + 1, S, v0, v1, v2, v3 =>
 if (S 55 v0 5) ≤ v3 then
 (some (S, v2))
 else
 (pw_b (m_X0_told S v0 (v1 - v3)) fun S1 r4 =>
 pw_b (m_X0_join S1 v0 v2 r4) fun S6 r9 =>
 pw_l (r9 : Int32) fun z11 =>
 pw_l (v3 + 1 : Int32) fun z12 =>
 m_X0_fromRow_47 N S6 v0 v1 z11 z12)
set_option maxRecDepth 100000 in
set_option maxHeartbeats 8000000 in
theorem L_X0_fromRow_47 {X : np_Ctx} (hX : np_ok RX0 cX0_fromRow 4 4 87 0 0 .ireturn X) {Q : Option Value → np_W → Prop} {q n : Nat} (hR : ∀ st w ce sl, np_rt (some .int) 0 0 Q st w ce sl → X.2.2.1 st w ce sl) : ∀ (N : Nat) (S : pw_S) (v0 : Nat) (v1 : Int32) (v2 : Int32) (v3 : Int32) (f : Nat → Option np_E) (hv0 : pw_ok q 55 v0 = true), pw_W q (n, f) S → pw_p (m_X0_fromRow_47 N S v0 v1 v2 v3) (fun S' r => ∀ f', pw_W q (n, f') S' → Q (some (.int r)) (n, f')) → np_G X 47 [(0, .ref (pw_pl 55 v0)), (1, .int v1), (2, .int v2), (3, .int v3)] [] (n, f) 0 0 := by
  intro N
  induction N with
  | zero =>
    intro S v0 v1 v2 v3 f hv0 hW h
    exact (pw_pn h).elim
  | succ N ih =>
    intro S v0 v1 v2 v3 f hv0 hW h
    unfold m_X0_fromRow_47 at h
    refine np_soundW (so_X0_fromRow hX hR) [47] 400 47 _ _ _ _ _ ?_
    conv => whnf
    refine np_rd_i (hW.g hv0) ?_
    conv => whnf
    refine pw_br h (fun _ h => ?_) (fun _ h => ?_)
    · conv => whnf
      exact ⟨Nat.le_of_ble_eq_true rfl, Nat.le_of_ble_eq_true rfl, ⟨_, rfl⟩, _, fun _ _ h9 => h9, pw_ps h _ hW⟩
    · conv => whnf
      refine np_rd_i (hW.g hv0) ?_
      conv => whnf
      refine ⟨q, S, v0, (v1 - v3), rfl, hv0, hW, pw_bd h (fun S1 r4 h f2 hW3 => ?_)⟩
      conv => whnf
      refine np_rd_i (hW3.g hv0) ?_
      conv => whnf
      refine ⟨q, S1, v0, v2, r4, rfl, hv0, hW3, pw_bd h (fun S6 r9 h f7 hW8 => ?_)⟩
      conv => whnf
      refine pw_st h (fun z11 h => ?_)
      conv => whnf
      refine pw_st h (fun z12 h => ?_)
      conv => whnf
      exact np_gl (ih S6 v0 v1 z11 z12 f7 hv0 hW8 h) ⟨rfl, rfl, rfl, rfl, trivial⟩
noncomputable def m_X0_fromRow (S : pw_S) (i0 : Nat) (x1 : Int32) : pw_R Int32 :=
 if (S 55 i0 3) = 0 then
 (pw_b (m_X0_told S i0 (x1 - (S 55 i0 5))) fun S13 r16 =>
 some (S13, r16))
 else
 (if (S 55 i0 3) = 3 then
 (pw_b (m_X0_told S i0 x1) fun S18 r21 =>
 pw_b (m_X0_told S18 i0 (x1 - 1)) fun S23 r26 =>
 pw_b (m_X0_difference S23 r21 r26) fun S28 r31 =>
 some (S28, r31))
 else
 (pw_l ((-2147483648) : Int32) fun z33 =>
 pw_l (0 : Int32) fun z34 =>
 m_X0_fromRow_47 (pw_F 20000) S i0 x1 z33 z34))
def sp_X0_fromRow : np_Sp := fun vs w Q => ∃ (q : Nat) (S : pw_S) (i0 : Nat) (x1 : Int32), vs = [.ref (pw_pl 55 i0), .int x1] ∧ pw_ok q 55 i0 = true ∧ pw_W q w S ∧ pw_p (m_X0_fromRow S i0 x1) (fun S' r => ∀ f', pw_W q (w.1, f') S' → Q (some (.int r)) (w.1, f'))
set_option maxRecDepth 100000 in
set_option maxHeartbeats 8000000 in
theorem C_X0_fromRow : np_C yX0_fromRow cX0_fromRow 4 (some .int) 4 87 0 0 sp_X0_fromRow := by
  refine np_of (by decide) ?_
  intro X vs w Q hsp hX hmn hRt hlt
  obtain ⟨q, S, i0, x1, rfl, hi0, hW, h⟩ := hsp
  obtain ⟨n, f⟩ := w
  unfold m_X0_fromRow at h
  have hR : ∀ st w ce sl, np_rt (some .int) 0 0 Q st w ce sl → X.2.2.1 st w ce sl := fun _ _ _ _ h => by rw [hRt]; exact h
  refine np_soundW (so_X0_fromRow hX hR) [47] 400 0 _ _ _ _ _ ?_
  conv => whnf
  refine np_rd_i (hW.g hi0) ?_
  conv => whnf
  refine pw_br h (fun _ h => ?_) (fun _ h => ?_)
  · conv => whnf
    refine np_rd_i (hW.g hi0) ?_
    conv => whnf
    refine np_rd_i (hW.g hi0) ?_
    conv => whnf
    refine ⟨q, S, i0, (x1 - (S 55 i0 5)), rfl, hi0, hW, pw_bd h (fun S13 r16 h f14 hW15 => ?_)⟩
    conv => whnf
    exact ⟨Nat.le_of_ble_eq_true rfl, Nat.le_of_ble_eq_true rfl, ⟨_, rfl⟩, _, fun _ _ h9 => h9, pw_ps h _ hW15⟩
  · conv => whnf
    refine np_rd_i (hW.g hi0) ?_
    conv => whnf
    refine pw_br h (fun _ h => ?_) (fun _ h => ?_)
    · conv => whnf
      refine np_rd_i (hW.g hi0) ?_
      conv => whnf
      refine ⟨q, S, i0, x1, rfl, hi0, hW, pw_bd h (fun S18 r21 h f19 hW20 => ?_)⟩
      conv => whnf
      refine np_rd_i (hW20.g hi0) ?_
      conv => whnf
      refine ⟨q, S18, i0, (x1 - 1), rfl, hi0, hW20, pw_bd h (fun S23 r26 h f24 hW25 => ?_)⟩
      conv => whnf
      refine ⟨q, S23, r21, r26, rfl, hW25, pw_bd h (fun S28 r31 h f29 hW30 => ?_)⟩
      conv => whnf
      exact ⟨Nat.le_of_ble_eq_true rfl, Nat.le_of_ble_eq_true rfl, ⟨_, rfl⟩, _, fun _ _ h9 => h9, pw_ps h _ hW30⟩
    · conv => whnf
      refine pw_st h (fun z33 h => ?_)
      conv => whnf
      refine pw_st h (fun z34 h => ?_)
      conv => whnf
      exact np_gl (L_X0_fromRow_47 hX hR (pw_F 20000) S i0 x1 z33 z34 f hi0 hW h) ⟨rfl, rfl, rfl, rfl, trivial⟩
theorem dX0_gatherBase_0 : decode cX0_gatherBase 0 = .ok (.iconst 0, 1) := by decide +kernel
theorem dX0_gatherBase_1 : decode cX0_gatherBase 1 = .ok (.istore_n 1, 1) := by decide +kernel
theorem dX0_gatherBase_2 : decode cX0_gatherBase 2 = .ok (.iconst 0, 1) := by decide +kernel
theorem dX0_gatherBase_3 : decode cX0_gatherBase 3 = .ok (.istore_n 2, 1) := by decide +kernel
theorem dX0_gatherBase_4 : decode cX0_gatherBase 4 = .ok (.iload_n 2, 1) := by decide +kernel
theorem dX0_gatherBase_5 : decode cX0_gatherBase 5 = .ok (.aload_n 0, 1) := by decide +kernel
theorem dX0_gatherBase_6 : decode cX0_gatherBase 6 = .ok (.getfield 9, 3) := by decide +kernel
theorem dX0_gatherBase_9 : decode cX0_gatherBase 9 = .ok (.arraylength, 1) := by decide +kernel
theorem dX0_gatherBase_10 : decode cX0_gatherBase 10 = .ok (.if_icmp .ge 37, 3) := by decide +kernel
theorem dX0_gatherBase_13 : decode cX0_gatherBase 13 = .ok (.aload_n 0, 1) := by decide +kernel
theorem dX0_gatherBase_14 : decode cX0_gatherBase 14 = .ok (.getfield 9, 3) := by decide +kernel
theorem dX0_gatherBase_17 : decode cX0_gatherBase 17 = .ok (.iload_n 2, 1) := by decide +kernel
theorem dX0_gatherBase_18 : decode cX0_gatherBase 18 = .ok (.aload_n 0, 1) := by decide +kernel
theorem dX0_gatherBase_19 : decode cX0_gatherBase 19 = .ok (.iload_n 2, 1) := by decide +kernel
theorem dX0_gatherBase_20 : decode cX0_gatherBase 20 = .ok (.invokevirtual 43, 3) := by decide +kernel
theorem dX0_gatherBase_23 : decode cX0_gatherBase 23 = .ok (.iastore, 1) := by decide +kernel
theorem dX0_gatherBase_24 : decode cX0_gatherBase 24 = .ok (.aload_n 0, 1) := by decide +kernel
theorem dX0_gatherBase_25 : decode cX0_gatherBase 25 = .ok (.getfield 9, 3) := by decide +kernel
theorem dX0_gatherBase_28 : decode cX0_gatherBase 28 = .ok (.iload_n 2, 1) := by decide +kernel
theorem dX0_gatherBase_29 : decode cX0_gatherBase 29 = .ok (.iaload, 1) := by decide +kernel
theorem dX0_gatherBase_30 : decode cX0_gatherBase 30 = .ok (.ldc 38, 2) := by decide +kernel
theorem dX0_gatherBase_32 : decode cX0_gatherBase 32 = .ok (.if_icmp .ne 9, 3) := by decide +kernel
theorem dX0_gatherBase_35 : decode cX0_gatherBase 35 = .ok (.iload_n 1, 1) := by decide +kernel
theorem dX0_gatherBase_36 : decode cX0_gatherBase 36 = .ok (.iconst 1, 1) := by decide +kernel
theorem dX0_gatherBase_37 : decode cX0_gatherBase 37 = .ok (.iload_n 2, 1) := by decide +kernel
theorem dX0_gatherBase_38 : decode cX0_gatherBase 38 = .ok (.ishl, 1) := by decide +kernel
theorem dX0_gatherBase_39 : decode cX0_gatherBase 39 = .ok (.ior, 1) := by decide +kernel
theorem dX0_gatherBase_40 : decode cX0_gatherBase 40 = .ok (.istore_n 1, 1) := by decide +kernel
theorem dX0_gatherBase_41 : decode cX0_gatherBase 41 = .ok (.iinc 2 1, 3) := by decide +kernel
theorem dX0_gatherBase_44 : decode cX0_gatherBase 44 = .ok (.goto (-40), 3) := by decide +kernel
theorem dX0_gatherBase_47 : decode cX0_gatherBase 47 = .ok (.iload_n 1, 1) := by decide +kernel
theorem dX0_gatherBase_48 : decode cX0_gatherBase 48 = .ok (.ireturn, 1) := by decide +kernel
def is_X0_gatherBase (Rt : np_Rt) : List (Nat × np_Op) := [(0, np_push 1 (.int 0)), (1, nw_ist 1 1), (2, np_push 1 (.int 0)), (3, nw_ist 1 2), (4, np_ild 1 2), (5, np_ald 1 0), (6, nw_getf 0 0), (9, nw_alen), (10, nq_ic (fun x y => y ≤ x) 47), (13, np_ald 1 0), (14, nw_getf 0 0), (17, np_ild 1 2), (18, np_ald 1 0), (19, np_ild 1 2), (20, nw_callV 0 2 sp_X0_told 2 0 0 0 0), (23, nw_iastT .int), (24, np_ald 1 0), (25, nw_getf 0 0), (28, np_ild 1 2), (29, nw_ialdT .int), (30, np_push 2 (.int (-2147483648))), (32, nq_icne 41), (35, np_ild 1 1), (36, np_push 1 (.int 1)), (37, np_ild 1 2), (38, np_ib (fun x y => x <<< (y &&& 31))), (39, np_ib (fun x y => x ||| y)), (40, nw_ist 1 1), (41, nw_iinc 2 1), (44, np_goto 4), (47, np_ild 1 1), (48, np_ret Rt)]
set_option maxRecDepth 20000 in
theorem so_X0_gatherBase {X : np_Ctx} {Rt : np_Rt} (hX : np_ok RX0 cX0_gatherBase 3 4 87 0 0 .ireturn X) (hR : ∀ st w ce sl, Rt st w ce sl → X.2.2.1 st w ce sl) : ∀ q ∈ is_X0_gatherBase Rt, np_S X q.1 q.2 :=
  List.forall_mem_cons.mpr ⟨np_s_iconst hX dX0_gatherBase_0 (by decide), List.forall_mem_cons.mpr ⟨np_S.mono (op := np_ist 1 1) (np_s_istore_n hX dX0_gatherBase_1 rfl (by decide)) nw_ist_le, List.forall_mem_cons.mpr ⟨np_s_iconst hX dX0_gatherBase_2 (by decide), List.forall_mem_cons.mpr ⟨np_S.mono (op := np_ist 1 2) (np_s_istore_n hX dX0_gatherBase_3 rfl (by decide)) nw_ist_le, List.forall_mem_cons.mpr ⟨np_s_iload_n hX dX0_gatherBase_4 rfl, List.forall_mem_cons.mpr ⟨np_s_aload_n hX dX0_gatherBase_5 rfl, List.forall_mem_cons.mpr ⟨np_S.mono (op := np_getf 0 0) (np_s_getf hX dX0_gatherBase_6 (C := RX0) (T := TX0) (N := 6) rfl guX0 (by decide) gw394) nw_getf_le, List.forall_mem_cons.mpr ⟨np_S.mono (op := np_alen) (np_s_alen hX dX0_gatherBase_9) nw_alen_le, List.forall_mem_cons.mpr ⟨np_S.mono (op := np_ic (fun x y => y ≤ x) 47) (np_s_icmp_ge hX dX0_gatherBase_10 (by decide)) nq_ic_le, List.forall_mem_cons.mpr ⟨np_s_aload_n hX dX0_gatherBase_13 rfl, List.forall_mem_cons.mpr ⟨np_S.mono (op := np_getf 0 0) (np_s_getf hX dX0_gatherBase_14 (C := RX0) (T := TX0) (N := 6) rfl guX0 (by decide) gw394) nw_getf_le, List.forall_mem_cons.mpr ⟨np_s_iload_n hX dX0_gatherBase_17 rfl, List.forall_mem_cons.mpr ⟨np_s_aload_n hX dX0_gatherBase_18 rfl, List.forall_mem_cons.mpr ⟨np_s_iload_n hX dX0_gatherBase_19 rfl, List.forall_mem_cons.mpr ⟨np_S.mono (op := np_callV 0 2 sp_X0_told 2 0 0 0 0) (np_s_callV hX C_X0_told dX0_gatherBase_20 (q := (RX0, TX0, 6)) rfl rfl gw1167 gw73 gw1164 gw1166 gw36 ⟨by decide, by decide, by decide⟩ (by decide) (by decide)) nw_callV_le, List.forall_mem_cons.mpr ⟨np_S.mono (op := np_iastT .int) (np_s_iast hX dX0_gatherBase_23) nw_iastT_le, List.forall_mem_cons.mpr ⟨np_s_aload_n hX dX0_gatherBase_24 rfl, List.forall_mem_cons.mpr ⟨np_S.mono (op := np_getf 0 0) (np_s_getf hX dX0_gatherBase_25 (C := RX0) (T := TX0) (N := 6) rfl guX0 (by decide) gw394) nw_getf_le, List.forall_mem_cons.mpr ⟨np_s_iload_n hX dX0_gatherBase_28 rfl, List.forall_mem_cons.mpr ⟨np_S.mono (op := np_ialdT .int) (np_s_iald hX dX0_gatherBase_29) nw_ialdT_le, List.forall_mem_cons.mpr ⟨np_s_ldc hX dX0_gatherBase_30 gw1168, List.forall_mem_cons.mpr ⟨np_S.mono (op := np_icne 41) (np_s_icmp_ne hX dX0_gatherBase_32 (by decide)) nq_icne_le, List.forall_mem_cons.mpr ⟨np_s_iload_n hX dX0_gatherBase_35 rfl, List.forall_mem_cons.mpr ⟨np_s_iconst hX dX0_gatherBase_36 (by decide), List.forall_mem_cons.mpr ⟨np_s_iload_n hX dX0_gatherBase_37 rfl, List.forall_mem_cons.mpr ⟨np_s_ishl hX dX0_gatherBase_38, List.forall_mem_cons.mpr ⟨np_s_ior hX dX0_gatherBase_39, List.forall_mem_cons.mpr ⟨np_S.mono (op := np_ist 1 1) (np_s_istore_n hX dX0_gatherBase_40 rfl (by decide)) nw_ist_le, List.forall_mem_cons.mpr ⟨np_S.mono (op := np_iinc 2 1) (np_s_iinc hX dX0_gatherBase_41 (by decide)) nw_iinc_le, List.forall_mem_cons.mpr ⟨np_s_goto hX dX0_gatherBase_44 (by decide), List.forall_mem_cons.mpr ⟨np_s_iload_n hX dX0_gatherBase_47 rfl, List.forall_mem_cons.mpr ⟨np_S.mono (op := np_ret X.2.2.1) (np_s_ret hX dX0_gatherBase_48) (nq_ret_le hR), fun _ h => nomatch h⟩⟩⟩⟩⟩⟩⟩⟩⟩⟩⟩⟩⟩⟩⟩⟩⟩⟩⟩⟩⟩⟩⟩⟩⟩⟩⟩⟩⟩⟩⟩⟩
noncomputable def m_X0_gatherBase_4 : Nat → pw_S → Nat → Int32 → Int32 → pw_R Int32
| 0, _, _, _, _ => none
| N + 1, S, v0, v1, v2 =>
 if 24 ≤ v2 then
 (some (S, v1))
 else
 (pw_b (m_X0_told S v0 v2) fun S1 r4 =>
 pw_c (np_inb v2 24) <|
 pw_l (pw_up S1 17 v0 (upd (S1 17 v0) (v2 : Int32).toNatClampNeg r4)) fun S6 =>
 pw_c (np_inb v2 24) <|
 if (S6 17 v0 (v2 : Int32).toNatClampNeg) = (-2147483648) then
 (pw_l ((v1 ||| (1 <<< (v2 &&& 31))) : Int32) fun z9 =>
 pw_l (v2 + 1 : Int32) fun z10 =>
 m_X0_gatherBase_4 N S6 v0 z9 z10)
 else
 (pw_l (v2 + 1 : Int32) fun z11 =>
 m_X0_gatherBase_4 N S6 v0 v1 z11))
set_option maxRecDepth 100000 in
set_option maxHeartbeats 8000000 in
theorem L_X0_gatherBase_4 {X : np_Ctx} (hX : np_ok RX0 cX0_gatherBase 3 4 87 0 0 .ireturn X) {Q : Option Value → np_W → Prop} {q n : Nat} (hR : ∀ st w ce sl, np_rt (some .int) 0 0 Q st w ce sl → X.2.2.1 st w ce sl) : ∀ (N : Nat) (S : pw_S) (v0 : Nat) (v1 : Int32) (v2 : Int32) (f : Nat → Option np_E) (hv0 : pw_ok q 55 v0 = true), pw_W q (n, f) S → pw_p (m_X0_gatherBase_4 N S v0 v1 v2) (fun S' r => ∀ f', pw_W q (n, f') S' → Q (some (.int r)) (n, f')) → np_G X 4 [(0, .ref (pw_pl 55 v0)), (1, .int v1), (2, .int v2)] [] (n, f) 0 0 := by
  intro N
  induction N with
  | zero =>
    intro S v0 v1 v2 f hv0 hW h
    exact (pw_pn h).elim
  | succ N ih =>
    intro S v0 v1 v2 f hv0 hW h
    unfold m_X0_gatherBase_4 at h
    refine np_soundW (so_X0_gatherBase hX hR) [4] 400 4 _ _ _ _ _ ?_
    conv => whnf
    refine np_rd_i (hW.g hv0) ?_
    conv => whnf
    refine np_rd_i (hW.g hv0) ?_
    conv => whnf
    refine pw_br h (fun _ h => ?_) (fun _ h => ?_)
    · conv => whnf
      exact ⟨Nat.le_of_ble_eq_true rfl, Nat.le_of_ble_eq_true rfl, ⟨_, rfl⟩, _, fun _ _ h9 => h9, pw_ps h _ hW⟩
    · conv => whnf
      refine np_rd_i (hW.g hv0) ?_
      conv => whnf
      refine np_rd_i (hW.g hv0) ?_
      conv => whnf
      refine ⟨q, S, v0, v2, rfl, hv0, hW, pw_bd h (fun S1 r4 h f2 hW3 => ?_)⟩
      conv => whnf
      refine np_rd_i (hW3.g hv0) ?_
      conv => whnf
      refine pw_ck h (fun _ h => ?_)
      conv => whnf
      refine pw_wr (a := 17) (i := v0) (d := upd (S1 17 v0) (v2 : Int32).toNatClampNeg r4) hW3 hv0 rfl h (fun S6 f7 hW8 h => ?_)
      conv => whnf
      refine np_rd_i (hW8.g hv0) ?_
      conv => whnf
      refine np_rd_i (hW8.g hv0) ?_
      conv => whnf
      refine pw_ck h (fun _ h => ?_)
      conv => whnf
      refine pw_br h (fun _ h => ?_) (fun _ h => ?_)
      · conv => whnf
        refine pw_st h (fun z9 h => ?_)
        conv => whnf
        refine pw_st h (fun z10 h => ?_)
        conv => whnf
        exact np_gl (ih S6 v0 z9 z10 f7 hv0 hW8 h) ⟨rfl, rfl, rfl, trivial⟩
      · conv => whnf
        refine pw_st h (fun z11 h => ?_)
        conv => whnf
        exact np_gl (ih S6 v0 v1 z11 f7 hv0 hW8 h) ⟨rfl, rfl, rfl, trivial⟩
noncomputable def m_X0_gatherBase (S : pw_S) (i0 : Nat) : pw_R Int32 :=
 pw_l (0 : Int32) fun z12 =>
 pw_l (0 : Int32) fun z13 =>
 m_X0_gatherBase_4 (pw_F 20000) S i0 z12 z13
def sp_X0_gatherBase : np_Sp := fun vs w Q => ∃ (q : Nat) (S : pw_S) (i0 : Nat), vs = [.ref (pw_pl 55 i0)] ∧ pw_ok q 55 i0 = true ∧ pw_W q w S ∧ pw_p (m_X0_gatherBase S i0) (fun S' r => ∀ f', pw_W q (w.1, f') S' → Q (some (.int r)) (w.1, f'))
set_option maxRecDepth 100000 in
set_option maxHeartbeats 8000000 in
theorem C_X0_gatherBase : np_C yX0_gatherBase cX0_gatherBase 3 (some .int) 4 87 0 0 sp_X0_gatherBase := by
  refine np_of (by decide) ?_
  intro X vs w Q hsp hX hmn hRt hlt
  obtain ⟨q, S, i0, rfl, hi0, hW, h⟩ := hsp
  obtain ⟨n, f⟩ := w
  unfold m_X0_gatherBase at h
  have hR : ∀ st w ce sl, np_rt (some .int) 0 0 Q st w ce sl → X.2.2.1 st w ce sl := fun _ _ _ _ h => by rw [hRt]; exact h
  refine np_soundW (so_X0_gatherBase hX hR) [4] 400 0 _ _ _ _ _ ?_
  conv => whnf
  refine pw_st h (fun z12 h => ?_)
  conv => whnf
  refine pw_st h (fun z13 h => ?_)
  conv => whnf
  exact np_gl (L_X0_gatherBase_4 hX hR (pw_F 20000) S i0 z12 z13 f hi0 hW h) ⟨rfl, rfl, rfl, trivial⟩
theorem dX0_shifted_0 : decode cX0_shifted 0 = .ok (.iload_n 0, 1) := by decide +kernel
theorem dX0_shifted_1 : decode cX0_shifted 1 = .ok (.iload_n 1, 1) := by decide +kernel
theorem dX0_shifted_2 : decode cX0_shifted 2 = .ok (.ishl, 1) := by decide +kernel
theorem dX0_shifted_3 : decode cX0_shifted 3 = .ok (.iconst 1, 1) := by decide +kernel
theorem dX0_shifted_4 : decode cX0_shifted 4 = .ok (.iload_n 1, 1) := by decide +kernel
theorem dX0_shifted_5 : decode cX0_shifted 5 = .ok (.ishl, 1) := by decide +kernel
theorem dX0_shifted_6 : decode cX0_shifted 6 = .ok (.iconst 1, 1) := by decide +kernel
theorem dX0_shifted_7 : decode cX0_shifted 7 = .ok (.isub, 1) := by decide +kernel
theorem dX0_shifted_8 : decode cX0_shifted 8 = .ok (.ior, 1) := by decide +kernel
theorem dX0_shifted_9 : decode cX0_shifted 9 = .ok (.ireturn, 1) := by decide +kernel
def is_X0_shifted (Rt : np_Rt) : List (Nat × np_Op) := [(0, np_ild 1 0), (1, np_ild 1 1), (2, np_ib (fun x y => x <<< (y &&& 31))), (3, np_push 1 (.int 1)), (4, np_ild 1 1), (5, np_ib (fun x y => x <<< (y &&& 31))), (6, np_push 1 (.int 1)), (7, np_ib (fun x y => x - y)), (8, np_ib (fun x y => x ||| y)), (9, np_ret Rt)]
set_option maxRecDepth 20000 in
theorem so_X0_shifted {X : np_Ctx} {Rt : np_Rt} (hX : np_ok RX0 cX0_shifted 2 0 0 0 0 .ireturn X) (hR : ∀ st w ce sl, Rt st w ce sl → X.2.2.1 st w ce sl) : ∀ q ∈ is_X0_shifted Rt, np_S X q.1 q.2 :=
  List.forall_mem_cons.mpr ⟨np_s_iload_n hX dX0_shifted_0 rfl, List.forall_mem_cons.mpr ⟨np_s_iload_n hX dX0_shifted_1 rfl, List.forall_mem_cons.mpr ⟨np_s_ishl hX dX0_shifted_2, List.forall_mem_cons.mpr ⟨np_s_iconst hX dX0_shifted_3 (by decide), List.forall_mem_cons.mpr ⟨np_s_iload_n hX dX0_shifted_4 rfl, List.forall_mem_cons.mpr ⟨np_s_ishl hX dX0_shifted_5, List.forall_mem_cons.mpr ⟨np_s_iconst hX dX0_shifted_6 (by decide), List.forall_mem_cons.mpr ⟨np_s_isub hX dX0_shifted_7, List.forall_mem_cons.mpr ⟨np_s_ior hX dX0_shifted_8, List.forall_mem_cons.mpr ⟨np_S.mono (op := np_ret X.2.2.1) (np_s_ret hX dX0_shifted_9) (nq_ret_le hR), fun _ h => nomatch h⟩⟩⟩⟩⟩⟩⟩⟩⟩⟩
noncomputable def m_X0_shifted (S : pw_S) (x0 : Int32) (x1 : Int32) : pw_R Int32 :=
 some (S, ((x0 <<< (x1 &&& 31)) ||| ((1 <<< (x1 &&& 31)) - 1)))
def sp_X0_shifted : np_Sp := fun vs w Q => ∃ (q : Nat) (S : pw_S) (x0 : Int32) (x1 : Int32), vs = [.int x0, .int x1] ∧ pw_W q w S ∧ pw_p (m_X0_shifted S x0 x1) (fun S' r => ∀ f', pw_W q (w.1, f') S' → Q (some (.int r)) (w.1, f'))
set_option maxRecDepth 100000 in
set_option maxHeartbeats 8000000 in
theorem C_X0_shifted : np_C yX0_shifted cX0_shifted 2 (some .int) 0 0 0 0 sp_X0_shifted := by
  refine np_of (by decide) ?_
  intro X vs w Q hsp hX hmn hRt hlt
  obtain ⟨q, S, x0, x1, rfl, hW, h⟩ := hsp
  obtain ⟨n, f⟩ := w
  unfold m_X0_shifted at h
  have hR : ∀ st w ce sl, np_rt (some .int) 0 0 Q st w ce sl → X.2.2.1 st w ce sl := fun _ _ _ _ h => by rw [hRt]; exact h
  refine np_soundW (so_X0_shifted hX hR) [] 400 0 _ _ _ _ _ ?_
  conv => whnf
  exact ⟨Nat.le_of_ble_eq_true rfl, Nat.le_of_ble_eq_true rfl, ⟨_, rfl⟩, _, fun _ _ h9 => h9, pw_ps h _ hW⟩
theorem dX0_shiftBatch_0 : decode cX0_shiftBatch 0 = .ok (.iconst 0, 1) := by decide +kernel
theorem dX0_shiftBatch_1 : decode cX0_shiftBatch 1 = .ok (.istore_n 2, 1) := by decide +kernel
theorem dX0_shiftBatch_2 : decode cX0_shiftBatch 2 = .ok (.iload_n 2, 1) := by decide +kernel
theorem dX0_shiftBatch_3 : decode cX0_shiftBatch 3 = .ok (.aload_n 0, 1) := by decide +kernel
theorem dX0_shiftBatch_4 : decode cX0_shiftBatch 4 = .ok (.getfield 15, 3) := by decide +kernel
theorem dX0_shiftBatch_7 : decode cX0_shiftBatch 7 = .ok (.arraylength, 1) := by decide +kernel
theorem dX0_shiftBatch_8 : decode cX0_shiftBatch 8 = .ok (.if_icmp .ge 30, 3) := by decide +kernel
theorem dX0_shiftBatch_11 : decode cX0_shiftBatch 11 = .ok (.aload_n 0, 1) := by decide +kernel
theorem dX0_shiftBatch_12 : decode cX0_shiftBatch 12 = .ok (.getfield 15, 3) := by decide +kernel
theorem dX0_shiftBatch_15 : decode cX0_shiftBatch 15 = .ok (.iload_n 2, 1) := by decide +kernel
theorem dX0_shiftBatch_16 : decode cX0_shiftBatch 16 = .ok (.aload_n 0, 1) := by decide +kernel
theorem dX0_shiftBatch_17 : decode cX0_shiftBatch 17 = .ok (.getfield 9, 3) := by decide +kernel
theorem dX0_shiftBatch_20 : decode cX0_shiftBatch 20 = .ok (.iload_n 2, 1) := by decide +kernel
theorem dX0_shiftBatch_21 : decode cX0_shiftBatch 21 = .ok (.aload_n 0, 1) := by decide +kernel
theorem dX0_shiftBatch_22 : decode cX0_shiftBatch 22 = .ok (.getfield 29, 3) := by decide +kernel
theorem dX0_shiftBatch_25 : decode cX0_shiftBatch 25 = .ok (.isub, 1) := by decide +kernel
theorem dX0_shiftBatch_26 : decode cX0_shiftBatch 26 = .ok (.ldc 38, 2) := by decide +kernel
theorem dX0_shiftBatch_28 : decode cX0_shiftBatch 28 = .ok (.invokestatic 74, 3) := by decide +kernel
theorem dX0_shiftBatch_31 : decode cX0_shiftBatch 31 = .ok (.iastore, 1) := by decide +kernel
theorem dX0_shiftBatch_32 : decode cX0_shiftBatch 32 = .ok (.iinc 2 1, 3) := by decide +kernel
theorem dX0_shiftBatch_35 : decode cX0_shiftBatch 35 = .ok (.goto (-33), 3) := by decide +kernel
theorem dX0_shiftBatch_38 : decode cX0_shiftBatch 38 = .ok (.iload_n 1, 1) := by decide +kernel
theorem dX0_shiftBatch_39 : decode cX0_shiftBatch 39 = .ok (.aload_n 0, 1) := by decide +kernel
theorem dX0_shiftBatch_40 : decode cX0_shiftBatch 40 = .ok (.getfield 29, 3) := by decide +kernel
theorem dX0_shiftBatch_43 : decode cX0_shiftBatch 43 = .ok (.invokestatic 78, 3) := by decide +kernel
theorem dX0_shiftBatch_46 : decode cX0_shiftBatch 46 = .ok (.ireturn, 1) := by decide +kernel
def is_X0_shiftBatch (Rt : np_Rt) : List (Nat × np_Op) := [(0, np_push 1 (.int 0)), (1, nw_ist 1 2), (2, np_ild 1 2), (3, np_ald 1 0), (4, nw_getf 0 1), (7, nw_alen), (8, nq_ic (fun x y => y ≤ x) 38), (11, np_ald 1 0), (12, nw_getf 0 1), (15, np_ild 1 2), (16, np_ald 1 0), (17, nw_getf 0 0), (20, np_ild 1 2), (21, np_ald 1 0), (22, nw_getf 0 5), (25, np_ib (fun x y => x - y)), (26, np_push 2 (.int (-2147483648))), (28, nq_call 3 sp_X11_at 3 0 0 0 0), (31, nw_iastT .int), (32, nw_iinc 2 1), (35, np_goto 2), (38, np_ild 1 1), (39, np_ald 1 0), (40, nw_getf 0 5), (43, nq_call 2 sp_X0_shifted 2 0 0 0 0), (46, np_ret Rt)]
set_option maxRecDepth 20000 in
theorem so_X0_shiftBatch {X : np_Ctx} {Rt : np_Rt} (hX : np_ok RX0 cX0_shiftBatch 3 1 22 0 0 .ireturn X) (hR : ∀ st w ce sl, Rt st w ce sl → X.2.2.1 st w ce sl) : ∀ q ∈ is_X0_shiftBatch Rt, np_S X q.1 q.2 :=
  List.forall_mem_cons.mpr ⟨np_s_iconst hX dX0_shiftBatch_0 (by decide), List.forall_mem_cons.mpr ⟨np_S.mono (op := np_ist 1 2) (np_s_istore_n hX dX0_shiftBatch_1 rfl (by decide)) nw_ist_le, List.forall_mem_cons.mpr ⟨np_s_iload_n hX dX0_shiftBatch_2 rfl, List.forall_mem_cons.mpr ⟨np_s_aload_n hX dX0_shiftBatch_3 rfl, List.forall_mem_cons.mpr ⟨np_S.mono (op := np_getf 0 1) (np_s_getf hX dX0_shiftBatch_4 (C := RX0) (T := TX0) (N := 6) rfl guX0 (by decide) gw395) nw_getf_le, List.forall_mem_cons.mpr ⟨np_S.mono (op := np_alen) (np_s_alen hX dX0_shiftBatch_7) nw_alen_le, List.forall_mem_cons.mpr ⟨np_S.mono (op := np_ic (fun x y => y ≤ x) 38) (np_s_icmp_ge hX dX0_shiftBatch_8 (by decide)) nq_ic_le, List.forall_mem_cons.mpr ⟨np_s_aload_n hX dX0_shiftBatch_11 rfl, List.forall_mem_cons.mpr ⟨np_S.mono (op := np_getf 0 1) (np_s_getf hX dX0_shiftBatch_12 (C := RX0) (T := TX0) (N := 6) rfl guX0 (by decide) gw395) nw_getf_le, List.forall_mem_cons.mpr ⟨np_s_iload_n hX dX0_shiftBatch_15 rfl, List.forall_mem_cons.mpr ⟨np_s_aload_n hX dX0_shiftBatch_16 rfl, List.forall_mem_cons.mpr ⟨np_S.mono (op := np_getf 0 0) (np_s_getf hX dX0_shiftBatch_17 (C := RX0) (T := TX0) (N := 6) rfl guX0 (by decide) gw394) nw_getf_le, List.forall_mem_cons.mpr ⟨np_s_iload_n hX dX0_shiftBatch_20 rfl, List.forall_mem_cons.mpr ⟨np_s_aload_n hX dX0_shiftBatch_21 rfl, List.forall_mem_cons.mpr ⟨np_S.mono (op := np_getf 0 5) (np_s_getf hX dX0_shiftBatch_22 (C := RX0) (T := TX0) (N := 6) rfl guX0 (by decide) gw399) nw_getf_le, List.forall_mem_cons.mpr ⟨np_s_isub hX dX0_shiftBatch_25, List.forall_mem_cons.mpr ⟨np_s_ldc hX dX0_shiftBatch_26 gw1168, List.forall_mem_cons.mpr ⟨np_S.mono (op := np_call 3 sp_X11_at 3 0 0 0 0) (np_s_callSN hX C_X11_at dX0_shiftBatch_28 gw653 gw63 gw1519 gw652 ⟨by decide, by decide, by decide⟩ (by decide) (by decide)) nq_call_le, List.forall_mem_cons.mpr ⟨np_S.mono (op := np_iastT .int) (np_s_iast hX dX0_shiftBatch_31) nw_iastT_le, List.forall_mem_cons.mpr ⟨np_S.mono (op := np_iinc 2 1) (np_s_iinc hX dX0_shiftBatch_32 (by decide)) nw_iinc_le, List.forall_mem_cons.mpr ⟨np_s_goto hX dX0_shiftBatch_35 (by decide), List.forall_mem_cons.mpr ⟨np_s_iload_n hX dX0_shiftBatch_38 rfl, List.forall_mem_cons.mpr ⟨np_s_aload_n hX dX0_shiftBatch_39 rfl, List.forall_mem_cons.mpr ⟨np_S.mono (op := np_getf 0 5) (np_s_getf hX dX0_shiftBatch_40 (C := RX0) (T := TX0) (N := 6) rfl guX0 (by decide) gw399) nw_getf_le, List.forall_mem_cons.mpr ⟨np_S.mono (op := np_call 2 sp_X0_shifted 2 0 0 0 0) (np_s_callS hX C_X0_shifted dX0_shiftBatch_43 gw1522 gw73 gw1520 gw1521 ⟨by decide, by decide, by decide⟩ (by decide) (by decide)) nq_call_le, List.forall_mem_cons.mpr ⟨np_S.mono (op := np_ret X.2.2.1) (np_s_ret hX dX0_shiftBatch_46) (nq_ret_le hR), fun _ h => nomatch h⟩⟩⟩⟩⟩⟩⟩⟩⟩⟩⟩⟩⟩⟩⟩⟩⟩⟩⟩⟩⟩⟩⟩⟩⟩⟩
noncomputable def m_X0_shiftBatch_2 : Nat → pw_S → Nat → Int32 → Int32 → pw_R Int32
| 0, _, _, _, _ => none
| N + 1, S, v0, v1, v2 =>
 if 24 ≤ v2 then
 (pw_b (m_X0_shifted S v1 (S 55 v0 5)) fun S1 r4 =>
 some (S1, r4))
 else
 (pw_b (m_X11_at S 17 v0 (v2 - (S 55 v0 5)) (-2147483648)) fun S6 r9 =>
 pw_c (np_inb v2 24) <|
 pw_l (pw_up S6 18 v0 (upd (S6 18 v0) (v2 : Int32).toNatClampNeg r9)) fun S11 =>
 pw_l (v2 + 1 : Int32) fun z14 =>
 m_X0_shiftBatch_2 N S11 v0 v1 z14)
set_option maxRecDepth 100000 in
set_option maxHeartbeats 8000000 in
theorem L_X0_shiftBatch_2 {X : np_Ctx} (hX : np_ok RX0 cX0_shiftBatch 3 1 22 0 0 .ireturn X) {Q : Option Value → np_W → Prop} {q n : Nat} (hR : ∀ st w ce sl, np_rt (some .int) 0 0 Q st w ce sl → X.2.2.1 st w ce sl) : ∀ (N : Nat) (S : pw_S) (v0 : Nat) (v1 : Int32) (v2 : Int32) (f : Nat → Option np_E) (hv0 : pw_ok q 55 v0 = true), pw_W q (n, f) S → pw_p (m_X0_shiftBatch_2 N S v0 v1 v2) (fun S' r => ∀ f', pw_W q (n, f') S' → Q (some (.int r)) (n, f')) → np_G X 2 [(0, .ref (pw_pl 55 v0)), (1, .int v1), (2, .int v2)] [] (n, f) 0 0 := by
  intro N
  induction N with
  | zero =>
    intro S v0 v1 v2 f hv0 hW h
    exact (pw_pn h).elim
  | succ N ih =>
    intro S v0 v1 v2 f hv0 hW h
    unfold m_X0_shiftBatch_2 at h
    refine np_soundW (so_X0_shiftBatch hX hR) [2] 400 2 _ _ _ _ _ ?_
    conv => whnf
    refine np_rd_i (hW.g hv0) ?_
    conv => whnf
    refine np_rd_i (hW.g hv0) ?_
    conv => whnf
    refine pw_br h (fun _ h => ?_) (fun _ h => ?_)
    · conv => whnf
      refine np_rd_i (hW.g hv0) ?_
      conv => whnf
      refine ⟨q, S, v1, (S 55 v0 5), rfl, hW, pw_bd h (fun S1 r4 h f2 hW3 => ?_)⟩
      conv => whnf
      exact ⟨Nat.le_of_ble_eq_true rfl, Nat.le_of_ble_eq_true rfl, ⟨_, rfl⟩, _, fun _ _ h9 => h9, pw_ps h _ hW3⟩
    · conv => whnf
      refine np_rd_i (hW.g hv0) ?_
      conv => whnf
      refine np_rd_i (hW.g hv0) ?_
      conv => whnf
      refine np_rd_i (hW.g hv0) ?_
      conv => whnf
      refine ⟨q, S, 17, v0, (v2 - (S 55 v0 5)), (-2147483648), rfl, rfl, hv0, hW, pw_bd h (fun S6 r9 h f7 hW8 => ?_)⟩
      conv => whnf
      refine np_rd_i (hW8.g hv0) ?_
      conv => whnf
      refine pw_ck h (fun _ h => ?_)
      conv => whnf
      refine pw_wr (a := 18) (i := v0) (d := upd (S6 18 v0) (v2 : Int32).toNatClampNeg r9) hW8 hv0 rfl h (fun S11 f12 hW13 h => ?_)
      conv => whnf
      refine pw_st h (fun z14 h => ?_)
      conv => whnf
      exact np_gl (ih S11 v0 v1 z14 f12 hv0 hW13 h) ⟨rfl, rfl, rfl, trivial⟩
noncomputable def m_X0_shiftBatch (S : pw_S) (i0 : Nat) (x1 : Int32) : pw_R Int32 :=
 pw_l (0 : Int32) fun z15 =>
 m_X0_shiftBatch_2 (pw_F 20000) S i0 x1 z15
def sp_X0_shiftBatch : np_Sp := fun vs w Q => ∃ (q : Nat) (S : pw_S) (i0 : Nat) (x1 : Int32), vs = [.ref (pw_pl 55 i0), .int x1] ∧ pw_ok q 55 i0 = true ∧ pw_W q w S ∧ pw_p (m_X0_shiftBatch S i0 x1) (fun S' r => ∀ f', pw_W q (w.1, f') S' → Q (some (.int r)) (w.1, f'))
set_option maxRecDepth 100000 in
set_option maxHeartbeats 8000000 in
theorem C_X0_shiftBatch : np_C yX0_shiftBatch cX0_shiftBatch 3 (some .int) 1 22 0 0 sp_X0_shiftBatch := by
  refine np_of (by decide) ?_
  intro X vs w Q hsp hX hmn hRt hlt
  obtain ⟨q, S, i0, x1, rfl, hi0, hW, h⟩ := hsp
  obtain ⟨n, f⟩ := w
  unfold m_X0_shiftBatch at h
  have hR : ∀ st w ce sl, np_rt (some .int) 0 0 Q st w ce sl → X.2.2.1 st w ce sl := fun _ _ _ _ h => by rw [hRt]; exact h
  refine np_soundW (so_X0_shiftBatch hX hR) [2] 400 0 _ _ _ _ _ ?_
  conv => whnf
  refine pw_st h (fun z15 h => ?_)
  conv => whnf
  exact np_gl (L_X0_shiftBatch_2 hX hR (pw_F 20000) S i0 x1 z15 f hi0 hW h) ⟨rfl, rfl, rfl, trivial⟩
theorem dX0_differBatch_0 : decode cX0_differBatch 0 = .ok (.iconst 0, 1) := by decide +kernel
theorem dX0_differBatch_1 : decode cX0_differBatch 1 = .ok (.istore_n 2, 1) := by decide +kernel
theorem dX0_differBatch_2 : decode cX0_differBatch 2 = .ok (.iload_n 2, 1) := by decide +kernel
theorem dX0_differBatch_3 : decode cX0_differBatch 3 = .ok (.aload_n 0, 1) := by decide +kernel
theorem dX0_differBatch_4 : decode cX0_differBatch 4 = .ok (.getfield 15, 3) := by decide +kernel
theorem dX0_differBatch_7 : decode cX0_differBatch 7 = .ok (.arraylength, 1) := by decide +kernel
theorem dX0_differBatch_8 : decode cX0_differBatch 8 = .ok (.if_icmp .ge 36, 3) := by decide +kernel
theorem dX0_differBatch_11 : decode cX0_differBatch 11 = .ok (.aload_n 0, 1) := by decide +kernel
theorem dX0_differBatch_12 : decode cX0_differBatch 12 = .ok (.getfield 15, 3) := by decide +kernel
theorem dX0_differBatch_15 : decode cX0_differBatch 15 = .ok (.iload_n 2, 1) := by decide +kernel
theorem dX0_differBatch_16 : decode cX0_differBatch 16 = .ok (.aload_n 0, 1) := by decide +kernel
theorem dX0_differBatch_17 : decode cX0_differBatch 17 = .ok (.getfield 9, 3) := by decide +kernel
theorem dX0_differBatch_20 : decode cX0_differBatch 20 = .ok (.iload_n 2, 1) := by decide +kernel
theorem dX0_differBatch_21 : decode cX0_differBatch 21 = .ok (.iconst 0, 1) := by decide +kernel
theorem dX0_differBatch_22 : decode cX0_differBatch 22 = .ok (.invokestatic 74, 3) := by decide +kernel
theorem dX0_differBatch_25 : decode cX0_differBatch 25 = .ok (.aload_n 0, 1) := by decide +kernel
theorem dX0_differBatch_26 : decode cX0_differBatch 26 = .ok (.getfield 9, 3) := by decide +kernel
theorem dX0_differBatch_29 : decode cX0_differBatch 29 = .ok (.iload_n 2, 1) := by decide +kernel
theorem dX0_differBatch_30 : decode cX0_differBatch 30 = .ok (.iconst 1, 1) := by decide +kernel
theorem dX0_differBatch_31 : decode cX0_differBatch 31 = .ok (.isub, 1) := by decide +kernel
theorem dX0_differBatch_32 : decode cX0_differBatch 32 = .ok (.iconst 0, 1) := by decide +kernel
theorem dX0_differBatch_33 : decode cX0_differBatch 33 = .ok (.invokestatic 74, 3) := by decide +kernel
theorem dX0_differBatch_36 : decode cX0_differBatch 36 = .ok (.isub, 1) := by decide +kernel
theorem dX0_differBatch_37 : decode cX0_differBatch 37 = .ok (.iastore, 1) := by decide +kernel
theorem dX0_differBatch_38 : decode cX0_differBatch 38 = .ok (.iinc 2 1, 3) := by decide +kernel
theorem dX0_differBatch_41 : decode cX0_differBatch 41 = .ok (.goto (-39), 3) := by decide +kernel
theorem dX0_differBatch_44 : decode cX0_differBatch 44 = .ok (.iload_n 1, 1) := by decide +kernel
theorem dX0_differBatch_45 : decode cX0_differBatch 45 = .ok (.iload_n 1, 1) := by decide +kernel
theorem dX0_differBatch_46 : decode cX0_differBatch 46 = .ok (.iconst 1, 1) := by decide +kernel
theorem dX0_differBatch_47 : decode cX0_differBatch 47 = .ok (.invokestatic 78, 3) := by decide +kernel
theorem dX0_differBatch_50 : decode cX0_differBatch 50 = .ok (.ior, 1) := by decide +kernel
theorem dX0_differBatch_51 : decode cX0_differBatch 51 = .ok (.ireturn, 1) := by decide +kernel
def is_X0_differBatch (Rt : np_Rt) : List (Nat × np_Op) := [(0, np_push 1 (.int 0)), (1, nw_ist 1 2), (2, np_ild 1 2), (3, np_ald 1 0), (4, nw_getf 0 1), (7, nw_alen), (8, nq_ic (fun x y => y ≤ x) 44), (11, np_ald 1 0), (12, nw_getf 0 1), (15, np_ild 1 2), (16, np_ald 1 0), (17, nw_getf 0 0), (20, np_ild 1 2), (21, np_push 1 (.int 0)), (22, nq_call 3 sp_X11_at 3 0 0 0 0), (25, np_ald 1 0), (26, nw_getf 0 0), (29, np_ild 1 2), (30, np_push 1 (.int 1)), (31, np_ib (fun x y => x - y)), (32, np_push 1 (.int 0)), (33, nq_call 3 sp_X11_at 3 0 0 0 0), (36, np_ib (fun x y => x - y)), (37, nw_iastT .int), (38, nw_iinc 2 1), (41, np_goto 2), (44, np_ild 1 1), (45, np_ild 1 1), (46, np_push 1 (.int 1)), (47, nq_call 2 sp_X0_shifted 2 0 0 0 0), (50, np_ib (fun x y => x ||| y)), (51, np_ret Rt)]
set_option maxRecDepth 20000 in
theorem so_X0_differBatch {X : np_Ctx} {Rt : np_Rt} (hX : np_ok RX0 cX0_differBatch 3 1 22 0 0 .ireturn X) (hR : ∀ st w ce sl, Rt st w ce sl → X.2.2.1 st w ce sl) : ∀ q ∈ is_X0_differBatch Rt, np_S X q.1 q.2 :=
  List.forall_mem_cons.mpr ⟨np_s_iconst hX dX0_differBatch_0 (by decide), List.forall_mem_cons.mpr ⟨np_S.mono (op := np_ist 1 2) (np_s_istore_n hX dX0_differBatch_1 rfl (by decide)) nw_ist_le, List.forall_mem_cons.mpr ⟨np_s_iload_n hX dX0_differBatch_2 rfl, List.forall_mem_cons.mpr ⟨np_s_aload_n hX dX0_differBatch_3 rfl, List.forall_mem_cons.mpr ⟨np_S.mono (op := np_getf 0 1) (np_s_getf hX dX0_differBatch_4 (C := RX0) (T := TX0) (N := 6) rfl guX0 (by decide) gw395) nw_getf_le, List.forall_mem_cons.mpr ⟨np_S.mono (op := np_alen) (np_s_alen hX dX0_differBatch_7) nw_alen_le, List.forall_mem_cons.mpr ⟨np_S.mono (op := np_ic (fun x y => y ≤ x) 44) (np_s_icmp_ge hX dX0_differBatch_8 (by decide)) nq_ic_le, List.forall_mem_cons.mpr ⟨np_s_aload_n hX dX0_differBatch_11 rfl, List.forall_mem_cons.mpr ⟨np_S.mono (op := np_getf 0 1) (np_s_getf hX dX0_differBatch_12 (C := RX0) (T := TX0) (N := 6) rfl guX0 (by decide) gw395) nw_getf_le, List.forall_mem_cons.mpr ⟨np_s_iload_n hX dX0_differBatch_15 rfl, List.forall_mem_cons.mpr ⟨np_s_aload_n hX dX0_differBatch_16 rfl, List.forall_mem_cons.mpr ⟨np_S.mono (op := np_getf 0 0) (np_s_getf hX dX0_differBatch_17 (C := RX0) (T := TX0) (N := 6) rfl guX0 (by decide) gw394) nw_getf_le, List.forall_mem_cons.mpr ⟨np_s_iload_n hX dX0_differBatch_20 rfl, List.forall_mem_cons.mpr ⟨np_s_iconst hX dX0_differBatch_21 (by decide), List.forall_mem_cons.mpr ⟨np_S.mono (op := np_call 3 sp_X11_at 3 0 0 0 0) (np_s_callSN hX C_X11_at dX0_differBatch_22 gw653 gw63 gw1519 gw652 ⟨by decide, by decide, by decide⟩ (by decide) (by decide)) nq_call_le, List.forall_mem_cons.mpr ⟨np_s_aload_n hX dX0_differBatch_25 rfl, List.forall_mem_cons.mpr ⟨np_S.mono (op := np_getf 0 0) (np_s_getf hX dX0_differBatch_26 (C := RX0) (T := TX0) (N := 6) rfl guX0 (by decide) gw394) nw_getf_le, List.forall_mem_cons.mpr ⟨np_s_iload_n hX dX0_differBatch_29 rfl, List.forall_mem_cons.mpr ⟨np_s_iconst hX dX0_differBatch_30 (by decide), List.forall_mem_cons.mpr ⟨np_s_isub hX dX0_differBatch_31, List.forall_mem_cons.mpr ⟨np_s_iconst hX dX0_differBatch_32 (by decide), List.forall_mem_cons.mpr ⟨np_S.mono (op := np_call 3 sp_X11_at 3 0 0 0 0) (np_s_callSN hX C_X11_at dX0_differBatch_33 gw653 gw63 gw1519 gw652 ⟨by decide, by decide, by decide⟩ (by decide) (by decide)) nq_call_le, List.forall_mem_cons.mpr ⟨np_s_isub hX dX0_differBatch_36, List.forall_mem_cons.mpr ⟨np_S.mono (op := np_iastT .int) (np_s_iast hX dX0_differBatch_37) nw_iastT_le, List.forall_mem_cons.mpr ⟨np_S.mono (op := np_iinc 2 1) (np_s_iinc hX dX0_differBatch_38 (by decide)) nw_iinc_le, List.forall_mem_cons.mpr ⟨np_s_goto hX dX0_differBatch_41 (by decide), List.forall_mem_cons.mpr ⟨np_s_iload_n hX dX0_differBatch_44 rfl, List.forall_mem_cons.mpr ⟨np_s_iload_n hX dX0_differBatch_45 rfl, List.forall_mem_cons.mpr ⟨np_s_iconst hX dX0_differBatch_46 (by decide), List.forall_mem_cons.mpr ⟨np_S.mono (op := np_call 2 sp_X0_shifted 2 0 0 0 0) (np_s_callS hX C_X0_shifted dX0_differBatch_47 gw1522 gw73 gw1520 gw1521 ⟨by decide, by decide, by decide⟩ (by decide) (by decide)) nq_call_le, List.forall_mem_cons.mpr ⟨np_s_ior hX dX0_differBatch_50, List.forall_mem_cons.mpr ⟨np_S.mono (op := np_ret X.2.2.1) (np_s_ret hX dX0_differBatch_51) (nq_ret_le hR), fun _ h => nomatch h⟩⟩⟩⟩⟩⟩⟩⟩⟩⟩⟩⟩⟩⟩⟩⟩⟩⟩⟩⟩⟩⟩⟩⟩⟩⟩⟩⟩⟩⟩⟩⟩
noncomputable def m_X0_differBatch_2 : Nat → pw_S → Nat → Int32 → Int32 → pw_R Int32
| 0, _, _, _, _ => none
| N + 1, S, v0, v1, v2 =>
 if 24 ≤ v2 then
 (pw_b (m_X0_shifted S v1 1) fun S1 r4 =>
 some (S1, (v1 ||| r4)))
 else
 (pw_b (m_X11_at S 17 v0 v2 0) fun S6 r9 =>
 pw_b (m_X11_at S6 17 v0 (v2 - 1) 0) fun S11 r14 =>
 pw_c (np_inb v2 24) <|
 pw_l (pw_up S11 18 v0 (upd (S11 18 v0) (v2 : Int32).toNatClampNeg (r9 - r14))) fun S16 =>
 pw_l (v2 + 1 : Int32) fun z19 =>
 m_X0_differBatch_2 N S16 v0 v1 z19)
set_option maxRecDepth 100000 in
set_option maxHeartbeats 8000000 in
theorem L_X0_differBatch_2 {X : np_Ctx} (hX : np_ok RX0 cX0_differBatch 3 1 22 0 0 .ireturn X) {Q : Option Value → np_W → Prop} {q n : Nat} (hR : ∀ st w ce sl, np_rt (some .int) 0 0 Q st w ce sl → X.2.2.1 st w ce sl) : ∀ (N : Nat) (S : pw_S) (v0 : Nat) (v1 : Int32) (v2 : Int32) (f : Nat → Option np_E) (hv0 : pw_ok q 55 v0 = true), pw_W q (n, f) S → pw_p (m_X0_differBatch_2 N S v0 v1 v2) (fun S' r => ∀ f', pw_W q (n, f') S' → Q (some (.int r)) (n, f')) → np_G X 2 [(0, .ref (pw_pl 55 v0)), (1, .int v1), (2, .int v2)] [] (n, f) 0 0 := by
  intro N
  induction N with
  | zero =>
    intro S v0 v1 v2 f hv0 hW h
    exact (pw_pn h).elim
  | succ N ih =>
    intro S v0 v1 v2 f hv0 hW h
    unfold m_X0_differBatch_2 at h
    refine np_soundW (so_X0_differBatch hX hR) [2] 400 2 _ _ _ _ _ ?_
    conv => whnf
    refine np_rd_i (hW.g hv0) ?_
    conv => whnf
    refine np_rd_i (hW.g hv0) ?_
    conv => whnf
    refine pw_br h (fun _ h => ?_) (fun _ h => ?_)
    · conv => whnf
      refine ⟨q, S, v1, 1, rfl, hW, pw_bd h (fun S1 r4 h f2 hW3 => ?_)⟩
      conv => whnf
      exact ⟨Nat.le_of_ble_eq_true rfl, Nat.le_of_ble_eq_true rfl, ⟨_, rfl⟩, _, fun _ _ h9 => h9, pw_ps h _ hW3⟩
    · conv => whnf
      refine np_rd_i (hW.g hv0) ?_
      conv => whnf
      refine np_rd_i (hW.g hv0) ?_
      conv => whnf
      refine ⟨q, S, 17, v0, v2, 0, rfl, rfl, hv0, hW, pw_bd h (fun S6 r9 h f7 hW8 => ?_)⟩
      conv => whnf
      refine np_rd_i (hW8.g hv0) ?_
      conv => whnf
      refine ⟨q, S6, 17, v0, (v2 - 1), 0, rfl, rfl, hv0, hW8, pw_bd h (fun S11 r14 h f12 hW13 => ?_)⟩
      conv => whnf
      refine np_rd_i (hW13.g hv0) ?_
      conv => whnf
      refine pw_ck h (fun _ h => ?_)
      conv => whnf
      refine pw_wr (a := 18) (i := v0) (d := upd (S11 18 v0) (v2 : Int32).toNatClampNeg (r9 - r14)) hW13 hv0 rfl h (fun S16 f17 hW18 h => ?_)
      conv => whnf
      refine pw_st h (fun z19 h => ?_)
      conv => whnf
      exact np_gl (ih S16 v0 v1 z19 f17 hv0 hW18 h) ⟨rfl, rfl, rfl, trivial⟩
noncomputable def m_X0_differBatch (S : pw_S) (i0 : Nat) (x1 : Int32) : pw_R Int32 :=
 pw_l (0 : Int32) fun z20 =>
 m_X0_differBatch_2 (pw_F 20000) S i0 x1 z20
def sp_X0_differBatch : np_Sp := fun vs w Q => ∃ (q : Nat) (S : pw_S) (i0 : Nat) (x1 : Int32), vs = [.ref (pw_pl 55 i0), .int x1] ∧ pw_ok q 55 i0 = true ∧ pw_W q w S ∧ pw_p (m_X0_differBatch S i0 x1) (fun S' r => ∀ f', pw_W q (w.1, f') S' → Q (some (.int r)) (w.1, f'))
set_option maxRecDepth 100000 in
set_option maxHeartbeats 8000000 in
theorem C_X0_differBatch : np_C yX0_differBatch cX0_differBatch 3 (some .int) 1 22 0 0 sp_X0_differBatch := by
  refine np_of (by decide) ?_
  intro X vs w Q hsp hX hmn hRt hlt
  obtain ⟨q, S, i0, x1, rfl, hi0, hW, h⟩ := hsp
  obtain ⟨n, f⟩ := w
  unfold m_X0_differBatch at h
  have hR : ∀ st w ce sl, np_rt (some .int) 0 0 Q st w ce sl → X.2.2.1 st w ce sl := fun _ _ _ _ h => by rw [hRt]; exact h
  refine np_soundW (so_X0_differBatch hX hR) [2] 400 0 _ _ _ _ _ ?_
  conv => whnf
  refine pw_st h (fun z20 h => ?_)
  conv => whnf
  exact np_gl (L_X0_differBatch_2 hX hR (pw_F 20000) S i0 x1 z20 f hi0 hW h) ⟨rfl, rfl, rfl, trivial⟩
theorem dX11_fillAll_0 : decode cX11_fillAll 0 = .ok (.iconst 0, 1) := by decide +kernel
theorem dX11_fillAll_1 : decode cX11_fillAll 1 = .ok (.istore_n 2, 1) := by decide +kernel
theorem dX11_fillAll_2 : decode cX11_fillAll 2 = .ok (.iload_n 2, 1) := by decide +kernel
theorem dX11_fillAll_3 : decode cX11_fillAll 3 = .ok (.aload_n 0, 1) := by decide +kernel
theorem dX11_fillAll_4 : decode cX11_fillAll 4 = .ok (.arraylength, 1) := by decide +kernel
theorem dX11_fillAll_5 : decode cX11_fillAll 5 = .ok (.if_icmp .ge 13, 3) := by decide +kernel
theorem dX11_fillAll_8 : decode cX11_fillAll 8 = .ok (.aload_n 0, 1) := by decide +kernel
theorem dX11_fillAll_9 : decode cX11_fillAll 9 = .ok (.iload_n 2, 1) := by decide +kernel
theorem dX11_fillAll_10 : decode cX11_fillAll 10 = .ok (.iload_n 1, 1) := by decide +kernel
theorem dX11_fillAll_11 : decode cX11_fillAll 11 = .ok (.iastore, 1) := by decide +kernel
theorem dX11_fillAll_12 : decode cX11_fillAll 12 = .ok (.iinc 2 1, 3) := by decide +kernel
theorem dX11_fillAll_15 : decode cX11_fillAll 15 = .ok (.goto (-13), 3) := by decide +kernel
theorem dX11_fillAll_18 : decode cX11_fillAll 18 = .ok (.return_, 1) := by decide +kernel
def is_X11_fillAll (Rt : np_Rt) : List (Nat × np_Op) := [(0, np_push 1 (.int 0)), (1, nw_ist 1 2), (2, np_ild 1 2), (3, np_ald 1 0), (4, nw_alen), (5, nq_ic (fun x y => y ≤ x) 18), (8, np_ald 1 0), (9, np_ild 1 2), (10, np_ild 1 1), (11, nw_iastT .int), (12, nw_iinc 2 1), (15, np_goto 2), (18, np_ret Rt)]
set_option maxRecDepth 20000 in
theorem so_X11_fillAll {X : np_Ctx} {Rt : np_Rt} (hX : np_ok RX11 cX11_fillAll 3 0 0 0 0 .return_ X) (hR : ∀ st w ce sl, Rt st w ce sl → X.2.2.1 st w ce sl) : ∀ q ∈ is_X11_fillAll Rt, np_S X q.1 q.2 :=
  List.forall_mem_cons.mpr ⟨np_s_iconst hX dX11_fillAll_0 (by decide), List.forall_mem_cons.mpr ⟨np_S.mono (op := np_ist 1 2) (np_s_istore_n hX dX11_fillAll_1 rfl (by decide)) nw_ist_le, List.forall_mem_cons.mpr ⟨np_s_iload_n hX dX11_fillAll_2 rfl, List.forall_mem_cons.mpr ⟨np_s_aload_n hX dX11_fillAll_3 rfl, List.forall_mem_cons.mpr ⟨np_S.mono (op := np_alen) (np_s_alen hX dX11_fillAll_4) nw_alen_le, List.forall_mem_cons.mpr ⟨np_S.mono (op := np_ic (fun x y => y ≤ x) 18) (np_s_icmp_ge hX dX11_fillAll_5 (by decide)) nq_ic_le, List.forall_mem_cons.mpr ⟨np_s_aload_n hX dX11_fillAll_8 rfl, List.forall_mem_cons.mpr ⟨np_s_iload_n hX dX11_fillAll_9 rfl, List.forall_mem_cons.mpr ⟨np_s_iload_n hX dX11_fillAll_10 rfl, List.forall_mem_cons.mpr ⟨np_S.mono (op := np_iastT .int) (np_s_iast hX dX11_fillAll_11) nw_iastT_le, List.forall_mem_cons.mpr ⟨np_S.mono (op := np_iinc 2 1) (np_s_iinc hX dX11_fillAll_12 (by decide)) nw_iinc_le, List.forall_mem_cons.mpr ⟨np_s_goto hX dX11_fillAll_15 (by decide), List.forall_mem_cons.mpr ⟨np_S.mono (op := np_ret X.2.2.1) (np_s_ret hX dX11_fillAll_18) (nq_ret_le hR), fun _ h => nomatch h⟩⟩⟩⟩⟩⟩⟩⟩⟩⟩⟩⟩⟩
noncomputable def m_X11_fillAll_2 : Nat → pw_S → Nat → Nat → Int32 → Int32 → pw_R Unit
| 0, _, _, _, _, _ => none
| N + 1, S, va0, vi0, v1, v2 =>
 if (Int32.ofNat (pw_len va0)) ≤ v2 then
 (some (S, ()))
 else
 (pw_c (np_inb v2 (pw_len va0)) <|
 pw_l (pw_up S va0 vi0 (upd (S va0 vi0) (v2 : Int32).toNatClampNeg v1)) fun S1 =>
 pw_l (v2 + 1 : Int32) fun z4 =>
 m_X11_fillAll_2 N S1 va0 vi0 v1 z4)
set_option maxRecDepth 100000 in
set_option maxHeartbeats 8000000 in
theorem L_X11_fillAll_2 {X : np_Ctx} (hX : np_ok RX11 cX11_fillAll 3 0 0 0 0 .return_ X) {Q : Option Value → np_W → Prop} {q n : Nat} (hR : ∀ st w ce sl, np_rt none 0 0 Q st w ce sl → X.2.2.1 st w ce sl) : ∀ (N : Nat) (S : pw_S) (va0 : Nat) (vi0 : Nat) (v1 : Int32) (v2 : Int32) (f : Nat → Option np_E) (ha0 : pw_arr va0 = true) (hi0 : pw_ok q va0 vi0 = true), pw_W q (n, f) S → pw_p (m_X11_fillAll_2 N S va0 vi0 v1 v2) (fun S' r => ∀ f', pw_W q (n, f') S' → Q none (n, f')) → np_G X 2 [(0, .ref (pw_pl va0 vi0)), (1, .int v1), (2, .int v2)] [] (n, f) 0 0 := by
  intro N
  induction N with
  | zero =>
    intro S va0 vi0 v1 v2 f ha0 hi0 hW h
    exact (pw_pn h).elim
  | succ N ih =>
    intro S va0 vi0 v1 v2 f ha0 hi0 hW h
    unfold m_X11_fillAll_2 at h
    refine np_soundW (so_X11_fillAll hX hR) [2] 400 2 _ _ _ _ _ ?_
    conv => whnf
    refine np_rd_i (hW.ga ha0 hi0) ?_
    conv => whnf
    refine pw_br h (fun _ h => ?_) (fun _ h => ?_)
    · conv => whnf
      exact ⟨Nat.le_of_ble_eq_true rfl, Nat.le_of_ble_eq_true rfl, rfl, _, fun _ _ h9 => h9, pw_ps h _ hW⟩
    · conv => whnf
      refine np_rd_i (hW.ga ha0 hi0) ?_
      conv => whnf
      refine pw_ck h (fun _ h => ?_)
      conv => whnf
      refine pw_wr (a := va0) (i := vi0) (d := upd (S va0 vi0) (v2 : Int32).toNatClampNeg v1) hW hi0 (pw_ent_arr ha0).symm h (fun S1 f2 hW3 h => ?_)
      conv => whnf
      refine pw_st h (fun z4 h => ?_)
      conv => whnf
      exact np_gl (ih S1 va0 vi0 v1 z4 f2 ha0 hi0 hW3 h) ⟨rfl, rfl, rfl, trivial⟩
noncomputable def m_X11_fillAll (S : pw_S) (a0 : Nat) (i0 : Nat) (x1 : Int32) : pw_R Unit :=
 pw_l (0 : Int32) fun z5 =>
 m_X11_fillAll_2 (pw_F 20000) S a0 i0 x1 z5
def sp_X11_fillAll : np_Sp := fun vs w Q => ∃ (q : Nat) (S : pw_S) (a0 : Nat) (i0 : Nat) (x1 : Int32), vs = [.ref (pw_pl a0 i0), .int x1] ∧ pw_arr a0 = true ∧ pw_ok q a0 i0 = true ∧ pw_W q w S ∧ pw_p (m_X11_fillAll S a0 i0 x1) (fun S' r => ∀ f', pw_W q (w.1, f') S' → Q none (w.1, f'))
set_option maxRecDepth 100000 in
set_option maxHeartbeats 8000000 in
theorem C_X11_fillAll : np_C yX11_fillAll cX11_fillAll 3 none 0 0 0 0 sp_X11_fillAll := by
  refine np_of (by decide) ?_
  intro X vs w Q hsp hX hmn hRt hlt
  obtain ⟨q, S, a0, i0, x1, rfl, ha0, hi0, hW, h⟩ := hsp
  obtain ⟨n, f⟩ := w
  unfold m_X11_fillAll at h
  have hR : ∀ st w ce sl, np_rt none 0 0 Q st w ce sl → X.2.2.1 st w ce sl := fun _ _ _ _ h => by rw [hRt]; exact h
  refine np_soundW (so_X11_fillAll hX hR) [2] 400 0 _ _ _ _ _ ?_
  conv => whnf
  refine pw_st h (fun z5 h => ?_)
  conv => whnf
  exact np_gl (L_X11_fillAll_2 hX hR (pw_F 20000) S a0 i0 x1 z5 f ha0 hi0 hW h) ⟨rfl, rfl, rfl, trivial⟩
theorem dX0_totalBatch_0 : decode cX0_totalBatch 0 = .ok (.aload_n 0, 1) := by decide +kernel
theorem dX0_totalBatch_1 : decode cX0_totalBatch 1 = .ok (.getfield 15, 3) := by decide +kernel
theorem dX0_totalBatch_4 : decode cX0_totalBatch 4 = .ok (.iconst 0, 1) := by decide +kernel
theorem dX0_totalBatch_5 : decode cX0_totalBatch 5 = .ok (.invokestatic 81, 3) := by decide +kernel
theorem dX0_totalBatch_8 : decode cX0_totalBatch 8 = .ok (.iconst (-1), 1) := by decide +kernel
theorem dX0_totalBatch_9 : decode cX0_totalBatch 9 = .ok (.istore_n 2, 1) := by decide +kernel
theorem dX0_totalBatch_10 : decode cX0_totalBatch 10 = .ok (.iconst 0, 1) := by decide +kernel
theorem dX0_totalBatch_11 : decode cX0_totalBatch 11 = .ok (.istore_n 3, 1) := by decide +kernel
theorem dX0_totalBatch_12 : decode cX0_totalBatch 12 = .ok (.iload_n 3, 1) := by decide +kernel
theorem dX0_totalBatch_13 : decode cX0_totalBatch 13 = .ok (.aload_n 0, 1) := by decide +kernel
theorem dX0_totalBatch_14 : decode cX0_totalBatch 14 = .ok (.getfield 29, 3) := by decide +kernel
theorem dX0_totalBatch_17 : decode cX0_totalBatch 17 = .ok (.if_icmp .ge 72, 3) := by decide +kernel
theorem dX0_totalBatch_20 : decode cX0_totalBatch 20 = .ok (.iload_n 1, 1) := by decide +kernel
theorem dX0_totalBatch_21 : decode cX0_totalBatch 21 = .ok (.iload_n 3, 1) := by decide +kernel
theorem dX0_totalBatch_22 : decode cX0_totalBatch 22 = .ok (.invokestatic 78, 3) := by decide +kernel
theorem dX0_totalBatch_25 : decode cX0_totalBatch 25 = .ok (.istore 4, 2) := by decide +kernel
theorem dX0_totalBatch_27 : decode cX0_totalBatch 27 = .ok (.iconst 0, 1) := by decide +kernel
theorem dX0_totalBatch_28 : decode cX0_totalBatch 28 = .ok (.istore 5, 2) := by decide +kernel
theorem dX0_totalBatch_30 : decode cX0_totalBatch 30 = .ok (.iload 5, 2) := by decide +kernel
theorem dX0_totalBatch_32 : decode cX0_totalBatch 32 = .ok (.aload_n 0, 1) := by decide +kernel
theorem dX0_totalBatch_33 : decode cX0_totalBatch 33 = .ok (.getfield 15, 3) := by decide +kernel
theorem dX0_totalBatch_36 : decode cX0_totalBatch 36 = .ok (.arraylength, 1) := by decide +kernel
theorem dX0_totalBatch_37 : decode cX0_totalBatch 37 = .ok (.if_icmp .ge 41, 3) := by decide +kernel
theorem dX0_totalBatch_40 : decode cX0_totalBatch 40 = .ok (.iload 4, 2) := by decide +kernel
theorem dX0_totalBatch_42 : decode cX0_totalBatch 42 = .ok (.iload 5, 2) := by decide +kernel
theorem dX0_totalBatch_44 : decode cX0_totalBatch 44 = .ok (.ishr, 1) := by decide +kernel
theorem dX0_totalBatch_45 : decode cX0_totalBatch 45 = .ok (.iconst 1, 1) := by decide +kernel
theorem dX0_totalBatch_46 : decode cX0_totalBatch 46 = .ok (.iand, 1) := by decide +kernel
theorem dX0_totalBatch_47 : decode cX0_totalBatch 47 = .ok (.ifCond .ne 25, 3) := by decide +kernel
theorem dX0_totalBatch_50 : decode cX0_totalBatch 50 = .ok (.aload_n 0, 1) := by decide +kernel
theorem dX0_totalBatch_51 : decode cX0_totalBatch 51 = .ok (.getfield 15, 3) := by decide +kernel
theorem dX0_totalBatch_54 : decode cX0_totalBatch 54 = .ok (.iload 5, 2) := by decide +kernel
theorem dX0_totalBatch_56 : decode cX0_totalBatch 56 = .ok (.dup2, 1) := by decide +kernel
theorem dX0_totalBatch_57 : decode cX0_totalBatch 57 = .ok (.iaload, 1) := by decide +kernel
theorem dX0_totalBatch_58 : decode cX0_totalBatch 58 = .ok (.aload_n 0, 1) := by decide +kernel
theorem dX0_totalBatch_59 : decode cX0_totalBatch 59 = .ok (.getfield 9, 3) := by decide +kernel
theorem dX0_totalBatch_62 : decode cX0_totalBatch 62 = .ok (.iload 5, 2) := by decide +kernel
theorem dX0_totalBatch_64 : decode cX0_totalBatch 64 = .ok (.iload_n 3, 1) := by decide +kernel
theorem dX0_totalBatch_65 : decode cX0_totalBatch 65 = .ok (.isub, 1) := by decide +kernel
theorem dX0_totalBatch_66 : decode cX0_totalBatch 66 = .ok (.iconst 0, 1) := by decide +kernel
theorem dX0_totalBatch_67 : decode cX0_totalBatch 67 = .ok (.invokestatic 74, 3) := by decide +kernel
theorem dX0_totalBatch_70 : decode cX0_totalBatch 70 = .ok (.iadd, 1) := by decide +kernel
theorem dX0_totalBatch_71 : decode cX0_totalBatch 71 = .ok (.iastore, 1) := by decide +kernel
theorem dX0_totalBatch_72 : decode cX0_totalBatch 72 = .ok (.iinc 5 1, 3) := by decide +kernel
theorem dX0_totalBatch_75 : decode cX0_totalBatch 75 = .ok (.goto (-45), 3) := by decide +kernel
theorem dX0_totalBatch_78 : decode cX0_totalBatch 78 = .ok (.iload_n 2, 1) := by decide +kernel
theorem dX0_totalBatch_79 : decode cX0_totalBatch 79 = .ok (.iload 4, 2) := by decide +kernel
theorem dX0_totalBatch_81 : decode cX0_totalBatch 81 = .ok (.iand, 1) := by decide +kernel
theorem dX0_totalBatch_82 : decode cX0_totalBatch 82 = .ok (.istore_n 2, 1) := by decide +kernel
theorem dX0_totalBatch_83 : decode cX0_totalBatch 83 = .ok (.iinc 3 1, 3) := by decide +kernel
theorem dX0_totalBatch_86 : decode cX0_totalBatch 86 = .ok (.goto (-74), 3) := by decide +kernel
theorem dX0_totalBatch_89 : decode cX0_totalBatch 89 = .ok (.iload_n 2, 1) := by decide +kernel
theorem dX0_totalBatch_90 : decode cX0_totalBatch 90 = .ok (.ireturn, 1) := by decide +kernel
def is_X0_totalBatch (Rt : np_Rt) : List (Nat × np_Op) := [(0, np_ald 1 0), (1, nw_getf 0 1), (4, np_push 1 (.int 0)), (5, nq_call 2 sp_X11_fillAll 3 0 0 0 0), (8, np_push 1 (.int (-1))), (9, nw_ist 1 2), (10, np_push 1 (.int 0)), (11, nw_ist 1 3), (12, np_ild 1 3), (13, np_ald 1 0), (14, nw_getf 0 5), (17, nq_ic (fun x y => y ≤ x) 89), (20, np_ild 1 1), (21, np_ild 1 3), (22, nq_call 2 sp_X0_shifted 2 0 0 0 0), (25, nw_ist 2 4), (27, np_push 1 (.int 0)), (28, nw_ist 2 5), (30, np_ild 2 5), (32, np_ald 1 0), (33, nw_getf 0 1), (36, nw_alen), (37, nq_ic (fun x y => y ≤ x) 78), (40, np_ild 2 4), (42, np_ild 2 5), (44, np_ib (fun x y => x >>> (y &&& 31))), (45, np_push 1 (.int 1)), (46, np_ib (fun x y => x &&& y)), (47, nq_ifne 72), (50, np_ald 1 0), (51, nw_getf 0 1), (54, np_ild 2 5), (56, nq_dup2), (57, nw_ialdT .int), (58, np_ald 1 0), (59, nw_getf 0 0), (62, np_ild 2 5), (64, np_ild 1 3), (65, np_ib (fun x y => x - y)), (66, np_push 1 (.int 0)), (67, nq_call 3 sp_X11_at 3 0 0 0 0), (70, np_ib (fun x y => x + y)), (71, nw_iastT .int), (72, nw_iinc 5 1), (75, np_goto 30), (78, np_ild 1 2), (79, np_ild 2 4), (81, np_ib (fun x y => x &&& y)), (82, nw_ist 1 2), (83, nw_iinc 3 1), (86, np_goto 12), (89, np_ild 1 2), (90, np_ret Rt)]
set_option maxRecDepth 20000 in
theorem so_X0_totalBatch {X : np_Ctx} {Rt : np_Rt} (hX : np_ok RX0 cX0_totalBatch 6 1 22 0 0 .ireturn X) (hR : ∀ st w ce sl, Rt st w ce sl → X.2.2.1 st w ce sl) : ∀ q ∈ is_X0_totalBatch Rt, np_S X q.1 q.2 :=
  List.forall_mem_cons.mpr ⟨np_s_aload_n hX dX0_totalBatch_0 rfl, List.forall_mem_cons.mpr ⟨np_S.mono (op := np_getf 0 1) (np_s_getf hX dX0_totalBatch_1 (C := RX0) (T := TX0) (N := 6) rfl guX0 (by decide) gw395) nw_getf_le, List.forall_mem_cons.mpr ⟨np_s_iconst hX dX0_totalBatch_4 (by decide), List.forall_mem_cons.mpr ⟨np_S.mono (op := np_call 2 sp_X11_fillAll 3 0 0 0 0) (np_s_callSN hX C_X11_fillAll dX0_totalBatch_5 gw127 gw63 gw1531 gw126 ⟨by decide, by decide, by decide⟩ (by decide) (by decide)) nq_call_le, List.forall_mem_cons.mpr ⟨np_s_iconst hX dX0_totalBatch_8 (by decide), List.forall_mem_cons.mpr ⟨np_S.mono (op := np_ist 1 2) (np_s_istore_n hX dX0_totalBatch_9 rfl (by decide)) nw_ist_le, List.forall_mem_cons.mpr ⟨np_s_iconst hX dX0_totalBatch_10 (by decide), List.forall_mem_cons.mpr ⟨np_S.mono (op := np_ist 1 3) (np_s_istore_n hX dX0_totalBatch_11 rfl (by decide)) nw_ist_le, List.forall_mem_cons.mpr ⟨np_s_iload_n hX dX0_totalBatch_12 rfl, List.forall_mem_cons.mpr ⟨np_s_aload_n hX dX0_totalBatch_13 rfl, List.forall_mem_cons.mpr ⟨np_S.mono (op := np_getf 0 5) (np_s_getf hX dX0_totalBatch_14 (C := RX0) (T := TX0) (N := 6) rfl guX0 (by decide) gw399) nw_getf_le, List.forall_mem_cons.mpr ⟨np_S.mono (op := np_ic (fun x y => y ≤ x) 89) (np_s_icmp_ge hX dX0_totalBatch_17 (by decide)) nq_ic_le, List.forall_mem_cons.mpr ⟨np_s_iload_n hX dX0_totalBatch_20 rfl, List.forall_mem_cons.mpr ⟨np_s_iload_n hX dX0_totalBatch_21 rfl, List.forall_mem_cons.mpr ⟨np_S.mono (op := np_call 2 sp_X0_shifted 2 0 0 0 0) (np_s_callS hX C_X0_shifted dX0_totalBatch_22 gw1522 gw73 gw1520 gw1521 ⟨by decide, by decide, by decide⟩ (by decide) (by decide)) nq_call_le, List.forall_mem_cons.mpr ⟨np_S.mono (op := np_ist 2 4) (np_s_istore hX dX0_totalBatch_25 (by decide)) nw_ist_le, List.forall_mem_cons.mpr ⟨np_s_iconst hX dX0_totalBatch_27 (by decide), List.forall_mem_cons.mpr ⟨np_S.mono (op := np_ist 2 5) (np_s_istore hX dX0_totalBatch_28 (by decide)) nw_ist_le, List.forall_mem_cons.mpr ⟨np_s_iload hX dX0_totalBatch_30, List.forall_mem_cons.mpr ⟨np_s_aload_n hX dX0_totalBatch_32 rfl, List.forall_mem_cons.mpr ⟨np_S.mono (op := np_getf 0 1) (np_s_getf hX dX0_totalBatch_33 (C := RX0) (T := TX0) (N := 6) rfl guX0 (by decide) gw395) nw_getf_le, List.forall_mem_cons.mpr ⟨np_S.mono (op := np_alen) (np_s_alen hX dX0_totalBatch_36) nw_alen_le, List.forall_mem_cons.mpr ⟨np_S.mono (op := np_ic (fun x y => y ≤ x) 78) (np_s_icmp_ge hX dX0_totalBatch_37 (by decide)) nq_ic_le, List.forall_mem_cons.mpr ⟨np_s_iload hX dX0_totalBatch_40, List.forall_mem_cons.mpr ⟨np_s_iload hX dX0_totalBatch_42, List.forall_mem_cons.mpr ⟨np_s_ishr hX dX0_totalBatch_44, List.forall_mem_cons.mpr ⟨np_s_iconst hX dX0_totalBatch_45 (by decide), List.forall_mem_cons.mpr ⟨np_s_iand hX dX0_totalBatch_46, List.forall_mem_cons.mpr ⟨np_S.mono (op := np_ifne 72) (np_s_if_ne hX dX0_totalBatch_47 (by decide)) nq_ifne_le, List.forall_mem_cons.mpr ⟨np_s_aload_n hX dX0_totalBatch_50 rfl, List.forall_mem_cons.mpr ⟨np_S.mono (op := np_getf 0 1) (np_s_getf hX dX0_totalBatch_51 (C := RX0) (T := TX0) (N := 6) rfl guX0 (by decide) gw395) nw_getf_le, List.forall_mem_cons.mpr ⟨np_s_iload hX dX0_totalBatch_54, List.forall_mem_cons.mpr ⟨np_S.mono (op := np_dup2) (np_s_dup2 hX dX0_totalBatch_56) nq_dup2_le, List.forall_mem_cons.mpr ⟨np_S.mono (op := np_ialdT .int) (np_s_iald hX dX0_totalBatch_57) nw_ialdT_le, List.forall_mem_cons.mpr ⟨np_s_aload_n hX dX0_totalBatch_58 rfl, List.forall_mem_cons.mpr ⟨np_S.mono (op := np_getf 0 0) (np_s_getf hX dX0_totalBatch_59 (C := RX0) (T := TX0) (N := 6) rfl guX0 (by decide) gw394) nw_getf_le, List.forall_mem_cons.mpr ⟨np_s_iload hX dX0_totalBatch_62, List.forall_mem_cons.mpr ⟨np_s_iload_n hX dX0_totalBatch_64 rfl, List.forall_mem_cons.mpr ⟨np_s_isub hX dX0_totalBatch_65, List.forall_mem_cons.mpr ⟨np_s_iconst hX dX0_totalBatch_66 (by decide), List.forall_mem_cons.mpr ⟨np_S.mono (op := np_call 3 sp_X11_at 3 0 0 0 0) (np_s_callSN hX C_X11_at dX0_totalBatch_67 gw653 gw63 gw1519 gw652 ⟨by decide, by decide, by decide⟩ (by decide) (by decide)) nq_call_le, List.forall_mem_cons.mpr ⟨np_s_iadd hX dX0_totalBatch_70, List.forall_mem_cons.mpr ⟨np_S.mono (op := np_iastT .int) (np_s_iast hX dX0_totalBatch_71) nw_iastT_le, List.forall_mem_cons.mpr ⟨np_S.mono (op := np_iinc 5 1) (np_s_iinc hX dX0_totalBatch_72 (by decide)) nw_iinc_le, List.forall_mem_cons.mpr ⟨np_s_goto hX dX0_totalBatch_75 (by decide), List.forall_mem_cons.mpr ⟨np_s_iload_n hX dX0_totalBatch_78 rfl, List.forall_mem_cons.mpr ⟨np_s_iload hX dX0_totalBatch_79, List.forall_mem_cons.mpr ⟨np_s_iand hX dX0_totalBatch_81, List.forall_mem_cons.mpr ⟨np_S.mono (op := np_ist 1 2) (np_s_istore_n hX dX0_totalBatch_82 rfl (by decide)) nw_ist_le, List.forall_mem_cons.mpr ⟨np_S.mono (op := np_iinc 3 1) (np_s_iinc hX dX0_totalBatch_83 (by decide)) nw_iinc_le, List.forall_mem_cons.mpr ⟨np_s_goto hX dX0_totalBatch_86 (by decide), List.forall_mem_cons.mpr ⟨np_s_iload_n hX dX0_totalBatch_89 rfl, List.forall_mem_cons.mpr ⟨np_S.mono (op := np_ret X.2.2.1) (np_s_ret hX dX0_totalBatch_90) (nq_ret_le hR), fun _ h => nomatch h⟩⟩⟩⟩⟩⟩⟩⟩⟩⟩⟩⟩⟩⟩⟩⟩⟩⟩⟩⟩⟩⟩⟩⟩⟩⟩⟩⟩⟩⟩⟩⟩⟩⟩⟩⟩⟩⟩⟩⟩⟩⟩⟩⟩⟩⟩⟩⟩⟩⟩⟩⟩⟩
noncomputable def m_X0_totalBatch_30 (k78 : pw_S → Nat → Int32 → Int32 → Int32 → Int32 → pw_R Int32) : Nat → pw_S → Nat → Int32 → Int32 → Int32 → Int32 → Int32 → pw_R Int32
| 0, _, _, _, _, _, _, _ => none
| N + 1, S, v0, v1, v2, v3, v4, v5 =>
 if 24 ≤ v5 then
 (k78 S v0 v1 v2 v3 v4)
 else
 (if ((v4 >>> (v5 &&& 31)) &&& 1) = 0 then
 (pw_c (np_inb v5 24) <|
 pw_b (m_X11_at S 17 v0 (v5 - v3) 0) fun S1 r4 =>
 pw_c (np_inb v5 24) <|
 pw_l (pw_up S1 18 v0 (upd (S1 18 v0) (v5 : Int32).toNatClampNeg ((S 18 v0 (v5 : Int32).toNatClampNeg) + r4))) fun S6 =>
 pw_l (v5 + 1 : Int32) fun z9 =>
 m_X0_totalBatch_30 k78 N S6 v0 v1 v2 v3 v4 z9)
 else
 (pw_l (v5 + 1 : Int32) fun z10 =>
 m_X0_totalBatch_30 k78 N S v0 v1 v2 v3 v4 z10))
set_option maxRecDepth 100000 in
set_option maxHeartbeats 8000000 in
theorem L_X0_totalBatch_30 {X : np_Ctx} (hX : np_ok RX0 cX0_totalBatch 6 1 22 0 0 .ireturn X) {Q : Option Value → np_W → Prop} {q n : Nat} (hR : ∀ st w ce sl, np_rt (some .int) 0 0 Q st w ce sl → X.2.2.1 st w ce sl) {k78 : pw_S → Nat → Int32 → Int32 → Int32 → Int32 → pw_R Int32} (hk78 : ∀ (S : pw_S) (v0 : Nat) (v1 : Int32) (v2 : Int32) (v3 : Int32) (v4 : Int32) (f : Nat → Option np_E) (hv0 : pw_ok q 55 v0 = true), pw_W q (n, f) S → pw_p (k78 S v0 v1 v2 v3 v4) (fun S' r => ∀ f', pw_W q (n, f') S' → Q (some (.int r)) (n, f')) → np_G X 78 [(0, .ref (pw_pl 55 v0)), (1, .int v1), (2, .int v2), (3, .int v3), (4, .int v4)] [] (n, f) 0 0) : ∀ (N : Nat) (S : pw_S) (v0 : Nat) (v1 : Int32) (v2 : Int32) (v3 : Int32) (v4 : Int32) (v5 : Int32) (f : Nat → Option np_E) (hv0 : pw_ok q 55 v0 = true), pw_W q (n, f) S → pw_p (m_X0_totalBatch_30 k78 N S v0 v1 v2 v3 v4 v5) (fun S' r => ∀ f', pw_W q (n, f') S' → Q (some (.int r)) (n, f')) → np_G X 30 [(0, .ref (pw_pl 55 v0)), (1, .int v1), (2, .int v2), (3, .int v3), (4, .int v4), (5, .int v5)] [] (n, f) 0 0 := by
  intro N
  induction N with
  | zero =>
    intro S v0 v1 v2 v3 v4 v5 f hv0 hW h
    exact (pw_pn h).elim
  | succ N ih =>
    intro S v0 v1 v2 v3 v4 v5 f hv0 hW h
    unfold m_X0_totalBatch_30 at h
    refine np_soundW (so_X0_totalBatch hX hR) [12, 30, 78] 400 30 _ _ _ _ _ ?_
    conv => whnf
    refine np_rd_i (hW.g hv0) ?_
    conv => whnf
    refine np_rd_i (hW.g hv0) ?_
    conv => whnf
    refine pw_br h (fun _ h => ?_) (fun _ h => ?_)
    · conv => whnf
      exact np_gl (hk78 S v0 v1 v2 v3 v4 f hv0 hW h) ⟨rfl, rfl, rfl, rfl, rfl, trivial⟩
    · conv => whnf
      refine pw_br h (fun _ h => ?_) (fun _ h => ?_)
      · conv => whnf
        refine np_rd_i (hW.g hv0) ?_
        conv => whnf
        refine np_rd_i (hW.g hv0) ?_
        conv => whnf
        refine pw_ck h (fun _ h => ?_)
        conv => whnf
        refine np_rd_i (hW.g hv0) ?_
        conv => whnf
        refine ⟨q, S, 17, v0, (v5 - v3), 0, rfl, rfl, hv0, hW, pw_bd h (fun S1 r4 h f2 hW3 => ?_)⟩
        conv => whnf
        refine np_rd_i (hW3.g hv0) ?_
        conv => whnf
        refine pw_ck h (fun _ h => ?_)
        conv => whnf
        refine pw_wr (a := 18) (i := v0) (d := upd (S1 18 v0) (v5 : Int32).toNatClampNeg ((S 18 v0 (v5 : Int32).toNatClampNeg) + r4)) hW3 hv0 rfl h (fun S6 f7 hW8 h => ?_)
        conv => whnf
        refine pw_st h (fun z9 h => ?_)
        conv => whnf
        exact np_gl (ih S6 v0 v1 v2 v3 v4 z9 f7 hv0 hW8 h) ⟨rfl, rfl, rfl, rfl, rfl, rfl, trivial⟩
      · conv => whnf
        refine pw_st h (fun z10 h => ?_)
        conv => whnf
        exact np_gl (ih S v0 v1 v2 v3 v4 z10 f hv0 hW h) ⟨rfl, rfl, rfl, rfl, rfl, rfl, trivial⟩
noncomputable def m_X0_totalBatch_12 : Nat → pw_S → Nat → Int32 → Int32 → Int32 → pw_R Int32
| 0, _, _, _, _, _ => none
| N + 1, S, v0, v1, v2, v3 =>
 if (S 55 v0 5) ≤ v3 then
 (some (S, v2))
 else
 (pw_b (m_X0_shifted S v1 v3) fun S11 r14 =>
 pw_l (r14 : Int32) fun z16 =>
 pw_l (0 : Int32) fun z17 =>
 m_X0_totalBatch_30
 (fun S24 u18 u20 u21 u22 u23 =>
 (pw_l ((u21 &&& u23) : Int32) fun z27 =>
 pw_l (u22 + 1 : Int32) fun z28 =>
 m_X0_totalBatch_12 N S24 u18 u20 z27 z28)) (pw_F 20000) S11 v0 v1 v2 v3 z16 z17)
set_option maxRecDepth 100000 in
set_option maxHeartbeats 8000000 in
theorem L_X0_totalBatch_12 {X : np_Ctx} (hX : np_ok RX0 cX0_totalBatch 6 1 22 0 0 .ireturn X) {Q : Option Value → np_W → Prop} {q n : Nat} (hR : ∀ st w ce sl, np_rt (some .int) 0 0 Q st w ce sl → X.2.2.1 st w ce sl) : ∀ (N : Nat) (S : pw_S) (v0 : Nat) (v1 : Int32) (v2 : Int32) (v3 : Int32) (f : Nat → Option np_E) (hv0 : pw_ok q 55 v0 = true), pw_W q (n, f) S → pw_p (m_X0_totalBatch_12 N S v0 v1 v2 v3) (fun S' r => ∀ f', pw_W q (n, f') S' → Q (some (.int r)) (n, f')) → np_G X 12 [(0, .ref (pw_pl 55 v0)), (1, .int v1), (2, .int v2), (3, .int v3)] [] (n, f) 0 0 := by
  intro N
  induction N with
  | zero =>
    intro S v0 v1 v2 v3 f hv0 hW h
    exact (pw_pn h).elim
  | succ N ih =>
    intro S v0 v1 v2 v3 f hv0 hW h
    unfold m_X0_totalBatch_12 at h
    refine np_soundW (so_X0_totalBatch hX hR) [12, 30] 400 12 _ _ _ _ _ ?_
    conv => whnf
    refine np_rd_i (hW.g hv0) ?_
    conv => whnf
    refine pw_br h (fun _ h => ?_) (fun _ h => ?_)
    · conv => whnf
      exact ⟨Nat.le_of_ble_eq_true rfl, Nat.le_of_ble_eq_true rfl, ⟨_, rfl⟩, _, fun _ _ h9 => h9, pw_ps h _ hW⟩
    · conv => whnf
      refine ⟨q, S, v1, v3, rfl, hW, pw_bd h (fun S11 r14 h f12 hW13 => ?_)⟩
      conv => whnf
      refine pw_st h (fun z16 h => ?_)
      conv => whnf
      refine pw_st h (fun z17 h => ?_)
      conv => whnf
      refine np_gl (L_X0_totalBatch_30 hX hR (fun S24 u18 u20 u21 u22 u23 f25 ho19 hW26 h => ?_) (pw_F 20000) S11 v0 v1 v2 v3 z16 z17 f12 hv0 hW13 h) ⟨rfl, rfl, rfl, rfl, rfl, rfl, trivial⟩
      · refine np_soundW (so_X0_totalBatch hX hR) [12, 30] 400 78 _ _ _ _ _ ?_
        conv => whnf
        refine pw_st h (fun z27 h => ?_)
        conv => whnf
        refine pw_st h (fun z28 h => ?_)
        conv => whnf
        exact np_gl (ih S24 u18 u20 z27 z28 f25 ho19 hW26 h) ⟨rfl, rfl, rfl, rfl, trivial⟩
noncomputable def m_X0_totalBatch (S : pw_S) (i0 : Nat) (x1 : Int32) : pw_R Int32 :=
 pw_b (m_X11_fillAll S 18 i0 0) fun S29 r32 =>
 pw_l ((-1) : Int32) fun z34 =>
 pw_l (0 : Int32) fun z35 =>
 m_X0_totalBatch_12 (pw_F 20000) S29 i0 x1 z34 z35
def sp_X0_totalBatch : np_Sp := fun vs w Q => ∃ (q : Nat) (S : pw_S) (i0 : Nat) (x1 : Int32), vs = [.ref (pw_pl 55 i0), .int x1] ∧ pw_ok q 55 i0 = true ∧ pw_W q w S ∧ pw_p (m_X0_totalBatch S i0 x1) (fun S' r => ∀ f', pw_W q (w.1, f') S' → Q (some (.int r)) (w.1, f'))
set_option maxRecDepth 100000 in
set_option maxHeartbeats 8000000 in
theorem C_X0_totalBatch : np_C yX0_totalBatch cX0_totalBatch 6 (some .int) 1 22 0 0 sp_X0_totalBatch := by
  refine np_of (by decide) ?_
  intro X vs w Q hsp hX hmn hRt hlt
  obtain ⟨q, S, i0, x1, rfl, hi0, hW, h⟩ := hsp
  obtain ⟨n, f⟩ := w
  unfold m_X0_totalBatch at h
  have hR : ∀ st w ce sl, np_rt (some .int) 0 0 Q st w ce sl → X.2.2.1 st w ce sl := fun _ _ _ _ h => by rw [hRt]; exact h
  refine np_soundW (so_X0_totalBatch hX hR) [12, 30] 400 0 _ _ _ _ _ ?_
  conv => whnf
  refine np_rd_i (hW.g hi0) ?_
  conv => whnf
  refine ⟨q, S, 18, i0, 0, rfl, rfl, hi0, hW, pw_bd h (fun S29 r32 h f30 hW31 => ?_)⟩
  conv => whnf
  refine pw_st h (fun z34 h => ?_)
  conv => whnf
  refine pw_st h (fun z35 h => ?_)
  conv => whnf
  exact np_gl (L_X0_totalBatch_12 hX hR (pw_F 20000) S29 i0 x1 z34 z35 f30 hi0 hW31 h) ⟨rfl, rfl, rfl, rfl, trivial⟩
theorem dX0_greatestBatch_0 : decode cX0_greatestBatch 0 = .ok (.aload_n 0, 1) := by decide +kernel
theorem dX0_greatestBatch_1 : decode cX0_greatestBatch 1 = .ok (.getfield 15, 3) := by decide +kernel
theorem dX0_greatestBatch_4 : decode cX0_greatestBatch 4 = .ok (.ldc 38, 2) := by decide +kernel
theorem dX0_greatestBatch_6 : decode cX0_greatestBatch 6 = .ok (.invokestatic 81, 3) := by decide +kernel
theorem dX0_greatestBatch_9 : decode cX0_greatestBatch 9 = .ok (.iconst (-1), 1) := by decide +kernel
theorem dX0_greatestBatch_10 : decode cX0_greatestBatch 10 = .ok (.istore_n 2, 1) := by decide +kernel
theorem dX0_greatestBatch_11 : decode cX0_greatestBatch 11 = .ok (.iconst 0, 1) := by decide +kernel
theorem dX0_greatestBatch_12 : decode cX0_greatestBatch 12 = .ok (.istore_n 3, 1) := by decide +kernel
theorem dX0_greatestBatch_13 : decode cX0_greatestBatch 13 = .ok (.iload_n 3, 1) := by decide +kernel
theorem dX0_greatestBatch_14 : decode cX0_greatestBatch 14 = .ok (.aload_n 0, 1) := by decide +kernel
theorem dX0_greatestBatch_15 : decode cX0_greatestBatch 15 = .ok (.getfield 29, 3) := by decide +kernel
theorem dX0_greatestBatch_18 : decode cX0_greatestBatch 18 = .ok (.if_icmp .ge 66, 3) := by decide +kernel
theorem dX0_greatestBatch_21 : decode cX0_greatestBatch 21 = .ok (.iconst 0, 1) := by decide +kernel
theorem dX0_greatestBatch_22 : decode cX0_greatestBatch 22 = .ok (.istore 4, 2) := by decide +kernel
theorem dX0_greatestBatch_24 : decode cX0_greatestBatch 24 = .ok (.iload 4, 2) := by decide +kernel
theorem dX0_greatestBatch_26 : decode cX0_greatestBatch 26 = .ok (.aload_n 0, 1) := by decide +kernel
theorem dX0_greatestBatch_27 : decode cX0_greatestBatch 27 = .ok (.getfield 15, 3) := by decide +kernel
theorem dX0_greatestBatch_30 : decode cX0_greatestBatch 30 = .ok (.arraylength, 1) := by decide +kernel
theorem dX0_greatestBatch_31 : decode cX0_greatestBatch 31 = .ok (.if_icmp .ge 39, 3) := by decide +kernel
theorem dX0_greatestBatch_34 : decode cX0_greatestBatch 34 = .ok (.aload_n 0, 1) := by decide +kernel
theorem dX0_greatestBatch_35 : decode cX0_greatestBatch 35 = .ok (.getfield 15, 3) := by decide +kernel
theorem dX0_greatestBatch_38 : decode cX0_greatestBatch 38 = .ok (.iload 4, 2) := by decide +kernel
theorem dX0_greatestBatch_40 : decode cX0_greatestBatch 40 = .ok (.aload_n 0, 1) := by decide +kernel
theorem dX0_greatestBatch_41 : decode cX0_greatestBatch 41 = .ok (.getfield 15, 3) := by decide +kernel
theorem dX0_greatestBatch_44 : decode cX0_greatestBatch 44 = .ok (.iload 4, 2) := by decide +kernel
theorem dX0_greatestBatch_46 : decode cX0_greatestBatch 46 = .ok (.iaload, 1) := by decide +kernel
theorem dX0_greatestBatch_47 : decode cX0_greatestBatch 47 = .ok (.aload_n 0, 1) := by decide +kernel
theorem dX0_greatestBatch_48 : decode cX0_greatestBatch 48 = .ok (.getfield 9, 3) := by decide +kernel
theorem dX0_greatestBatch_51 : decode cX0_greatestBatch 51 = .ok (.iload 4, 2) := by decide +kernel
theorem dX0_greatestBatch_53 : decode cX0_greatestBatch 53 = .ok (.iload_n 3, 1) := by decide +kernel
theorem dX0_greatestBatch_54 : decode cX0_greatestBatch 54 = .ok (.isub, 1) := by decide +kernel
theorem dX0_greatestBatch_55 : decode cX0_greatestBatch 55 = .ok (.ldc 38, 2) := by decide +kernel
theorem dX0_greatestBatch_57 : decode cX0_greatestBatch 57 = .ok (.invokestatic 74, 3) := by decide +kernel
theorem dX0_greatestBatch_60 : decode cX0_greatestBatch 60 = .ok (.invokestatic 53, 3) := by decide +kernel
theorem dX0_greatestBatch_63 : decode cX0_greatestBatch 63 = .ok (.iastore, 1) := by decide +kernel
theorem dX0_greatestBatch_64 : decode cX0_greatestBatch 64 = .ok (.iinc 4 1, 3) := by decide +kernel
theorem dX0_greatestBatch_67 : decode cX0_greatestBatch 67 = .ok (.goto (-43), 3) := by decide +kernel
theorem dX0_greatestBatch_70 : decode cX0_greatestBatch 70 = .ok (.iload_n 2, 1) := by decide +kernel
theorem dX0_greatestBatch_71 : decode cX0_greatestBatch 71 = .ok (.iload_n 1, 1) := by decide +kernel
theorem dX0_greatestBatch_72 : decode cX0_greatestBatch 72 = .ok (.iload_n 3, 1) := by decide +kernel
theorem dX0_greatestBatch_73 : decode cX0_greatestBatch 73 = .ok (.invokestatic 78, 3) := by decide +kernel
theorem dX0_greatestBatch_76 : decode cX0_greatestBatch 76 = .ok (.iand, 1) := by decide +kernel
theorem dX0_greatestBatch_77 : decode cX0_greatestBatch 77 = .ok (.istore_n 2, 1) := by decide +kernel
theorem dX0_greatestBatch_78 : decode cX0_greatestBatch 78 = .ok (.iinc 3 1, 3) := by decide +kernel
theorem dX0_greatestBatch_81 : decode cX0_greatestBatch 81 = .ok (.goto (-68), 3) := by decide +kernel
theorem dX0_greatestBatch_84 : decode cX0_greatestBatch 84 = .ok (.iload_n 2, 1) := by decide +kernel
theorem dX0_greatestBatch_85 : decode cX0_greatestBatch 85 = .ok (.ireturn, 1) := by decide +kernel
def is_X0_greatestBatch (Rt : np_Rt) : List (Nat × np_Op) := [(0, np_ald 1 0), (1, nw_getf 0 1), (4, np_push 2 (.int (-2147483648))), (6, nq_call 2 sp_X11_fillAll 3 0 0 0 0), (9, np_push 1 (.int (-1))), (10, nw_ist 1 2), (11, np_push 1 (.int 0)), (12, nw_ist 1 3), (13, np_ild 1 3), (14, np_ald 1 0), (15, nw_getf 0 5), (18, nq_ic (fun x y => y ≤ x) 84), (21, np_push 1 (.int 0)), (22, nw_ist 2 4), (24, np_ild 2 4), (26, np_ald 1 0), (27, nw_getf 0 1), (30, nw_alen), (31, nq_ic (fun x y => y ≤ x) 70), (34, np_ald 1 0), (35, nw_getf 0 1), (38, np_ild 2 4), (40, np_ald 1 0), (41, nw_getf 0 1), (44, np_ild 2 4), (46, nw_ialdT .int), (47, np_ald 1 0), (48, nw_getf 0 0), (51, np_ild 2 4), (53, np_ild 1 3), (54, np_ib (fun x y => x - y)), (55, np_push 2 (.int (-2147483648))), (57, nq_call 3 sp_X11_at 3 0 0 0 0), (60, nw_mx 0 0), (63, nw_iastT .int), (64, nw_iinc 4 1), (67, np_goto 24), (70, np_ild 1 2), (71, np_ild 1 1), (72, np_ild 1 3), (73, nq_call 2 sp_X0_shifted 2 0 0 0 0), (76, np_ib (fun x y => x &&& y)), (77, nw_ist 1 2), (78, nw_iinc 3 1), (81, np_goto 13), (84, np_ild 1 2), (85, np_ret Rt)]
set_option maxRecDepth 20000 in
theorem so_X0_greatestBatch {X : np_Ctx} {Rt : np_Rt} (hX : np_ok RX0 cX0_greatestBatch 5 1 60 0 0 .ireturn X) (hR : ∀ st w ce sl, Rt st w ce sl → X.2.2.1 st w ce sl) : ∀ q ∈ is_X0_greatestBatch Rt, np_S X q.1 q.2 :=
  List.forall_mem_cons.mpr ⟨np_s_aload_n hX dX0_greatestBatch_0 rfl, List.forall_mem_cons.mpr ⟨np_S.mono (op := np_getf 0 1) (np_s_getf hX dX0_greatestBatch_1 (C := RX0) (T := TX0) (N := 6) rfl guX0 (by decide) gw395) nw_getf_le, List.forall_mem_cons.mpr ⟨np_s_ldc hX dX0_greatestBatch_4 gw1168, List.forall_mem_cons.mpr ⟨np_S.mono (op := np_call 2 sp_X11_fillAll 3 0 0 0 0) (np_s_callSN hX C_X11_fillAll dX0_greatestBatch_6 gw127 gw63 gw1531 gw126 ⟨by decide, by decide, by decide⟩ (by decide) (by decide)) nq_call_le, List.forall_mem_cons.mpr ⟨np_s_iconst hX dX0_greatestBatch_9 (by decide), List.forall_mem_cons.mpr ⟨np_S.mono (op := np_ist 1 2) (np_s_istore_n hX dX0_greatestBatch_10 rfl (by decide)) nw_ist_le, List.forall_mem_cons.mpr ⟨np_s_iconst hX dX0_greatestBatch_11 (by decide), List.forall_mem_cons.mpr ⟨np_S.mono (op := np_ist 1 3) (np_s_istore_n hX dX0_greatestBatch_12 rfl (by decide)) nw_ist_le, List.forall_mem_cons.mpr ⟨np_s_iload_n hX dX0_greatestBatch_13 rfl, List.forall_mem_cons.mpr ⟨np_s_aload_n hX dX0_greatestBatch_14 rfl, List.forall_mem_cons.mpr ⟨np_S.mono (op := np_getf 0 5) (np_s_getf hX dX0_greatestBatch_15 (C := RX0) (T := TX0) (N := 6) rfl guX0 (by decide) gw399) nw_getf_le, List.forall_mem_cons.mpr ⟨np_S.mono (op := np_ic (fun x y => y ≤ x) 84) (np_s_icmp_ge hX dX0_greatestBatch_18 (by decide)) nq_ic_le, List.forall_mem_cons.mpr ⟨np_s_iconst hX dX0_greatestBatch_21 (by decide), List.forall_mem_cons.mpr ⟨np_S.mono (op := np_ist 2 4) (np_s_istore hX dX0_greatestBatch_22 (by decide)) nw_ist_le, List.forall_mem_cons.mpr ⟨np_s_iload hX dX0_greatestBatch_24, List.forall_mem_cons.mpr ⟨np_s_aload_n hX dX0_greatestBatch_26 rfl, List.forall_mem_cons.mpr ⟨np_S.mono (op := np_getf 0 1) (np_s_getf hX dX0_greatestBatch_27 (C := RX0) (T := TX0) (N := 6) rfl guX0 (by decide) gw395) nw_getf_le, List.forall_mem_cons.mpr ⟨np_S.mono (op := np_alen) (np_s_alen hX dX0_greatestBatch_30) nw_alen_le, List.forall_mem_cons.mpr ⟨np_S.mono (op := np_ic (fun x y => y ≤ x) 70) (np_s_icmp_ge hX dX0_greatestBatch_31 (by decide)) nq_ic_le, List.forall_mem_cons.mpr ⟨np_s_aload_n hX dX0_greatestBatch_34 rfl, List.forall_mem_cons.mpr ⟨np_S.mono (op := np_getf 0 1) (np_s_getf hX dX0_greatestBatch_35 (C := RX0) (T := TX0) (N := 6) rfl guX0 (by decide) gw395) nw_getf_le, List.forall_mem_cons.mpr ⟨np_s_iload hX dX0_greatestBatch_38, List.forall_mem_cons.mpr ⟨np_s_aload_n hX dX0_greatestBatch_40 rfl, List.forall_mem_cons.mpr ⟨np_S.mono (op := np_getf 0 1) (np_s_getf hX dX0_greatestBatch_41 (C := RX0) (T := TX0) (N := 6) rfl guX0 (by decide) gw395) nw_getf_le, List.forall_mem_cons.mpr ⟨np_s_iload hX dX0_greatestBatch_44, List.forall_mem_cons.mpr ⟨np_S.mono (op := np_ialdT .int) (np_s_iald hX dX0_greatestBatch_46) nw_ialdT_le, List.forall_mem_cons.mpr ⟨np_s_aload_n hX dX0_greatestBatch_47 rfl, List.forall_mem_cons.mpr ⟨np_S.mono (op := np_getf 0 0) (np_s_getf hX dX0_greatestBatch_48 (C := RX0) (T := TX0) (N := 6) rfl guX0 (by decide) gw394) nw_getf_le, List.forall_mem_cons.mpr ⟨np_s_iload hX dX0_greatestBatch_51, List.forall_mem_cons.mpr ⟨np_s_iload_n hX dX0_greatestBatch_53 rfl, List.forall_mem_cons.mpr ⟨np_s_isub hX dX0_greatestBatch_54, List.forall_mem_cons.mpr ⟨np_s_ldc hX dX0_greatestBatch_55 gw1168, List.forall_mem_cons.mpr ⟨np_S.mono (op := np_call 3 sp_X11_at 3 0 0 0 0) (np_s_callSN hX C_X11_at dX0_greatestBatch_57 gw653 gw63 gw1519 gw652 ⟨by decide, by decide, by decide⟩ (by decide) (by decide)) nq_call_le, List.forall_mem_cons.mpr ⟨np_S.mono (op := np_mx 0 0) (np_s_mmax hX dX0_greatestBatch_60 gw1177 gw984 gw82 gw985 (by decide) (by decide)) nw_mx_le, List.forall_mem_cons.mpr ⟨np_S.mono (op := np_iastT .int) (np_s_iast hX dX0_greatestBatch_63) nw_iastT_le, List.forall_mem_cons.mpr ⟨np_S.mono (op := np_iinc 4 1) (np_s_iinc hX dX0_greatestBatch_64 (by decide)) nw_iinc_le, List.forall_mem_cons.mpr ⟨np_s_goto hX dX0_greatestBatch_67 (by decide), List.forall_mem_cons.mpr ⟨np_s_iload_n hX dX0_greatestBatch_70 rfl, List.forall_mem_cons.mpr ⟨np_s_iload_n hX dX0_greatestBatch_71 rfl, List.forall_mem_cons.mpr ⟨np_s_iload_n hX dX0_greatestBatch_72 rfl, List.forall_mem_cons.mpr ⟨np_S.mono (op := np_call 2 sp_X0_shifted 2 0 0 0 0) (np_s_callS hX C_X0_shifted dX0_greatestBatch_73 gw1522 gw73 gw1520 gw1521 ⟨by decide, by decide, by decide⟩ (by decide) (by decide)) nq_call_le, List.forall_mem_cons.mpr ⟨np_s_iand hX dX0_greatestBatch_76, List.forall_mem_cons.mpr ⟨np_S.mono (op := np_ist 1 2) (np_s_istore_n hX dX0_greatestBatch_77 rfl (by decide)) nw_ist_le, List.forall_mem_cons.mpr ⟨np_S.mono (op := np_iinc 3 1) (np_s_iinc hX dX0_greatestBatch_78 (by decide)) nw_iinc_le, List.forall_mem_cons.mpr ⟨np_s_goto hX dX0_greatestBatch_81 (by decide), List.forall_mem_cons.mpr ⟨np_s_iload_n hX dX0_greatestBatch_84 rfl, List.forall_mem_cons.mpr ⟨np_S.mono (op := np_ret X.2.2.1) (np_s_ret hX dX0_greatestBatch_85) (nq_ret_le hR), fun _ h => nomatch h⟩⟩⟩⟩⟩⟩⟩⟩⟩⟩⟩⟩⟩⟩⟩⟩⟩⟩⟩⟩⟩⟩⟩⟩⟩⟩⟩⟩⟩⟩⟩⟩⟩⟩⟩⟩⟩⟩⟩⟩⟩⟩⟩⟩⟩⟩⟩
noncomputable def m_X0_greatestBatch_24 (k70 : pw_S → Nat → Int32 → Int32 → Int32 → pw_R Int32) : Nat → pw_S → Nat → Int32 → Int32 → Int32 → Int32 → pw_R Int32
| 0, _, _, _, _, _, _ => none
| N + 1, S, v0, v1, v2, v3, v4 =>
 if 24 ≤ v4 then
 (k70 S v0 v1 v2 v3)
 else
 (pw_c (np_inb v4 24) <|
 pw_b (m_X11_at S 17 v0 (v4 - v3) (-2147483648)) fun S1 r4 =>
 pw_c (np_inb v4 24) <|
 pw_l (pw_up S1 18 v0 (upd (S1 18 v0) (v4 : Int32).toNatClampNeg (if (S 18 v0 (v4 : Int32).toNatClampNeg) < r4 then r4 else (S 18 v0 (v4 : Int32).toNatClampNeg)))) fun S6 =>
 pw_l (v4 + 1 : Int32) fun z9 =>
 m_X0_greatestBatch_24 k70 N S6 v0 v1 v2 v3 z9)
set_option maxRecDepth 100000 in
set_option maxHeartbeats 8000000 in
theorem L_X0_greatestBatch_24 {X : np_Ctx} (hX : np_ok RX0 cX0_greatestBatch 5 1 60 0 0 .ireturn X) {Q : Option Value → np_W → Prop} {q n : Nat} (hR : ∀ st w ce sl, np_rt (some .int) 0 0 Q st w ce sl → X.2.2.1 st w ce sl) {k70 : pw_S → Nat → Int32 → Int32 → Int32 → pw_R Int32} (hk70 : ∀ (S : pw_S) (v0 : Nat) (v1 : Int32) (v2 : Int32) (v3 : Int32) (f : Nat → Option np_E) (hv0 : pw_ok q 55 v0 = true), pw_W q (n, f) S → pw_p (k70 S v0 v1 v2 v3) (fun S' r => ∀ f', pw_W q (n, f') S' → Q (some (.int r)) (n, f')) → np_G X 70 [(0, .ref (pw_pl 55 v0)), (1, .int v1), (2, .int v2), (3, .int v3)] [] (n, f) 0 0) : ∀ (N : Nat) (S : pw_S) (v0 : Nat) (v1 : Int32) (v2 : Int32) (v3 : Int32) (v4 : Int32) (f : Nat → Option np_E) (hv0 : pw_ok q 55 v0 = true), pw_W q (n, f) S → pw_p (m_X0_greatestBatch_24 k70 N S v0 v1 v2 v3 v4) (fun S' r => ∀ f', pw_W q (n, f') S' → Q (some (.int r)) (n, f')) → np_G X 24 [(0, .ref (pw_pl 55 v0)), (1, .int v1), (2, .int v2), (3, .int v3), (4, .int v4)] [] (n, f) 0 0 := by
  intro N
  induction N with
  | zero =>
    intro S v0 v1 v2 v3 v4 f hv0 hW h
    exact (pw_pn h).elim
  | succ N ih =>
    intro S v0 v1 v2 v3 v4 f hv0 hW h
    unfold m_X0_greatestBatch_24 at h
    refine np_soundW (so_X0_greatestBatch hX hR) [13, 24, 70] 400 24 _ _ _ _ _ ?_
    conv => whnf
    refine np_rd_i (hW.g hv0) ?_
    conv => whnf
    refine np_rd_i (hW.g hv0) ?_
    conv => whnf
    refine pw_br h (fun _ h => ?_) (fun _ h => ?_)
    · conv => whnf
      exact np_gl (hk70 S v0 v1 v2 v3 f hv0 hW h) ⟨rfl, rfl, rfl, rfl, trivial⟩
    · conv => whnf
      refine np_rd_i (hW.g hv0) ?_
      conv => whnf
      refine np_rd_i (hW.g hv0) ?_
      conv => whnf
      refine np_rd_i (hW.g hv0) ?_
      conv => whnf
      refine pw_ck h (fun _ h => ?_)
      conv => whnf
      refine np_rd_i (hW.g hv0) ?_
      conv => whnf
      refine ⟨q, S, 17, v0, (v4 - v3), (-2147483648), rfl, rfl, hv0, hW, pw_bd h (fun S1 r4 h f2 hW3 => ?_)⟩
      conv => whnf
      refine np_rd_i (hW3.g hv0) ?_
      conv => whnf
      refine pw_ck h (fun _ h => ?_)
      conv => whnf
      refine pw_wr (a := 18) (i := v0) (d := upd (S1 18 v0) (v4 : Int32).toNatClampNeg (if (S 18 v0 (v4 : Int32).toNatClampNeg) < r4 then r4 else (S 18 v0 (v4 : Int32).toNatClampNeg))) hW3 hv0 rfl h (fun S6 f7 hW8 h => ?_)
      conv => whnf
      refine pw_st h (fun z9 h => ?_)
      conv => whnf
      exact np_gl (ih S6 v0 v1 v2 v3 z9 f7 hv0 hW8 h) ⟨rfl, rfl, rfl, rfl, rfl, trivial⟩
noncomputable def m_X0_greatestBatch_13 : Nat → pw_S → Nat → Int32 → Int32 → Int32 → pw_R Int32
| 0, _, _, _, _, _ => none
| N + 1, S, v0, v1, v2, v3 =>
 if (S 55 v0 5) ≤ v3 then
 (some (S, v2))
 else
 (pw_l (0 : Int32) fun z10 =>
 m_X0_greatestBatch_24
 (fun S16 u11 u13 u14 u15 =>
 (pw_b (m_X0_shifted S16 u13 u15) fun S19 r22 =>
 pw_l ((u14 &&& r22) : Int32) fun z24 =>
 pw_l (u15 + 1 : Int32) fun z25 =>
 m_X0_greatestBatch_13 N S19 u11 u13 z24 z25)) (pw_F 20000) S v0 v1 v2 v3 z10)
set_option maxRecDepth 100000 in
set_option maxHeartbeats 8000000 in
theorem L_X0_greatestBatch_13 {X : np_Ctx} (hX : np_ok RX0 cX0_greatestBatch 5 1 60 0 0 .ireturn X) {Q : Option Value → np_W → Prop} {q n : Nat} (hR : ∀ st w ce sl, np_rt (some .int) 0 0 Q st w ce sl → X.2.2.1 st w ce sl) : ∀ (N : Nat) (S : pw_S) (v0 : Nat) (v1 : Int32) (v2 : Int32) (v3 : Int32) (f : Nat → Option np_E) (hv0 : pw_ok q 55 v0 = true), pw_W q (n, f) S → pw_p (m_X0_greatestBatch_13 N S v0 v1 v2 v3) (fun S' r => ∀ f', pw_W q (n, f') S' → Q (some (.int r)) (n, f')) → np_G X 13 [(0, .ref (pw_pl 55 v0)), (1, .int v1), (2, .int v2), (3, .int v3)] [] (n, f) 0 0 := by
  intro N
  induction N with
  | zero =>
    intro S v0 v1 v2 v3 f hv0 hW h
    exact (pw_pn h).elim
  | succ N ih =>
    intro S v0 v1 v2 v3 f hv0 hW h
    unfold m_X0_greatestBatch_13 at h
    refine np_soundW (so_X0_greatestBatch hX hR) [13, 24] 400 13 _ _ _ _ _ ?_
    conv => whnf
    refine np_rd_i (hW.g hv0) ?_
    conv => whnf
    refine pw_br h (fun _ h => ?_) (fun _ h => ?_)
    · conv => whnf
      exact ⟨Nat.le_of_ble_eq_true rfl, Nat.le_of_ble_eq_true rfl, ⟨_, rfl⟩, _, fun _ _ h9 => h9, pw_ps h _ hW⟩
    · conv => whnf
      refine pw_st h (fun z10 h => ?_)
      conv => whnf
      refine np_gl (L_X0_greatestBatch_24 hX hR (fun S16 u11 u13 u14 u15 f17 ho12 hW18 h => ?_) (pw_F 20000) S v0 v1 v2 v3 z10 f hv0 hW h) ⟨rfl, rfl, rfl, rfl, rfl, trivial⟩
      · refine np_soundW (so_X0_greatestBatch hX hR) [13, 24] 400 70 _ _ _ _ _ ?_
        conv => whnf
        refine ⟨q, S16, u13, u15, rfl, hW18, pw_bd h (fun S19 r22 h f20 hW21 => ?_)⟩
        conv => whnf
        refine pw_st h (fun z24 h => ?_)
        conv => whnf
        refine pw_st h (fun z25 h => ?_)
        conv => whnf
        exact np_gl (ih S19 u11 u13 z24 z25 f20 ho12 hW21 h) ⟨rfl, rfl, rfl, rfl, trivial⟩
noncomputable def m_X0_greatestBatch (S : pw_S) (i0 : Nat) (x1 : Int32) : pw_R Int32 :=
 pw_b (m_X11_fillAll S 18 i0 (-2147483648)) fun S26 r29 =>
 pw_l ((-1) : Int32) fun z31 =>
 pw_l (0 : Int32) fun z32 =>
 m_X0_greatestBatch_13 (pw_F 20000) S26 i0 x1 z31 z32
def sp_X0_greatestBatch : np_Sp := fun vs w Q => ∃ (q : Nat) (S : pw_S) (i0 : Nat) (x1 : Int32), vs = [.ref (pw_pl 55 i0), .int x1] ∧ pw_ok q 55 i0 = true ∧ pw_W q w S ∧ pw_p (m_X0_greatestBatch S i0 x1) (fun S' r => ∀ f', pw_W q (w.1, f') S' → Q (some (.int r)) (w.1, f'))
set_option maxRecDepth 100000 in
set_option maxHeartbeats 8000000 in
theorem C_X0_greatestBatch : np_C yX0_greatestBatch cX0_greatestBatch 5 (some .int) 1 60 0 0 sp_X0_greatestBatch := by
  refine np_of (by decide) ?_
  intro X vs w Q hsp hX hmn hRt hlt
  obtain ⟨q, S, i0, x1, rfl, hi0, hW, h⟩ := hsp
  obtain ⟨n, f⟩ := w
  unfold m_X0_greatestBatch at h
  have hR : ∀ st w ce sl, np_rt (some .int) 0 0 Q st w ce sl → X.2.2.1 st w ce sl := fun _ _ _ _ h => by rw [hRt]; exact h
  refine np_soundW (so_X0_greatestBatch hX hR) [13, 24] 400 0 _ _ _ _ _ ?_
  conv => whnf
  refine np_rd_i (hW.g hi0) ?_
  conv => whnf
  refine ⟨q, S, 18, i0, (-2147483648), rfl, rfl, hi0, hW, pw_bd h (fun S26 r29 h f27 hW28 => ?_)⟩
  conv => whnf
  refine pw_st h (fun z31 h => ?_)
  conv => whnf
  refine pw_st h (fun z32 h => ?_)
  conv => whnf
  exact np_gl (L_X0_greatestBatch_13 hX hR (pw_F 20000) S26 i0 x1 z31 z32 f27 hi0 hW28 h) ⟨rfl, rfl, rfl, rfl, trivial⟩
theorem dX0_fromBatch_0 : decode cX0_fromBatch 0 = .ok (.aload_n 0, 1) := by decide +kernel
theorem dX0_fromBatch_1 : decode cX0_fromBatch 1 = .ok (.invokevirtual 58, 3) := by decide +kernel
theorem dX0_fromBatch_4 : decode cX0_fromBatch 4 = .ok (.istore_n 2, 1) := by decide +kernel
theorem dX0_fromBatch_5 : decode cX0_fromBatch 5 = .ok (.aload_n 0, 1) := by decide +kernel
theorem dX0_fromBatch_6 : decode cX0_fromBatch 6 = .ok (.getfield 22, 3) := by decide +kernel
theorem dX0_fromBatch_9 : decode cX0_fromBatch 9 = .ok (.tableswitch 58 0 3 #[31, 49, 58, 40], 31) := by decide +kernel
theorem dX0_fromBatch_40 : decode cX0_fromBatch 40 = .ok (.aload_n 0, 1) := by decide +kernel
theorem dX0_fromBatch_41 : decode cX0_fromBatch 41 = .ok (.iload_n 2, 1) := by decide +kernel
theorem dX0_fromBatch_42 : decode cX0_fromBatch 42 = .ok (.invokevirtual 62, 3) := by decide +kernel
theorem dX0_fromBatch_45 : decode cX0_fromBatch 45 = .ok (.istore_n 3, 1) := by decide +kernel
theorem dX0_fromBatch_46 : decode cX0_fromBatch 46 = .ok (.goto 27, 3) := by decide +kernel
theorem dX0_fromBatch_49 : decode cX0_fromBatch 49 = .ok (.aload_n 0, 1) := by decide +kernel
theorem dX0_fromBatch_50 : decode cX0_fromBatch 50 = .ok (.iload_n 2, 1) := by decide +kernel
theorem dX0_fromBatch_51 : decode cX0_fromBatch 51 = .ok (.invokevirtual 65, 3) := by decide +kernel
theorem dX0_fromBatch_54 : decode cX0_fromBatch 54 = .ok (.istore_n 3, 1) := by decide +kernel
theorem dX0_fromBatch_55 : decode cX0_fromBatch 55 = .ok (.goto 18, 3) := by decide +kernel
theorem dX0_fromBatch_58 : decode cX0_fromBatch 58 = .ok (.aload_n 0, 1) := by decide +kernel
theorem dX0_fromBatch_59 : decode cX0_fromBatch 59 = .ok (.iload_n 2, 1) := by decide +kernel
theorem dX0_fromBatch_60 : decode cX0_fromBatch 60 = .ok (.invokevirtual 68, 3) := by decide +kernel
theorem dX0_fromBatch_63 : decode cX0_fromBatch 63 = .ok (.istore_n 3, 1) := by decide +kernel
theorem dX0_fromBatch_64 : decode cX0_fromBatch 64 = .ok (.goto 9, 3) := by decide +kernel
theorem dX0_fromBatch_67 : decode cX0_fromBatch 67 = .ok (.aload_n 0, 1) := by decide +kernel
theorem dX0_fromBatch_68 : decode cX0_fromBatch 68 = .ok (.iload_n 2, 1) := by decide +kernel
theorem dX0_fromBatch_69 : decode cX0_fromBatch 69 = .ok (.invokevirtual 71, 3) := by decide +kernel
theorem dX0_fromBatch_72 : decode cX0_fromBatch 72 = .ok (.istore_n 3, 1) := by decide +kernel
theorem dX0_fromBatch_73 : decode cX0_fromBatch 73 = .ok (.iload_n 3, 1) := by decide +kernel
theorem dX0_fromBatch_74 : decode cX0_fromBatch 74 = .ok (.iload_n 1, 1) := by decide +kernel
theorem dX0_fromBatch_75 : decode cX0_fromBatch 75 = .ok (.ishr, 1) := by decide +kernel
theorem dX0_fromBatch_76 : decode cX0_fromBatch 76 = .ok (.iconst 1, 1) := by decide +kernel
theorem dX0_fromBatch_77 : decode cX0_fromBatch 77 = .ok (.iand, 1) := by decide +kernel
theorem dX0_fromBatch_78 : decode cX0_fromBatch 78 = .ok (.iconst 1, 1) := by decide +kernel
theorem dX0_fromBatch_79 : decode cX0_fromBatch 79 = .ok (.if_icmp .ne 8, 3) := by decide +kernel
theorem dX0_fromBatch_82 : decode cX0_fromBatch 82 = .ok (.ldc 38, 2) := by decide +kernel
theorem dX0_fromBatch_84 : decode cX0_fromBatch 84 = .ok (.goto 13, 3) := by decide +kernel
theorem dX0_fromBatch_87 : decode cX0_fromBatch 87 = .ok (.aload_n 0, 1) := by decide +kernel
theorem dX0_fromBatch_88 : decode cX0_fromBatch 88 = .ok (.getfield 15, 3) := by decide +kernel
theorem dX0_fromBatch_91 : decode cX0_fromBatch 91 = .ok (.iload_n 1, 1) := by decide +kernel
theorem dX0_fromBatch_92 : decode cX0_fromBatch 92 = .ok (.ldc 38, 2) := by decide +kernel
theorem dX0_fromBatch_94 : decode cX0_fromBatch 94 = .ok (.invokestatic 74, 3) := by decide +kernel
theorem dX0_fromBatch_97 : decode cX0_fromBatch 97 = .ok (.ireturn, 1) := by decide +kernel
def is_X0_fromBatch (Rt : np_Rt) : List (Nat × np_Op) := [(0, np_ald 1 0), (1, nw_callV 0 1 sp_X0_gatherBase 3 0 0 0 0), (4, nw_ist 1 2), (5, np_ald 1 0), (6, nw_getf 0 3), (9, nq_tsw (0) [40, 58, 67, 49] 67), (40, np_ald 1 0), (41, np_ild 1 2), (42, nw_callV 0 2 sp_X0_shiftBatch 3 0 0 0 0), (45, nw_ist 1 3), (46, np_goto 73), (49, np_ald 1 0), (50, np_ild 1 2), (51, nw_callV 0 2 sp_X0_differBatch 3 0 0 0 0), (54, nw_ist 1 3), (55, np_goto 73), (58, np_ald 1 0), (59, np_ild 1 2), (60, nw_callV 0 2 sp_X0_totalBatch 6 0 0 0 0), (63, nw_ist 1 3), (64, np_goto 73), (67, np_ald 1 0), (68, np_ild 1 2), (69, nw_callV 0 2 sp_X0_greatestBatch 5 0 0 0 0), (72, nw_ist 1 3), (73, np_ild 1 3), (74, np_ild 1 1), (75, np_ib (fun x y => x >>> (y &&& 31))), (76, np_push 1 (.int 1)), (77, np_ib (fun x y => x &&& y)), (78, np_push 1 (.int 1)), (79, nq_icne 87), (82, np_push 2 (.int (-2147483648))), (84, np_goto 97), (87, np_ald 1 0), (88, nw_getf 0 1), (91, np_ild 1 1), (92, np_push 2 (.int (-2147483648))), (94, nq_call 3 sp_X11_at 3 0 0 0 0), (97, np_ret Rt)]
set_option maxRecDepth 20000 in
theorem so_X0_fromBatch {X : np_Ctx} {Rt : np_Rt} (hX : np_ok RX0 cX0_fromBatch 4 5 109 0 0 .ireturn X) (hR : ∀ st w ce sl, Rt st w ce sl → X.2.2.1 st w ce sl) : ∀ q ∈ is_X0_fromBatch Rt, np_S X q.1 q.2 :=
  List.forall_mem_cons.mpr ⟨np_s_aload_n hX dX0_fromBatch_0 rfl, List.forall_mem_cons.mpr ⟨np_S.mono (op := np_callV 0 1 sp_X0_gatherBase 3 0 0 0 0) (np_s_callV hX C_X0_gatherBase dX0_fromBatch_1 (q := (RX0, TX0, 6)) rfl rfl gw1514 gw73 gw1511 gw1513 gw57 ⟨by decide, by decide, by decide⟩ (by decide) (by decide)) nw_callV_le, List.forall_mem_cons.mpr ⟨np_S.mono (op := np_ist 1 2) (np_s_istore_n hX dX0_fromBatch_4 rfl (by decide)) nw_ist_le, List.forall_mem_cons.mpr ⟨np_s_aload_n hX dX0_fromBatch_5 rfl, List.forall_mem_cons.mpr ⟨np_S.mono (op := np_getf 0 3) (np_s_getf hX dX0_fromBatch_6 (C := RX0) (T := TX0) (N := 6) rfl guX0 (by decide) gw397) nw_getf_le, List.forall_mem_cons.mpr ⟨np_S.mono (op := np_tsw (0) (3) [40, 58, 67, 49] 67) (np_s_tsw hX dX0_fromBatch_9 (by decide) (by decide) (by decide)) (nq_tsw_le (by decide)), List.forall_mem_cons.mpr ⟨np_s_aload_n hX dX0_fromBatch_40 rfl, List.forall_mem_cons.mpr ⟨np_s_iload_n hX dX0_fromBatch_41 rfl, List.forall_mem_cons.mpr ⟨np_S.mono (op := np_callV 0 2 sp_X0_shiftBatch 3 0 0 0 0) (np_s_callV hX C_X0_shiftBatch dX0_fromBatch_42 (q := (RX0, TX0, 6)) rfl rfl gw1518 gw73 gw1515 gw1517 gw58 ⟨by decide, by decide, by decide⟩ (by decide) (by decide)) nw_callV_le, List.forall_mem_cons.mpr ⟨np_S.mono (op := np_ist 1 3) (np_s_istore_n hX dX0_fromBatch_45 rfl (by decide)) nw_ist_le, List.forall_mem_cons.mpr ⟨np_s_goto hX dX0_fromBatch_46 (by decide), List.forall_mem_cons.mpr ⟨np_s_aload_n hX dX0_fromBatch_49 rfl, List.forall_mem_cons.mpr ⟨np_s_iload_n hX dX0_fromBatch_50 rfl, List.forall_mem_cons.mpr ⟨np_S.mono (op := np_callV 0 2 sp_X0_differBatch 3 0 0 0 0) (np_s_callV hX C_X0_differBatch dX0_fromBatch_51 (q := (RX0, TX0, 6)) rfl rfl gw1526 gw73 gw1523 gw1525 gw59 ⟨by decide, by decide, by decide⟩ (by decide) (by decide)) nw_callV_le, List.forall_mem_cons.mpr ⟨np_S.mono (op := np_ist 1 3) (np_s_istore_n hX dX0_fromBatch_54 rfl (by decide)) nw_ist_le, List.forall_mem_cons.mpr ⟨np_s_goto hX dX0_fromBatch_55 (by decide), List.forall_mem_cons.mpr ⟨np_s_aload_n hX dX0_fromBatch_58 rfl, List.forall_mem_cons.mpr ⟨np_s_iload_n hX dX0_fromBatch_59 rfl, List.forall_mem_cons.mpr ⟨np_S.mono (op := np_callV 0 2 sp_X0_totalBatch 6 0 0 0 0) (np_s_callV hX C_X0_totalBatch dX0_fromBatch_60 (q := (RX0, TX0, 6)) rfl rfl gw1530 gw73 gw1527 gw1529 gw60 ⟨by decide, by decide, by decide⟩ (by decide) (by decide)) nw_callV_le, List.forall_mem_cons.mpr ⟨np_S.mono (op := np_ist 1 3) (np_s_istore_n hX dX0_fromBatch_63 rfl (by decide)) nw_ist_le, List.forall_mem_cons.mpr ⟨np_s_goto hX dX0_fromBatch_64 (by decide), List.forall_mem_cons.mpr ⟨np_s_aload_n hX dX0_fromBatch_67 rfl, List.forall_mem_cons.mpr ⟨np_s_iload_n hX dX0_fromBatch_68 rfl, List.forall_mem_cons.mpr ⟨np_S.mono (op := np_callV 0 2 sp_X0_greatestBatch 5 0 0 0 0) (np_s_callV hX C_X0_greatestBatch dX0_fromBatch_69 (q := (RX0, TX0, 6)) rfl rfl gw1535 gw73 gw1532 gw1534 gw61 ⟨by decide, by decide, by decide⟩ (by decide) (by decide)) nw_callV_le, List.forall_mem_cons.mpr ⟨np_S.mono (op := np_ist 1 3) (np_s_istore_n hX dX0_fromBatch_72 rfl (by decide)) nw_ist_le, List.forall_mem_cons.mpr ⟨np_s_iload_n hX dX0_fromBatch_73 rfl, List.forall_mem_cons.mpr ⟨np_s_iload_n hX dX0_fromBatch_74 rfl, List.forall_mem_cons.mpr ⟨np_s_ishr hX dX0_fromBatch_75, List.forall_mem_cons.mpr ⟨np_s_iconst hX dX0_fromBatch_76 (by decide), List.forall_mem_cons.mpr ⟨np_s_iand hX dX0_fromBatch_77, List.forall_mem_cons.mpr ⟨np_s_iconst hX dX0_fromBatch_78 (by decide), List.forall_mem_cons.mpr ⟨np_S.mono (op := np_icne 87) (np_s_icmp_ne hX dX0_fromBatch_79 (by decide)) nq_icne_le, List.forall_mem_cons.mpr ⟨np_s_ldc hX dX0_fromBatch_82 gw1168, List.forall_mem_cons.mpr ⟨np_s_goto hX dX0_fromBatch_84 (by decide), List.forall_mem_cons.mpr ⟨np_s_aload_n hX dX0_fromBatch_87 rfl, List.forall_mem_cons.mpr ⟨np_S.mono (op := np_getf 0 1) (np_s_getf hX dX0_fromBatch_88 (C := RX0) (T := TX0) (N := 6) rfl guX0 (by decide) gw395) nw_getf_le, List.forall_mem_cons.mpr ⟨np_s_iload_n hX dX0_fromBatch_91 rfl, List.forall_mem_cons.mpr ⟨np_s_ldc hX dX0_fromBatch_92 gw1168, List.forall_mem_cons.mpr ⟨np_S.mono (op := np_call 3 sp_X11_at 3 0 0 0 0) (np_s_callSN hX C_X11_at dX0_fromBatch_94 gw653 gw63 gw1519 gw652 ⟨by decide, by decide, by decide⟩ (by decide) (by decide)) nq_call_le, List.forall_mem_cons.mpr ⟨np_S.mono (op := np_ret X.2.2.1) (np_s_ret hX dX0_fromBatch_97) (nq_ret_le hR), fun _ h => nomatch h⟩⟩⟩⟩⟩⟩⟩⟩⟩⟩⟩⟩⟩⟩⟩⟩⟩⟩⟩⟩⟩⟩⟩⟩⟩⟩⟩⟩⟩⟩⟩⟩⟩⟩⟩⟩⟩⟩⟩⟩
noncomputable def m_X0_fromBatch (S : pw_S) (i0 : Nat) (x1 : Int32) : pw_R Int32 :=
 pw_b (m_X0_gatherBase S i0) fun S1 r4 =>
 pw_l (r4 : Int32) fun z6 =>
 if ((S1 55 i0 3) : Int32).toInt = 0 then
 (pw_b (m_X0_shiftBatch S1 i0 z6) fun S7 r10 =>
 pw_l (r10 : Int32) fun z12 =>
 if ((z12 >>> (x1 &&& 31)) &&& 1) = 1 then
 (some (S7, (-2147483648)))
 else
 (pw_b (m_X11_at S7 18 i0 x1 (-2147483648)) fun S13 r16 =>
 some (S13, r16)))
 else if ((S1 55 i0 3) : Int32).toInt = (0 + 1) then
 (pw_b (m_X0_totalBatch S1 i0 z6) fun S18 r21 =>
 pw_l (r21 : Int32) fun z23 =>
 if ((z23 >>> (x1 &&& 31)) &&& 1) = 1 then
 (some (S18, (-2147483648)))
 else
 (pw_b (m_X11_at S18 18 i0 x1 (-2147483648)) fun S24 r27 =>
 some (S24, r27)))
 else if ((S1 55 i0 3) : Int32).toInt = ((0 + 1) + 1) then
 (pw_b (m_X0_greatestBatch S1 i0 z6) fun S29 r32 =>
 pw_l (r32 : Int32) fun z34 =>
 if ((z34 >>> (x1 &&& 31)) &&& 1) = 1 then
 (some (S29, (-2147483648)))
 else
 (pw_b (m_X11_at S29 18 i0 x1 (-2147483648)) fun S35 r38 =>
 some (S35, r38)))
 else if ((S1 55 i0 3) : Int32).toInt = (((0 + 1) + 1) + 1) then
 (pw_b (m_X0_differBatch S1 i0 z6) fun S40 r43 =>
 pw_l (r43 : Int32) fun z45 =>
 if ((z45 >>> (x1 &&& 31)) &&& 1) = 1 then
 (some (S40, (-2147483648)))
 else
 (pw_b (m_X11_at S40 18 i0 x1 (-2147483648)) fun S46 r49 =>
 some (S46, r49)))
 else 
 (pw_b (m_X0_greatestBatch S1 i0 z6) fun S51 r54 =>
 pw_l (r54 : Int32) fun z56 =>
 if ((z56 >>> (x1 &&& 31)) &&& 1) = 1 then
 (some (S51, (-2147483648)))
 else
 (pw_b (m_X11_at S51 18 i0 x1 (-2147483648)) fun S57 r60 =>
 some (S57, r60)))
def sp_X0_fromBatch : np_Sp := fun vs w Q => ∃ (q : Nat) (S : pw_S) (i0 : Nat) (x1 : Int32), vs = [.ref (pw_pl 55 i0), .int x1] ∧ pw_ok q 55 i0 = true ∧ pw_W q w S ∧ pw_p (m_X0_fromBatch S i0 x1) (fun S' r => ∀ f', pw_W q (w.1, f') S' → Q (some (.int r)) (w.1, f'))
set_option maxRecDepth 100000 in
set_option maxHeartbeats 8000000 in
theorem C_X0_fromBatch : np_C yX0_fromBatch cX0_fromBatch 4 (some .int) 5 109 0 0 sp_X0_fromBatch := by
  refine np_of (by decide) ?_
  intro X vs w Q hsp hX hmn hRt hlt
  obtain ⟨q, S, i0, x1, rfl, hi0, hW, h⟩ := hsp
  obtain ⟨n, f⟩ := w
  unfold m_X0_fromBatch at h
  have hR : ∀ st w ce sl, np_rt (some .int) 0 0 Q st w ce sl → X.2.2.1 st w ce sl := fun _ _ _ _ h => by rw [hRt]; exact h
  refine np_soundW (so_X0_fromBatch hX hR) [] 400 0 _ _ _ _ _ ?_
  conv => whnf
  refine np_rd_i (hW.g hi0) ?_
  conv => whnf
  refine ⟨q, S, i0, rfl, hi0, hW, pw_bd h (fun S1 r4 h f2 hW3 => ?_)⟩
  conv => whnf
  refine pw_st h (fun z6 h => ?_)
  conv => whnf
  refine np_rd_i (hW3.g hi0) ?_
  conv => whnf
  refine pw_br h (fun _ h => ?_) (fun _ h => ?_)
  · conv => whnf
    refine np_rd_i (hW3.g hi0) ?_
    conv => whnf
    refine ⟨q, S1, i0, z6, rfl, hi0, hW3, pw_bd h (fun S7 r10 h f8 hW9 => ?_)⟩
    conv => whnf
    refine pw_st h (fun z12 h => ?_)
    conv => whnf
    refine pw_br h (fun _ h => ?_) (fun _ h => ?_)
    · conv => whnf
      exact ⟨Nat.le_of_ble_eq_true rfl, Nat.le_of_ble_eq_true rfl, ⟨_, rfl⟩, _, fun _ _ h9 => h9, pw_ps h _ hW9⟩
    · conv => whnf
      refine np_rd_i (hW9.g hi0) ?_
      conv => whnf
      refine ⟨q, S7, 18, i0, x1, (-2147483648), rfl, rfl, hi0, hW9, pw_bd h (fun S13 r16 h f14 hW15 => ?_)⟩
      conv => whnf
      exact ⟨Nat.le_of_ble_eq_true rfl, Nat.le_of_ble_eq_true rfl, ⟨_, rfl⟩, _, fun _ _ h9 => h9, pw_ps h _ hW15⟩
  conv => whnf
  refine pw_br h (fun _ h => ?_) (fun _ h => ?_)
  · conv => whnf
    refine np_rd_i (hW3.g hi0) ?_
    conv => whnf
    refine ⟨q, S1, i0, z6, rfl, hi0, hW3, pw_bd h (fun S18 r21 h f19 hW20 => ?_)⟩
    conv => whnf
    refine pw_st h (fun z23 h => ?_)
    conv => whnf
    refine pw_br h (fun _ h => ?_) (fun _ h => ?_)
    · conv => whnf
      exact ⟨Nat.le_of_ble_eq_true rfl, Nat.le_of_ble_eq_true rfl, ⟨_, rfl⟩, _, fun _ _ h9 => h9, pw_ps h _ hW20⟩
    · conv => whnf
      refine np_rd_i (hW20.g hi0) ?_
      conv => whnf
      refine ⟨q, S18, 18, i0, x1, (-2147483648), rfl, rfl, hi0, hW20, pw_bd h (fun S24 r27 h f25 hW26 => ?_)⟩
      conv => whnf
      exact ⟨Nat.le_of_ble_eq_true rfl, Nat.le_of_ble_eq_true rfl, ⟨_, rfl⟩, _, fun _ _ h9 => h9, pw_ps h _ hW26⟩
  conv => whnf
  refine pw_br h (fun _ h => ?_) (fun _ h => ?_)
  · conv => whnf
    refine np_rd_i (hW3.g hi0) ?_
    conv => whnf
    refine ⟨q, S1, i0, z6, rfl, hi0, hW3, pw_bd h (fun S29 r32 h f30 hW31 => ?_)⟩
    conv => whnf
    refine pw_st h (fun z34 h => ?_)
    conv => whnf
    refine pw_br h (fun _ h => ?_) (fun _ h => ?_)
    · conv => whnf
      exact ⟨Nat.le_of_ble_eq_true rfl, Nat.le_of_ble_eq_true rfl, ⟨_, rfl⟩, _, fun _ _ h9 => h9, pw_ps h _ hW31⟩
    · conv => whnf
      refine np_rd_i (hW31.g hi0) ?_
      conv => whnf
      refine ⟨q, S29, 18, i0, x1, (-2147483648), rfl, rfl, hi0, hW31, pw_bd h (fun S35 r38 h f36 hW37 => ?_)⟩
      conv => whnf
      exact ⟨Nat.le_of_ble_eq_true rfl, Nat.le_of_ble_eq_true rfl, ⟨_, rfl⟩, _, fun _ _ h9 => h9, pw_ps h _ hW37⟩
  conv => whnf
  refine pw_br h (fun _ h => ?_) (fun _ h => ?_)
  · conv => whnf
    refine np_rd_i (hW3.g hi0) ?_
    conv => whnf
    refine ⟨q, S1, i0, z6, rfl, hi0, hW3, pw_bd h (fun S40 r43 h f41 hW42 => ?_)⟩
    conv => whnf
    refine pw_st h (fun z45 h => ?_)
    conv => whnf
    refine pw_br h (fun _ h => ?_) (fun _ h => ?_)
    · conv => whnf
      exact ⟨Nat.le_of_ble_eq_true rfl, Nat.le_of_ble_eq_true rfl, ⟨_, rfl⟩, _, fun _ _ h9 => h9, pw_ps h _ hW42⟩
    · conv => whnf
      refine np_rd_i (hW42.g hi0) ?_
      conv => whnf
      refine ⟨q, S40, 18, i0, x1, (-2147483648), rfl, rfl, hi0, hW42, pw_bd h (fun S46 r49 h f47 hW48 => ?_)⟩
      conv => whnf
      exact ⟨Nat.le_of_ble_eq_true rfl, Nat.le_of_ble_eq_true rfl, ⟨_, rfl⟩, _, fun _ _ h9 => h9, pw_ps h _ hW48⟩
  conv => whnf
  refine np_rd_i (hW3.g hi0) ?_
  conv => whnf
  refine ⟨q, S1, i0, z6, rfl, hi0, hW3, pw_bd h (fun S51 r54 h f52 hW53 => ?_)⟩
  conv => whnf
  refine pw_st h (fun z56 h => ?_)
  conv => whnf
  refine pw_br h (fun _ h => ?_) (fun _ h => ?_)
  · conv => whnf
    exact ⟨Nat.le_of_ble_eq_true rfl, Nat.le_of_ble_eq_true rfl, ⟨_, rfl⟩, _, fun _ _ h9 => h9, pw_ps h _ hW53⟩
  · conv => whnf
    refine np_rd_i (hW53.g hi0) ?_
    conv => whnf
    refine ⟨q, S51, 18, i0, x1, (-2147483648), rfl, rfl, hi0, hW53, pw_bd h (fun S57 r60 h f58 hW59 => ?_)⟩
    conv => whnf
    exact ⟨Nat.le_of_ble_eq_true rfl, Nat.le_of_ble_eq_true rfl, ⟨_, rfl⟩, _, fun _ _ h9 => h9, pw_ps h _ hW59⟩
