theorem gw3 : (Jvm.Cond.selects "NotationPress" ({ cls := "NotationPress", name := "descriptionOf", desc := "(I)LNotationPress$Description;" } : Jvm.MethodName) ({ cls := "NotationPress", name := "descriptionOf", desc := "(I)LNotationPress$Description;" } : Jvm.MethodName)) ∈ np_gw := np_gwi 3 (by decide +kernel) rfl
theorem gw17 : (Jvm.Cond.selects "NotationPress" ({ cls := "NotationPress", name := "fileOf", desc := "(I)LNotationPress$Text;" } : Jvm.MethodName) ({ cls := "NotationPress", name := "fileOf", desc := "(I)LNotationPress$Text;" } : Jvm.MethodName)) ∈ np_gw := np_gwi 17 (by decide +kernel) rfl
theorem gw33 : (Jvm.Cond.selects "NotationPress" ({ cls := "NotationPress", name := "tableOf", desc := "(I)LNotationPress$Table;" } : Jvm.MethodName) ({ cls := "NotationPress", name := "tableOf", desc := "(I)LNotationPress$Table;" } : Jvm.MethodName)) ∈ np_gw := np_gwi 33 (by decide +kernel) rfl
theorem gw35 : (Jvm.Cond.selects "NotationPress" ({ cls := "NotationPress", name := "columnOf", desc := "(I)LNotationPress$Column;" } : Jvm.MethodName) ({ cls := "NotationPress", name := "columnOf", desc := "(I)LNotationPress$Column;" } : Jvm.MethodName)) ∈ np_gw := np_gwi 35 (by decide +kernel) rfl
theorem gw43 : (Jvm.Cond.selects "NotationPress" ({ cls := "NotationPress", name := "nextUpgrade", desc := "()LNotationPress$Upgrade;" } : Jvm.MethodName) ({ cls := "NotationPress", name := "nextUpgrade", desc := "()LNotationPress$Upgrade;" } : Jvm.MethodName)) ∈ np_gw := np_gwi 43 (by decide +kernel) rfl
theorem gw46 : (Jvm.Cond.selects "NotationPress" ({ cls := "NotationPress", name := "upgradeOf", desc := "(I)LNotationPress$Upgrade;" } : Jvm.MethodName) ({ cls := "NotationPress", name := "upgradeOf", desc := "(I)LNotationPress$Upgrade;" } : Jvm.MethodName)) ∈ np_gw := np_gwi 46 (by decide +kernel) rfl
theorem gw146 : (Jvm.Cond.initialized "java/lang/IndexOutOfBoundsException") ∈ np_gw := np_gwi 146 (by decide +kernel) rfl
theorem gw147 : (Jvm.Cond.initialized "java/lang/IllegalArgumentException") ∈ np_gw := np_gwi 147 (by decide +kernel) rfl
theorem gw148 : (Jvm.Cond.initialized "java/lang/IllegalStateException") ∈ np_gw := np_gwi 148 (by decide +kernel) rfl
theorem gw150 : (Jvm.Cond.initialized "java/lang/Math") ∈ np_gw := np_gwi 150 (by decide +kernel) rfl
theorem gw169 : (Jvm.Cond.fieldLinkNest "NotationPress" (125 : Nat) "NotationPress$Items" "count" "I" "NotationPress") ∈ np_nw := np_nwi 169 (by decide +kernel) rfl
theorem gw212 : (Jvm.Cond.fieldLinkNest "NotationPress" (202 : Nat) "NotationPress$Trace" "values" "[I" "NotationPress") ∈ np_nw := np_nwi 212 (by decide +kernel) rfl
theorem gw225 : (Jvm.Cond.fieldLinkNest "NotationPress" (282 : Nat) "NotationPress$Trace" "length" "I" "NotationPress") ∈ np_nw := np_nwi 225 (by decide +kernel) rfl
theorem gw276 : (Jvm.Cond.fieldLinkNest "NotationPress" (232 : Nat) "NotationPress$Text" "length" "I" "NotationPress") ∈ np_nw := np_nwi 276 (by decide +kernel) rfl
theorem gw278 : (Jvm.Cond.fieldLinkNest "NotationPress" (246 : Nat) "NotationPress$Text" "open" "Z" "NotationPress") ∈ np_nw := np_nwi 278 (by decide +kernel) rfl
theorem gw289 : (Jvm.Cond.fieldLinkNest "NotationPress" (278 : Nat) "NotationPress$Reader" "current" "LNotationPress$Trace;" "NotationPress") ∈ np_nw := np_nwi 289 (by decide +kernel) rfl
theorem gw299 : (Jvm.Cond.fieldLinkNest "NotationPress" (265 : Nat) "NotationPress$Reader" "tooFar" "Z" "NotationPress") ∈ np_nw := np_nwi 299 (by decide +kernel) rfl
theorem gw380 : (Jvm.Cond.fieldLinkNest "NotationPress" (140 : Nat) "NotationPress$Description" "items" "LNotationPress$Items;" "NotationPress") ∈ np_nw := np_nwi 380 (by decide +kernel) rfl
theorem gw387 : (Jvm.Cond.fieldLinkNest "NotationPress" (171 : Nat) "NotationPress$Description" "count" "I" "NotationPress") ∈ np_nw := np_nwi 387 (by decide +kernel) rfl
theorem gw411 : (Jvm.Cond.fieldLinkNest "NotationPress" (339 : Nat) "NotationPress$Table" "rows" "[I" "NotationPress") ∈ np_nw := np_nwi 411 (by decide +kernel) rfl
theorem gw413 : (Jvm.Cond.fieldLinkNest "NotationPress" (328 : Nat) "NotationPress$Table" "ledger" "[I" "NotationPress") ∈ np_nw := np_nwi 413 (by decide +kernel) rfl
theorem gw418 : (Jvm.Cond.fieldLinkNest "NotationPress" (294 : Nat) "NotationPress$Table" "description" "LNotationPress$Description;" "NotationPress") ∈ np_nw := np_nwi 418 (by decide +kernel) rfl
theorem gw420 : (Jvm.Cond.fieldLinkNest "NotationPress" (287 : Nat) "NotationPress$Table" "place" "I" "NotationPress") ∈ np_nw := np_nwi 420 (by decide +kernel) rfl
theorem gw422 : (Jvm.Cond.fieldLinkNest "NotationPress" (317 : Nat) "NotationPress$Table" "rowCount" "I" "NotationPress") ∈ np_nw := np_nwi 422 (by decide +kernel) rfl
theorem gw424 : (Jvm.Cond.fieldLinkNest "NotationPress" (320 : Nat) "NotationPress$Table" "doubts" "I" "NotationPress") ∈ np_nw := np_nwi 424 (by decide +kernel) rfl
theorem gw426 : (Jvm.Cond.fieldLinkNest "NotationPress" (323 : Nat) "NotationPress$Table" "skippedCount" "I" "NotationPress") ∈ np_nw := np_nwi 426 (by decide +kernel) rfl
theorem gw490 : (Jvm.Cond.fieldLinkNest "NotationPress" (413 : Nat) "NotationPress$Upgrade" "length" "I" "NotationPress") ∈ np_nw := np_nwi 490 (by decide +kernel) rfl
theorem gw553 : (Jvm.Cond.methodLink "NotationPress" (129 : Nat) ({ cls := "NotationPress$Items", name := "clear", desc := "()V" } : Jvm.MethodName)) ∈ np_gw := np_gwi 553 (by decide +kernel) rfl
theorem gw554 : (Jvm.Cond.instanceMethod ({ cls := "NotationPress$Items", name := "clear", desc := "()V" } : Jvm.MethodName)) ∈ np_gw := np_gwi 554 (by decide +kernel) rfl
theorem gw555 : (Jvm.Cond.selects "NotationPress$Items" ({ cls := "NotationPress$Items", name := "clear", desc := "()V" } : Jvm.MethodName) ({ cls := "NotationPress$Items", name := "clear", desc := "()V" } : Jvm.MethodName)) ∈ np_gw := np_gwi 555 (by decide +kernel) rfl
theorem gw556 : (Jvm.Cond.code ({ cls := "NotationPress$Items", name := "clear", desc := "()V" } : Jvm.MethodName) prog_4_method_5_code (1 : Nat) (Option.none : Option Jvm.ClassFile.FieldType)) ∈ np_gw := np_gwi 556 (by decide +kernel) rfl
theorem gw567 : (Jvm.Cond.methodLink "NotationPress" (89 : Nat) ({ cls := "NotationPress$Items", name := "tellsSlot", desc := "(I)Z" } : Jvm.MethodName)) ∈ np_gw := np_gwi 567 (by decide +kernel) rfl
theorem gw568 : (Jvm.Cond.static ({ cls := "NotationPress$Items", name := "tellsSlot", desc := "(I)Z" } : Jvm.MethodName)) ∈ np_gw := np_gwi 568 (by decide +kernel) rfl
theorem gw569 : (Jvm.Cond.code ({ cls := "NotationPress$Items", name := "tellsSlot", desc := "(I)Z" } : Jvm.MethodName) prog_4_method_2_code (1 : Nat) (Option.some Jvm.ClassFile.FieldType.boolean)) ∈ np_gw := np_gwi 569 (by decide +kernel) rfl
theorem gw573 : (Jvm.Cond.classLink "NotationPress" (96 : Nat) "java/lang/IndexOutOfBoundsException") ∈ np_gw := np_gwi 573 (by decide +kernel) rfl
theorem gw641 : (Jvm.Cond.methodLink "NotationPress" (103 : Nat) ({ cls := "NotationPress$Items", name := "inRange", desc := "(IIII)Z" } : Jvm.MethodName)) ∈ np_gw := np_gwi 641 (by decide +kernel) rfl
theorem gw642 : (Jvm.Cond.static ({ cls := "NotationPress$Items", name := "inRange", desc := "(IIII)Z" } : Jvm.MethodName)) ∈ np_gw := np_gwi 642 (by decide +kernel) rfl
theorem gw643 : (Jvm.Cond.code ({ cls := "NotationPress$Items", name := "inRange", desc := "(IIII)Z" } : Jvm.MethodName) prog_4_method_3_code (4 : Nat) (Option.some Jvm.ClassFile.FieldType.boolean)) ∈ np_gw := np_gwi 643 (by decide +kernel) rfl
theorem gw647 : (Jvm.Cond.classLink "NotationPress" (107 : Nat) "java/lang/IllegalArgumentException") ∈ np_gw := np_gwi 647 (by decide +kernel) rfl
theorem gw663 : (Jvm.Cond.methodLink "NotationPress" (112 : Nat) ({ cls := "NotationPress$Items", name := "isFull", desc := "()Z" } : Jvm.MethodName)) ∈ np_gw := np_gwi 663 (by decide +kernel) rfl
theorem gw664 : (Jvm.Cond.instanceMethod ({ cls := "NotationPress$Items", name := "isFull", desc := "()Z" } : Jvm.MethodName)) ∈ np_gw := np_gwi 664 (by decide +kernel) rfl
theorem gw665 : (Jvm.Cond.selects "NotationPress$Items" ({ cls := "NotationPress$Items", name := "isFull", desc := "()Z" } : Jvm.MethodName) ({ cls := "NotationPress$Items", name := "isFull", desc := "()Z" } : Jvm.MethodName)) ∈ np_gw := np_gwi 665 (by decide +kernel) rfl
theorem gw666 : (Jvm.Cond.code ({ cls := "NotationPress$Items", name := "isFull", desc := "()Z" } : Jvm.MethodName) prog_4_method_4_code (1 : Nat) (Option.some Jvm.ClassFile.FieldType.boolean)) ∈ np_gw := np_gwi 666 (by decide +kernel) rfl
theorem gw667 : (Jvm.Cond.classLink "NotationPress" (116 : Nat) "java/lang/IllegalStateException") ∈ np_gw := np_gwi 667 (by decide +kernel) rfl
theorem gw683 : (Jvm.Cond.methodLink "NotationPress" (121 : Nat) ({ cls := "NotationPress$Items", name := "add", desc := "(IIII)V" } : Jvm.MethodName)) ∈ np_gw := np_gwi 683 (by decide +kernel) rfl
theorem gw684 : (Jvm.Cond.instanceMethod ({ cls := "NotationPress$Items", name := "add", desc := "(IIII)V" } : Jvm.MethodName)) ∈ np_gw := np_gwi 684 (by decide +kernel) rfl
theorem gw685 : (Jvm.Cond.selects "NotationPress$Items" ({ cls := "NotationPress$Items", name := "add", desc := "(IIII)V" } : Jvm.MethodName) ({ cls := "NotationPress$Items", name := "add", desc := "(IIII)V" } : Jvm.MethodName)) ∈ np_gw := np_gwi 685 (by decide +kernel) rfl
theorem gw686 : (Jvm.Cond.code ({ cls := "NotationPress$Items", name := "add", desc := "(IIII)V" } : Jvm.MethodName) prog_4_method_6_code (5 : Nat) (Option.none : Option Jvm.ClassFile.FieldType)) ∈ np_gw := np_gwi 686 (by decide +kernel) rfl
theorem gw698 : (Jvm.Cond.methodLink "NotationPress" (137 : Nat) ({ cls := "NotationPress$Items", name := "isDescription", desc := "()Z" } : Jvm.MethodName)) ∈ np_gw := np_gwi 698 (by decide +kernel) rfl
theorem gw699 : (Jvm.Cond.instanceMethod ({ cls := "NotationPress$Items", name := "isDescription", desc := "()Z" } : Jvm.MethodName)) ∈ np_gw := np_gwi 699 (by decide +kernel) rfl
theorem gw700 : (Jvm.Cond.selects "NotationPress$Items" ({ cls := "NotationPress$Items", name := "isDescription", desc := "()Z" } : Jvm.MethodName) ({ cls := "NotationPress$Items", name := "isDescription", desc := "()Z" } : Jvm.MethodName)) ∈ np_gw := np_gwi 700 (by decide +kernel) rfl
theorem gw701 : (Jvm.Cond.code ({ cls := "NotationPress$Items", name := "isDescription", desc := "()Z" } : Jvm.MethodName) prog_4_method_16_code (2 : Nat) (Option.some Jvm.ClassFile.FieldType.boolean)) ∈ np_gw := np_gwi 701 (by decide +kernel) rfl
theorem gw758 : (Jvm.Cond.methodLink "NotationPress" (147 : Nat) ({ cls := "NotationPress", name := "descriptionOf", desc := "(I)LNotationPress$Description;" } : Jvm.MethodName)) ∈ np_gw := np_gwi 758 (by decide +kernel) rfl
theorem gw760 : (Jvm.Cond.instanceMethod ({ cls := "NotationPress", name := "descriptionOf", desc := "(I)LNotationPress$Description;" } : Jvm.MethodName)) ∈ np_gw := np_gwi 760 (by decide +kernel) rfl
theorem gw761 : (Jvm.Cond.code ({ cls := "NotationPress", name := "descriptionOf", desc := "(I)LNotationPress$Description;" } : Jvm.MethodName) prog_1_method_36_code (3 : Nat) (Option.some (Jvm.ClassFile.FieldType.object "NotationPress$Description"))) ∈ np_gw := np_gwi 761 (by decide +kernel) rfl
theorem gw808 : (Jvm.Cond.methodLink "NotationPress" (172 : Nat) ({ cls := "NotationPress", name := "isCell", desc := "(II)Z" } : Jvm.MethodName)) ∈ np_gw := np_gwi 808 (by decide +kernel) rfl
theorem gw809 : (Jvm.Cond.static ({ cls := "NotationPress", name := "isCell", desc := "(II)Z" } : Jvm.MethodName)) ∈ np_gw := np_gwi 809 (by decide +kernel) rfl
theorem gw810 : (Jvm.Cond.code ({ cls := "NotationPress", name := "isCell", desc := "(II)Z" } : Jvm.MethodName) prog_1_method_48_code (2 : Nat) (Option.some Jvm.ClassFile.FieldType.boolean)) ∈ np_gw := np_gwi 810 (by decide +kernel) rfl
theorem gw812 : (Jvm.Cond.methodLink "NotationPress" (178 : Nat) ({ cls := "NotationPress", name := "cellPlace", desc := "(II)I" } : Jvm.MethodName)) ∈ np_gw := np_gwi 812 (by decide +kernel) rfl
theorem gw813 : (Jvm.Cond.static ({ cls := "NotationPress", name := "cellPlace", desc := "(II)I" } : Jvm.MethodName)) ∈ np_gw := np_gwi 813 (by decide +kernel) rfl
theorem gw814 : (Jvm.Cond.code ({ cls := "NotationPress", name := "cellPlace", desc := "(II)I" } : Jvm.MethodName) prog_1_method_49_code (2 : Nat) (Option.some Jvm.ClassFile.FieldType.int)) ∈ np_gw := np_gwi 814 (by decide +kernel) rfl
theorem gw815 : (Jvm.Cond.methodLink "NotationPress" (183 : Nat) ({ cls := "NotationPress", name := "at", desc := "([III)I" } : Jvm.MethodName)) ∈ np_gw := np_gwi 815 (by decide +kernel) rfl
theorem gw816 : (Jvm.Cond.methodLink "NotationPress" (187 : Nat) ({ cls := "NotationPress", name := "put", desc := "([III)V" } : Jvm.MethodName)) ∈ np_gw := np_gwi 816 (by decide +kernel) rfl
theorem gw855 : (Jvm.Cond.constant "NotationPress" (195 : Nat) (1000000 : Int32)) ∈ np_gw := np_gwi 855 (by decide +kernel) rfl
theorem gw1032 : (Jvm.Cond.methodLink "NotationPress" (211 : Nat) ({ cls := "NotationPress", name := "fileOf", desc := "(I)LNotationPress$Text;" } : Jvm.MethodName)) ∈ np_gw := np_gwi 1032 (by decide +kernel) rfl
theorem gw1034 : (Jvm.Cond.instanceMethod ({ cls := "NotationPress", name := "fileOf", desc := "(I)LNotationPress$Text;" } : Jvm.MethodName)) ∈ np_gw := np_gwi 1034 (by decide +kernel) rfl
theorem gw1035 : (Jvm.Cond.code ({ cls := "NotationPress", name := "fileOf", desc := "(I)LNotationPress$Text;" } : Jvm.MethodName) prog_1_method_37_code (2 : Nat) (Option.some (Jvm.ClassFile.FieldType.object "NotationPress$Text"))) ∈ np_gw := np_gwi 1035 (by decide +kernel) rfl
theorem gw1037 : (Jvm.Cond.methodLink "NotationPress" (217 : Nat) ({ cls := "NotationPress", name := "charactersIn", desc := "(I)I" } : Jvm.MethodName)) ∈ np_gw := np_gwi 1037 (by decide +kernel) rfl
theorem gw1038 : (Jvm.Cond.static ({ cls := "NotationPress", name := "charactersIn", desc := "(I)I" } : Jvm.MethodName)) ∈ np_gw := np_gwi 1038 (by decide +kernel) rfl
theorem gw1039 : (Jvm.Cond.code ({ cls := "NotationPress", name := "charactersIn", desc := "(I)I" } : Jvm.MethodName) prog_1_method_52_code (4 : Nat) (Option.some Jvm.ClassFile.FieldType.int)) ∈ np_gw := np_gwi 1039 (by decide +kernel) rfl
theorem gw1041 : (Jvm.Cond.methodLink "NotationPress" (223 : Nat) ({ cls := "NotationPress$Text", name := "takes", desc := "(I)Z" } : Jvm.MethodName)) ∈ np_gw := np_gwi 1041 (by decide +kernel) rfl
theorem gw1042 : (Jvm.Cond.instanceMethod ({ cls := "NotationPress$Text", name := "takes", desc := "(I)Z" } : Jvm.MethodName)) ∈ np_gw := np_gwi 1042 (by decide +kernel) rfl
theorem gw1043 : (Jvm.Cond.selects "NotationPress$Text" ({ cls := "NotationPress$Text", name := "takes", desc := "(I)Z" } : Jvm.MethodName) ({ cls := "NotationPress$Text", name := "takes", desc := "(I)Z" } : Jvm.MethodName)) ∈ np_gw := np_gwi 1043 (by decide +kernel) rfl
theorem gw1044 : (Jvm.Cond.code ({ cls := "NotationPress$Text", name := "takes", desc := "(I)Z" } : Jvm.MethodName) prog_9_method_4_code (2 : Nat) (Option.some Jvm.ClassFile.FieldType.boolean)) ∈ np_gw := np_gwi 1044 (by decide +kernel) rfl
theorem gw1046 : (Jvm.Cond.methodLink "NotationPress" (228 : Nat) ({ cls := "NotationPress$Text", name := "append", desc := "(I)V" } : Jvm.MethodName)) ∈ np_gw := np_gwi 1046 (by decide +kernel) rfl
theorem gw1047 : (Jvm.Cond.instanceMethod ({ cls := "NotationPress$Text", name := "append", desc := "(I)V" } : Jvm.MethodName)) ∈ np_gw := np_gwi 1047 (by decide +kernel) rfl
theorem gw1048 : (Jvm.Cond.selects "NotationPress$Text" ({ cls := "NotationPress$Text", name := "append", desc := "(I)V" } : Jvm.MethodName) ({ cls := "NotationPress$Text", name := "append", desc := "(I)V" } : Jvm.MethodName)) ∈ np_gw := np_gwi 1048 (by decide +kernel) rfl
theorem gw1049 : (Jvm.Cond.code ({ cls := "NotationPress$Text", name := "append", desc := "(I)V" } : Jvm.MethodName) prog_9_method_5_code (2 : Nat) (Option.none : Option Jvm.ClassFile.FieldType)) ∈ np_gw := np_gwi 1049 (by decide +kernel) rfl
theorem gw1081 : (Jvm.Cond.methodLink "NotationPress" (250 : Nat) ({ cls := "NotationPress$Text", name := "unitAt", desc := "(I)I" } : Jvm.MethodName)) ∈ np_gw := np_gwi 1081 (by decide +kernel) rfl
theorem gw1082 : (Jvm.Cond.instanceMethod ({ cls := "NotationPress$Text", name := "unitAt", desc := "(I)I" } : Jvm.MethodName)) ∈ np_gw := np_gwi 1082 (by decide +kernel) rfl
theorem gw1083 : (Jvm.Cond.selects "NotationPress$Text" ({ cls := "NotationPress$Text", name := "unitAt", desc := "(I)I" } : Jvm.MethodName) ({ cls := "NotationPress$Text", name := "unitAt", desc := "(I)I" } : Jvm.MethodName)) ∈ np_gw := np_gwi 1083 (by decide +kernel) rfl
theorem gw1084 : (Jvm.Cond.code ({ cls := "NotationPress$Text", name := "unitAt", desc := "(I)I" } : Jvm.MethodName) prog_9_method_3_code (2 : Nat) (Option.some Jvm.ClassFile.FieldType.int)) ∈ np_gw := np_gwi 1084 (by decide +kernel) rfl
theorem gw1190 : (Jvm.Cond.methodLink "NotationPress" (268 : Nat) ({ cls := "java/lang/Math", name := "min", desc := "(II)I" } : Jvm.MethodName)) ∈ np_gw := np_gwi 1190 (by decide +kernel) rfl
theorem gw1191 : (Jvm.Cond.static ({ cls := "java/lang/Math", name := "min", desc := "(II)I" } : Jvm.MethodName)) ∈ np_gw := np_gwi 1191 (by decide +kernel) rfl
theorem gw1192 : (Jvm.Cond.code ({ cls := "java/lang/Math", name := "min", desc := "(II)I" } : Jvm.MethodName) prog_19_method_69_code (2 : Nat) (Option.some Jvm.ClassFile.FieldType.int)) ∈ np_gw := np_gwi 1192 (by decide +kernel) rfl
theorem gw1219 : (Jvm.Cond.methodLink "NotationPress" (283 : Nat) ({ cls := "NotationPress", name := "tableOf", desc := "(I)LNotationPress$Table;" } : Jvm.MethodName)) ∈ np_gw := np_gwi 1219 (by decide +kernel) rfl
theorem gw1221 : (Jvm.Cond.instanceMethod ({ cls := "NotationPress", name := "tableOf", desc := "(I)LNotationPress$Table;" } : Jvm.MethodName)) ∈ np_gw := np_gwi 1221 (by decide +kernel) rfl
theorem gw1222 : (Jvm.Cond.code ({ cls := "NotationPress", name := "tableOf", desc := "(I)LNotationPress$Table;" } : Jvm.MethodName) prog_1_method_38_code (2 : Nat) (Option.some (Jvm.ClassFile.FieldType.object "NotationPress$Table"))) ∈ np_gw := np_gwi 1222 (by decide +kernel) rfl
theorem gw1276 : (Jvm.Cond.instanceMethod ({ cls := "NotationPress$Table", name := "hasRow", desc := "(I)Z" } : Jvm.MethodName)) ∈ np_gw := np_gwi 1276 (by decide +kernel) rfl
theorem gw1277 : (Jvm.Cond.selects "NotationPress$Table" ({ cls := "NotationPress$Table", name := "hasRow", desc := "(I)Z" } : Jvm.MethodName) ({ cls := "NotationPress$Table", name := "hasRow", desc := "(I)Z" } : Jvm.MethodName)) ∈ np_gw := np_gwi 1277 (by decide +kernel) rfl
theorem gw1278 : (Jvm.Cond.code ({ cls := "NotationPress$Table", name := "hasRow", desc := "(I)Z" } : Jvm.MethodName) prog_8_method_4_code (2 : Nat) (Option.some Jvm.ClassFile.FieldType.boolean)) ∈ np_gw := np_gwi 1278 (by decide +kernel) rfl
theorem gw1311 : (Jvm.Cond.methodLink "NotationPress" (331 : Nat) ({ cls := "NotationPress$Table", name := "hasRow", desc := "(I)Z" } : Jvm.MethodName)) ∈ np_gw := np_gwi 1311 (by decide +kernel) rfl
theorem gw1332 : (Jvm.Cond.methodLink "NotationPress" (353 : Nat) ({ cls := "NotationPress$Column", name := "become", desc := "(LNotationPress$Table;III)V" } : Jvm.MethodName)) ∈ np_gw := np_gwi 1332 (by decide +kernel) rfl
theorem gw1333 : (Jvm.Cond.instanceMethod ({ cls := "NotationPress$Column", name := "become", desc := "(LNotationPress$Table;III)V" } : Jvm.MethodName)) ∈ np_gw := np_gwi 1333 (by decide +kernel) rfl
theorem gw1334 : (Jvm.Cond.selects "NotationPress$Column" ({ cls := "NotationPress$Column", name := "become", desc := "(LNotationPress$Table;III)V" } : Jvm.MethodName) ({ cls := "NotationPress$Column", name := "become", desc := "(LNotationPress$Table;III)V" } : Jvm.MethodName)) ∈ np_gw := np_gwi 1334 (by decide +kernel) rfl
theorem gw1335 : (Jvm.Cond.code ({ cls := "NotationPress$Column", name := "become", desc := "(LNotationPress$Table;III)V" } : Jvm.MethodName) prog_2_method_2_code (5 : Nat) (Option.none : Option Jvm.ClassFile.FieldType)) ∈ np_gw := np_gwi 1335 (by decide +kernel) rfl
theorem gw1343 : (Jvm.Cond.methodLink "NotationPress" (357 : Nat) ({ cls := "NotationPress", name := "columnOf", desc := "(I)LNotationPress$Column;" } : Jvm.MethodName)) ∈ np_gw := np_gwi 1343 (by decide +kernel) rfl
theorem gw1345 : (Jvm.Cond.instanceMethod ({ cls := "NotationPress", name := "columnOf", desc := "(I)LNotationPress$Column;" } : Jvm.MethodName)) ∈ np_gw := np_gwi 1345 (by decide +kernel) rfl
theorem gw1346 : (Jvm.Cond.code ({ cls := "NotationPress", name := "columnOf", desc := "(I)LNotationPress$Column;" } : Jvm.MethodName) prog_1_method_39_code (2 : Nat) (Option.some (Jvm.ClassFile.FieldType.object "NotationPress$Column"))) ∈ np_gw := np_gwi 1346 (by decide +kernel) rfl
theorem gw1414 : (Jvm.Cond.methodLink "NotationPress" (370 : Nat) ({ cls := "NotationPress$UpgradeDraft", name := "inRange", desc := "(III)Z" } : Jvm.MethodName)) ∈ np_gw := np_gwi 1414 (by decide +kernel) rfl
theorem gw1415 : (Jvm.Cond.static ({ cls := "NotationPress$UpgradeDraft", name := "inRange", desc := "(III)Z" } : Jvm.MethodName)) ∈ np_gw := np_gwi 1415 (by decide +kernel) rfl
theorem gw1416 : (Jvm.Cond.code ({ cls := "NotationPress$UpgradeDraft", name := "inRange", desc := "(III)Z" } : Jvm.MethodName) prog_12_method_2_code (3 : Nat) (Option.some Jvm.ClassFile.FieldType.boolean)) ∈ np_gw := np_gwi 1416 (by decide +kernel) rfl
theorem gw1420 : (Jvm.Cond.methodLink "NotationPress" (375 : Nat) ({ cls := "NotationPress$UpgradeDraft", name := "add", desc := "(IIII)V" } : Jvm.MethodName)) ∈ np_gw := np_gwi 1420 (by decide +kernel) rfl
theorem gw1421 : (Jvm.Cond.instanceMethod ({ cls := "NotationPress$UpgradeDraft", name := "add", desc := "(IIII)V" } : Jvm.MethodName)) ∈ np_gw := np_gwi 1421 (by decide +kernel) rfl
theorem gw1422 : (Jvm.Cond.selects "NotationPress$UpgradeDraft" ({ cls := "NotationPress$UpgradeDraft", name := "add", desc := "(IIII)V" } : Jvm.MethodName) ({ cls := "NotationPress$UpgradeDraft", name := "add", desc := "(IIII)V" } : Jvm.MethodName)) ∈ np_gw := np_gwi 1422 (by decide +kernel) rfl
theorem gw1423 : (Jvm.Cond.code ({ cls := "NotationPress$UpgradeDraft", name := "add", desc := "(IIII)V" } : Jvm.MethodName) prog_12_method_4_code (5 : Nat) (Option.none : Option Jvm.ClassFile.FieldType)) ∈ np_gw := np_gwi 1423 (by decide +kernel) rfl
theorem gw1425 : (Jvm.Cond.methodLink "NotationPress" (376 : Nat) ({ cls := "NotationPress$UpgradeDraft", name := "size", desc := "()I" } : Jvm.MethodName)) ∈ np_gw := np_gwi 1425 (by decide +kernel) rfl
theorem gw1426 : (Jvm.Cond.instanceMethod ({ cls := "NotationPress$UpgradeDraft", name := "size", desc := "()I" } : Jvm.MethodName)) ∈ np_gw := np_gwi 1426 (by decide +kernel) rfl
theorem gw1427 : (Jvm.Cond.selects "NotationPress$UpgradeDraft" ({ cls := "NotationPress$UpgradeDraft", name := "size", desc := "()I" } : Jvm.MethodName) ({ cls := "NotationPress$UpgradeDraft", name := "size", desc := "()I" } : Jvm.MethodName)) ∈ np_gw := np_gwi 1427 (by decide +kernel) rfl
theorem gw1428 : (Jvm.Cond.code ({ cls := "NotationPress$UpgradeDraft", name := "size", desc := "()I" } : Jvm.MethodName) prog_12_method_5_code (3 : Nat) (Option.some Jvm.ClassFile.FieldType.int)) ∈ np_gw := np_gwi 1428 (by decide +kernel) rfl
theorem gw1436 : (Jvm.Cond.methodLink "NotationPress" (379 : Nat) ({ cls := "NotationPress", name := "nextUpgrade", desc := "()LNotationPress$Upgrade;" } : Jvm.MethodName)) ∈ np_gw := np_gwi 1436 (by decide +kernel) rfl
theorem gw1438 : (Jvm.Cond.instanceMethod ({ cls := "NotationPress", name := "nextUpgrade", desc := "()LNotationPress$Upgrade;" } : Jvm.MethodName)) ∈ np_gw := np_gwi 1438 (by decide +kernel) rfl
theorem gw1439 : (Jvm.Cond.code ({ cls := "NotationPress", name := "nextUpgrade", desc := "()LNotationPress$Upgrade;" } : Jvm.MethodName) prog_1_method_41_code (1 : Nat) (Option.some (Jvm.ClassFile.FieldType.object "NotationPress$Upgrade"))) ∈ np_gw := np_gwi 1439 (by decide +kernel) rfl
theorem gw1441 : (Jvm.Cond.methodLink "NotationPress" (385 : Nat) ({ cls := "NotationPress$Upgrade", name := "buildFrom", desc := "(LNotationPress$UpgradeDraft;)V" } : Jvm.MethodName)) ∈ np_gw := np_gwi 1441 (by decide +kernel) rfl
theorem gw1442 : (Jvm.Cond.instanceMethod ({ cls := "NotationPress$Upgrade", name := "buildFrom", desc := "(LNotationPress$UpgradeDraft;)V" } : Jvm.MethodName)) ∈ np_gw := np_gwi 1442 (by decide +kernel) rfl
theorem gw1443 : (Jvm.Cond.selects "NotationPress$Upgrade" ({ cls := "NotationPress$Upgrade", name := "buildFrom", desc := "(LNotationPress$UpgradeDraft;)V" } : Jvm.MethodName) ({ cls := "NotationPress$Upgrade", name := "buildFrom", desc := "(LNotationPress$UpgradeDraft;)V" } : Jvm.MethodName)) ∈ np_gw := np_gwi 1443 (by decide +kernel) rfl
theorem gw1444 : (Jvm.Cond.code ({ cls := "NotationPress$Upgrade", name := "buildFrom", desc := "(LNotationPress$UpgradeDraft;)V" } : Jvm.MethodName) prog_11_method_8_code (3 : Nat) (Option.none : Option Jvm.ClassFile.FieldType)) ∈ np_gw := np_gwi 1444 (by decide +kernel) rfl
theorem gw1455 : (Jvm.Cond.methodLink "NotationPress" (389 : Nat) ({ cls := "NotationPress$UpgradeDraft", name := "clear", desc := "()V" } : Jvm.MethodName)) ∈ np_gw := np_gwi 1455 (by decide +kernel) rfl
theorem gw1456 : (Jvm.Cond.instanceMethod ({ cls := "NotationPress$UpgradeDraft", name := "clear", desc := "()V" } : Jvm.MethodName)) ∈ np_gw := np_gwi 1456 (by decide +kernel) rfl
theorem gw1457 : (Jvm.Cond.selects "NotationPress$UpgradeDraft" ({ cls := "NotationPress$UpgradeDraft", name := "clear", desc := "()V" } : Jvm.MethodName) ({ cls := "NotationPress$UpgradeDraft", name := "clear", desc := "()V" } : Jvm.MethodName)) ∈ np_gw := np_gwi 1457 (by decide +kernel) rfl
theorem gw1458 : (Jvm.Cond.code ({ cls := "NotationPress$UpgradeDraft", name := "clear", desc := "()V" } : Jvm.MethodName) prog_12_method_3_code (1 : Nat) (Option.none : Option Jvm.ClassFile.FieldType)) ∈ np_gw := np_gwi 1458 (by decide +kernel) rfl
theorem gw1466 : (Jvm.Cond.methodLink "NotationPress" (393 : Nat) ({ cls := "NotationPress", name := "upgradeOf", desc := "(I)LNotationPress$Upgrade;" } : Jvm.MethodName)) ∈ np_gw := np_gwi 1466 (by decide +kernel) rfl
theorem gw1468 : (Jvm.Cond.instanceMethod ({ cls := "NotationPress", name := "upgradeOf", desc := "(I)LNotationPress$Upgrade;" } : Jvm.MethodName)) ∈ np_gw := np_gwi 1468 (by decide +kernel) rfl
theorem gw1469 : (Jvm.Cond.code ({ cls := "NotationPress", name := "upgradeOf", desc := "(I)LNotationPress$Upgrade;" } : Jvm.MethodName) prog_1_method_40_code (2 : Nat) (Option.some (Jvm.ClassFile.FieldType.object "NotationPress$Upgrade"))) ∈ np_gw := np_gwi 1469 (by decide +kernel) rfl
theorem gw1583 : (Jvm.Cond.methodLink "NotationPress" (414 : Nat) ({ cls := "NotationPress$Table", name := "keysNotIn", desc := "(LNotationPress$Table;I)I" } : Jvm.MethodName)) ∈ np_gw := np_gwi 1583 (by decide +kernel) rfl
theorem gw1584 : (Jvm.Cond.instanceMethod ({ cls := "NotationPress$Table", name := "keysNotIn", desc := "(LNotationPress$Table;I)I" } : Jvm.MethodName)) ∈ np_gw := np_gwi 1584 (by decide +kernel) rfl
theorem gw1585 : (Jvm.Cond.selects "NotationPress$Table" ({ cls := "NotationPress$Table", name := "keysNotIn", desc := "(LNotationPress$Table;I)I" } : Jvm.MethodName) ({ cls := "NotationPress$Table", name := "keysNotIn", desc := "(LNotationPress$Table;I)I" } : Jvm.MethodName)) ∈ np_gw := np_gwi 1585 (by decide +kernel) rfl
theorem gw1586 : (Jvm.Cond.code ({ cls := "NotationPress$Table", name := "keysNotIn", desc := "(LNotationPress$Table;I)I" } : Jvm.MethodName) prog_8_method_17_code (5 : Nat) (Option.some Jvm.ClassFile.FieldType.int)) ∈ np_gw := np_gwi 1586 (by decide +kernel) rfl
theorem gw1595 : (Jvm.Cond.methodLink "NotationPress" (418 : Nat) ({ cls := "NotationPress$Table", name := "keysThatDiffer", desc := "(LNotationPress$Table;I)I" } : Jvm.MethodName)) ∈ np_gw := np_gwi 1595 (by decide +kernel) rfl
theorem gw1596 : (Jvm.Cond.instanceMethod ({ cls := "NotationPress$Table", name := "keysThatDiffer", desc := "(LNotationPress$Table;I)I" } : Jvm.MethodName)) ∈ np_gw := np_gwi 1596 (by decide +kernel) rfl
theorem gw1597 : (Jvm.Cond.selects "NotationPress$Table" ({ cls := "NotationPress$Table", name := "keysThatDiffer", desc := "(LNotationPress$Table;I)I" } : Jvm.MethodName) ({ cls := "NotationPress$Table", name := "keysThatDiffer", desc := "(LNotationPress$Table;I)I" } : Jvm.MethodName)) ∈ np_gw := np_gwi 1597 (by decide +kernel) rfl
theorem gw1598 : (Jvm.Cond.code ({ cls := "NotationPress$Table", name := "keysThatDiffer", desc := "(LNotationPress$Table;I)I" } : Jvm.MethodName) prog_8_method_18_code (6 : Nat) (Option.some Jvm.ClassFile.FieldType.int)) ∈ np_gw := np_gwi 1598 (by decide +kernel) rfl
theorem gw1611 : (Jvm.Cond.methodLink "NotationPress" (423 : Nat) ({ cls := "NotationPress$Table", name := "rowByIndex", desc := "(III)I" } : Jvm.MethodName)) ∈ np_gw := np_gwi 1611 (by decide +kernel) rfl
theorem gw1612 : (Jvm.Cond.instanceMethod ({ cls := "NotationPress$Table", name := "rowByIndex", desc := "(III)I" } : Jvm.MethodName)) ∈ np_gw := np_gwi 1612 (by decide +kernel) rfl
theorem gw1613 : (Jvm.Cond.selects "NotationPress$Table" ({ cls := "NotationPress$Table", name := "rowByIndex", desc := "(III)I" } : Jvm.MethodName) ({ cls := "NotationPress$Table", name := "rowByIndex", desc := "(III)I" } : Jvm.MethodName)) ∈ np_gw := np_gwi 1613 (by decide +kernel) rfl
theorem gw1614 : (Jvm.Cond.code ({ cls := "NotationPress$Table", name := "rowByIndex", desc := "(III)I" } : Jvm.MethodName) prog_8_method_13_code (7 : Nat) (Option.some Jvm.ClassFile.FieldType.int)) ∈ np_gw := np_gwi 1614 (by decide +kernel) rfl
theorem gw1622 : (Jvm.Cond.methodLink "NotationPress" (427 : Nat) ({ cls := "NotationPress$Table", name := "rowByLooking", desc := "(III)I" } : Jvm.MethodName)) ∈ np_gw := np_gwi 1622 (by decide +kernel) rfl
theorem gw1623 : (Jvm.Cond.instanceMethod ({ cls := "NotationPress$Table", name := "rowByLooking", desc := "(III)I" } : Jvm.MethodName)) ∈ np_gw := np_gwi 1623 (by decide +kernel) rfl
theorem gw1624 : (Jvm.Cond.selects "NotationPress$Table" ({ cls := "NotationPress$Table", name := "rowByLooking", desc := "(III)I" } : Jvm.MethodName) ({ cls := "NotationPress$Table", name := "rowByLooking", desc := "(III)I" } : Jvm.MethodName)) ∈ np_gw := np_gwi 1624 (by decide +kernel) rfl
theorem gw1625 : (Jvm.Cond.code ({ cls := "NotationPress$Table", name := "rowByLooking", desc := "(III)I" } : Jvm.MethodName) prog_8_method_14_code (6 : Nat) (Option.some Jvm.ClassFile.FieldType.int)) ∈ np_gw := np_gwi 1625 (by decide +kernel) rfl
theorem sw614 : (Jvm.Cond.stringRef "NotationPress" (98 : Nat) "no such slot") ∈ lw_tbl := List.mem_of_getElem? (i := 614) (by decide +kernel)
theorem sw656 : (Jvm.Cond.stringRef "NotationPress" (109 : Nat) "no such item") ∈ lw_tbl := List.mem_of_getElem? (i := 656) (by decide +kernel)
theorem sw676 : (Jvm.Cond.stringRef "NotationPress" (118 : Nat) "the draft is full") ∈ lw_tbl := List.mem_of_getElem? (i := 676) (by decide +kernel)
theorem sw697 : (Jvm.Cond.stringRef "NotationPress" (135 : Nat) "no more descriptions") ∈ lw_tbl := List.mem_of_getElem? (i := 697) (by decide +kernel)
theorem sw762 : (Jvm.Cond.stringRef "NotationPress" (151 : Nat) "no such description") ∈ lw_tbl := List.mem_of_getElem? (i := 762) (by decide +kernel)
theorem sw790 : (Jvm.Cond.stringRef "NotationPress" (163 : Nat) "no such constraint") ∈ lw_tbl := List.mem_of_getElem? (i := 790) (by decide +kernel)
theorem sw795 : (Jvm.Cond.stringRef "NotationPress" (166 : Nat) "no more constraints") ∈ lw_tbl := List.mem_of_getElem? (i := 795) (by decide +kernel)
theorem sw811 : (Jvm.Cond.stringRef "NotationPress" (176 : Nat) "no such slot or round") ∈ lw_tbl := List.mem_of_getElem? (i := 811) (by decide +kernel)
theorem sw856 : (Jvm.Cond.stringRef "NotationPress" (196 : Nat) "no such seed") ∈ lw_tbl := List.mem_of_getElem? (i := 856) (by decide +kernel)
theorem sw1036 : (Jvm.Cond.stringRef "NotationPress" (215 : Nat) "no such file") ∈ lw_tbl := List.mem_of_getElem? (i := 1036) (by decide +kernel)
theorem sw1040 : (Jvm.Cond.stringRef "NotationPress" (221 : Nat) "no such characters") ∈ lw_tbl := List.mem_of_getElem? (i := 1040) (by decide +kernel)
theorem sw1045 : (Jvm.Cond.stringRef "NotationPress" (226 : Nat) "the file takes no more") ∈ lw_tbl := List.mem_of_getElem? (i := 1045) (by decide +kernel)
theorem sw1058 : (Jvm.Cond.stringRef "NotationPress" (239 : Nat) "no record to be printed") ∈ lw_tbl := List.mem_of_getElem? (i := 1058) (by decide +kernel)
theorem sw1085 : (Jvm.Cond.stringRef "NotationPress" (251 : Nat) "no such unit") ∈ lw_tbl := List.mem_of_getElem? (i := 1085) (by decide +kernel)
theorem sw1097 : (Jvm.Cond.stringRef "NotationPress" (256 : Nat) "no such file or place") ∈ lw_tbl := List.mem_of_getElem? (i := 1097) (by decide +kernel)
theorem sw1211 : (Jvm.Cond.stringRef "NotationPress" (276 : Nat) "no such reading") ∈ lw_tbl := List.mem_of_getElem? (i := 1211) (by decide +kernel)
theorem sw1234 : (Jvm.Cond.stringRef "NotationPress" (298 : Nat) "no stream") ∈ lw_tbl := List.mem_of_getElem? (i := 1234) (by decide +kernel)
theorem sw1247 : (Jvm.Cond.stringRef "NotationPress" (304 : Nat) "no more rows") ∈ lw_tbl := List.mem_of_getElem? (i := 1247) (by decide +kernel)
theorem sw1303 : (Jvm.Cond.stringRef "NotationPress" (326 : Nat) "no such entry") ∈ lw_tbl := List.mem_of_getElem? (i := 1303) (by decide +kernel)
theorem sw1312 : (Jvm.Cond.stringRef "NotationPress" (334 : Nat) "no such file or row") ∈ lw_tbl := List.mem_of_getElem? (i := 1312) (by decide +kernel)
theorem sw1328 : (Jvm.Cond.stringRef "NotationPress" (342 : Nat) "no such file or slot") ∈ lw_tbl := List.mem_of_getElem? (i := 1328) (by decide +kernel)
theorem sw1329 : (Jvm.Cond.stringRef "NotationPress" (344 : Nat) "no such kind") ∈ lw_tbl := List.mem_of_getElem? (i := 1329) (by decide +kernel)
theorem sw1330 : (Jvm.Cond.stringRef "NotationPress" (346 : Nat) "no such window") ∈ lw_tbl := List.mem_of_getElem? (i := 1330) (by decide +kernel)
theorem sw1331 : (Jvm.Cond.stringRef "NotationPress" (351 : Nat) "no more columns") ∈ lw_tbl := List.mem_of_getElem? (i := 1331) (by decide +kernel)
theorem sw1352 : (Jvm.Cond.stringRef "NotationPress" (362 : Nat) "no such column or row") ∈ lw_tbl := List.mem_of_getElem? (i := 1352) (by decide +kernel)
theorem sw1419 : (Jvm.Cond.stringRef "NotationPress" (373 : Nat) "no such step") ∈ lw_tbl := List.mem_of_getElem? (i := 1419) (by decide +kernel)
theorem sw1440 : (Jvm.Cond.stringRef "NotationPress" (383 : Nat) "no more upgrades") ∈ lw_tbl := List.mem_of_getElem? (i := 1440) (by decide +kernel)
theorem sw1470 : (Jvm.Cond.stringRef "NotationPress" (397 : Nat) "no such upgrade") ∈ lw_tbl := List.mem_of_getElem? (i := 1470) (by decide +kernel)
theorem sw1544 : (Jvm.Cond.stringRef "NotationPress" (407 : Nat) "no such upgrade or slot") ∈ lw_tbl := List.mem_of_getElem? (i := 1544) (by decide +kernel)
theorem sw1610 : (Jvm.Cond.stringRef "NotationPress" (421 : Nat) "no such place") ∈ lw_tbl := List.mem_of_getElem? (i := 1610) (by decide +kernel)
set_option maxRecDepth 100000 in
set_option maxHeartbeats 4000000 in
theorem twX11_100 : ∀ w ∈ vx_atS RX11 100 (np_en 0) np_ens, w ∈ np_gw ∨ w ∈ np_nw := by
  have h : (vx_atS RX11 100 (np_en 0) np_ens).all (fun w => decide (w ∈ lw_tbl) && (goodWord w || np_isNest w)) = true := by decide +kernel
  intro w hw
  have h1 := List.all_eq_true.mp h w hw
  simp only [Bool.and_eq_true, decide_eq_true_eq, Bool.or_eq_true] at h1
  exact h1.2.elim (fun z => Or.inl (List.mem_filter.mpr ⟨h1.1, z⟩)) (fun z => Or.inr (List.mem_filter.mpr ⟨h1.1, z⟩))
set_option maxRecDepth 100000 in
set_option maxHeartbeats 4000000 in
theorem twX11_111 : ∀ w ∈ vx_atS RX11 111 (np_en 1) np_ens, w ∈ np_gw ∨ w ∈ np_nw := by
  have h : (vx_atS RX11 111 (np_en 1) np_ens).all (fun w => decide (w ∈ lw_tbl) && (goodWord w || np_isNest w)) = true := by decide +kernel
  intro w hw
  have h1 := List.all_eq_true.mp h w hw
  simp only [Bool.and_eq_true, decide_eq_true_eq, Bool.or_eq_true] at h1
  exact h1.2.elim (fun z => Or.inl (List.mem_filter.mpr ⟨h1.1, z⟩)) (fun z => Or.inr (List.mem_filter.mpr ⟨h1.1, z⟩))
set_option maxRecDepth 100000 in
set_option maxHeartbeats 4000000 in
theorem twX11_120 : ∀ w ∈ vx_atS RX11 120 (np_en 2) np_ens, w ∈ np_gw ∨ w ∈ np_nw := by
  have h : (vx_atS RX11 120 (np_en 2) np_ens).all (fun w => decide (w ∈ lw_tbl) && (goodWord w || np_isNest w)) = true := by decide +kernel
  intro w hw
  have h1 := List.all_eq_true.mp h w hw
  simp only [Bool.and_eq_true, decide_eq_true_eq, Bool.or_eq_true] at h1
  exact h1.2.elim (fun z => Or.inl (List.mem_filter.mpr ⟨h1.1, z⟩)) (fun z => Or.inr (List.mem_filter.mpr ⟨h1.1, z⟩))
theorem toX11_100_96 : ∀ w ∈ Cond.classLink RX11 96 (np_en 0) :: Cond.initialized (np_en 0) :: vx_atS RX11 100 (np_en 0) np_ens, vx_ot w = true := by
  have h : (Cond.classLink RX11 96 (np_en 0) :: Cond.initialized (np_en 0) :: vx_atS RX11 100 (np_en 0) np_ens).all vx_ot = true := by decide +kernel
  exact List.all_eq_true.mp h
theorem toX11_111_107 : ∀ w ∈ Cond.classLink RX11 107 (np_en 1) :: Cond.initialized (np_en 1) :: vx_atS RX11 111 (np_en 1) np_ens, vx_ot w = true := by
  have h : (Cond.classLink RX11 107 (np_en 1) :: Cond.initialized (np_en 1) :: vx_atS RX11 111 (np_en 1) np_ens).all vx_ot = true := by decide +kernel
  exact List.all_eq_true.mp h
theorem toX11_120_116 : ∀ w ∈ Cond.classLink RX11 116 (np_en 2) :: Cond.initialized (np_en 2) :: vx_atS RX11 120 (np_en 2) np_ens, vx_ot w = true := by
  have h : (Cond.classLink RX11 116 (np_en 2) :: Cond.initialized (np_en 2) :: vx_atS RX11 120 (np_en 2) np_ens).all vx_ot = true := by decide +kernel
  exact List.all_eq_true.mp h
theorem dX11_item_0 : decode cX11_item 0 = .ok (.iload_n 1, 1) := by decide +kernel
theorem dX11_item_1 : decode cX11_item 1 = .ok (.invokestatic 89, 3) := by decide +kernel
theorem dX11_item_4 : decode cX11_item 4 = .ok (.ifCond .eq 20, 3) := by decide +kernel
theorem dX11_item_7 : decode cX11_item 7 = .ok (.iload_n 2, 1) := by decide +kernel
theorem dX11_item_8 : decode cX11_item 8 = .ok (.invokestatic 93, 3) := by decide +kernel
theorem dX11_item_11 : decode cX11_item 11 = .ok (.ifCond .ne 13, 3) := by decide +kernel
theorem dX11_item_14 : decode cX11_item 14 = .ok (.new 96, 3) := by decide +kernel
theorem dX11_item_17 : decode cX11_item 17 = .ok (.dup, 1) := by decide +kernel
theorem dX11_item_18 : decode cX11_item 18 = .ok (.ldc 98, 2) := by decide +kernel
theorem dX11_item_20 : decode cX11_item 20 = .ok (.invokespecial 100, 3) := by decide +kernel
theorem dX11_item_23 : decode cX11_item 23 = .ok (.athrow, 1) := by decide +kernel
theorem dX11_item_24 : decode cX11_item 24 = .ok (.iload_n 1, 1) := by decide +kernel
theorem dX11_item_25 : decode cX11_item 25 = .ok (.iload_n 2, 1) := by decide +kernel
theorem dX11_item_26 : decode cX11_item 26 = .ok (.iload_n 3, 1) := by decide +kernel
theorem dX11_item_27 : decode cX11_item 27 = .ok (.iload 4, 2) := by decide +kernel
theorem dX11_item_29 : decode cX11_item 29 = .ok (.invokestatic 103, 3) := by decide +kernel
theorem dX11_item_32 : decode cX11_item 32 = .ok (.ifCond .ne 13, 3) := by decide +kernel
theorem dX11_item_35 : decode cX11_item 35 = .ok (.new 107, 3) := by decide +kernel
theorem dX11_item_38 : decode cX11_item 38 = .ok (.dup, 1) := by decide +kernel
theorem dX11_item_39 : decode cX11_item 39 = .ok (.ldc 109, 2) := by decide +kernel
theorem dX11_item_41 : decode cX11_item 41 = .ok (.invokespecial 111, 3) := by decide +kernel
theorem dX11_item_44 : decode cX11_item 44 = .ok (.athrow, 1) := by decide +kernel
theorem dX11_item_45 : decode cX11_item 45 = .ok (.aload_n 0, 1) := by decide +kernel
theorem dX11_item_46 : decode cX11_item 46 = .ok (.getfield 14, 3) := by decide +kernel
theorem dX11_item_49 : decode cX11_item 49 = .ok (.invokevirtual 112, 3) := by decide +kernel
theorem dX11_item_52 : decode cX11_item 52 = .ok (.ifCond .eq 13, 3) := by decide +kernel
theorem dX11_item_55 : decode cX11_item 55 = .ok (.new 116, 3) := by decide +kernel
theorem dX11_item_58 : decode cX11_item 58 = .ok (.dup, 1) := by decide +kernel
theorem dX11_item_59 : decode cX11_item 59 = .ok (.ldc 118, 2) := by decide +kernel
theorem dX11_item_61 : decode cX11_item 61 = .ok (.invokespecial 120, 3) := by decide +kernel
theorem dX11_item_64 : decode cX11_item 64 = .ok (.athrow, 1) := by decide +kernel
theorem dX11_item_65 : decode cX11_item 65 = .ok (.aload_n 0, 1) := by decide +kernel
theorem dX11_item_66 : decode cX11_item 66 = .ok (.getfield 14, 3) := by decide +kernel
theorem dX11_item_69 : decode cX11_item 69 = .ok (.iload_n 1, 1) := by decide +kernel
theorem dX11_item_70 : decode cX11_item 70 = .ok (.iload_n 2, 1) := by decide +kernel
theorem dX11_item_71 : decode cX11_item 71 = .ok (.iload_n 3, 1) := by decide +kernel
theorem dX11_item_72 : decode cX11_item 72 = .ok (.iload 4, 2) := by decide +kernel
theorem dX11_item_74 : decode cX11_item 74 = .ok (.invokevirtual 121, 3) := by decide +kernel
theorem dX11_item_77 : decode cX11_item 77 = .ok (.aload_n 0, 1) := by decide +kernel
theorem dX11_item_78 : decode cX11_item 78 = .ok (.getfield 14, 3) := by decide +kernel
theorem dX11_item_81 : decode cX11_item 81 = .ok (.getfield 125, 3) := by decide +kernel
theorem dX11_item_84 : decode cX11_item 84 = .ok (.ireturn, 1) := by decide +kernel
def is_X11_item (Rt : np_Rt) (Th : np_Th) : List (Nat × np_Op) := [(0, np_ild 1 1), (1, nq_call 1 sp_X2_tellsSlot 1 0 0 1 6), (4, nq_if (fun x => x = 0) 24), (7, np_ild 1 2), (8, nq_call 1 sp_X11_isSlot 1 0 0 1 6), (11, nq_ifne 24), (14, nq_throw Th 0), (24, np_ild 1 1), (25, np_ild 1 2), (26, np_ild 1 3), (27, np_ild 2 4), (29, nq_call 4 sp_X2_inRange 4 0 0 1 6), (32, nq_ifne 45), (35, nq_throw Th 1), (45, np_ald 1 0), (46, nq_getf 11 0), (49, nq_callV 2 1 sp_X2_isFull 1 0 0 1 6), (52, nq_if (fun x => x = 0) 65), (55, nq_throw Th 2), (65, np_ald 1 0), (66, nq_getf 11 0), (69, np_ild 1 1), (70, np_ild 1 2), (71, np_ild 1 3), (72, np_ild 2 4), (74, nq_callV 2 5 sp_X2_add 5 0 0 1 6), (77, np_ald 1 0), (78, nq_getf 11 0), (81, nq_getf 2 4), (84, np_ret Rt)]
set_option maxRecDepth 20000 in
theorem so_X11_item {X : np_Ctx} {Rt : np_Rt} {Th : np_Th} (hX : np_ok RX11 cX11_item 5 6 100 1 6 .ireturn X) (hR : ∀ st w ce sl, Rt st w ce sl → X.2.2.1 st w ce sl) (hT : ∀ i w ce sl, Th i w ce sl → X.2.2.2 i w ce sl) : ∀ q ∈ is_X11_item Rt Th, np_S X q.1 q.2 :=
  List.forall_mem_cons.mpr ⟨np_s_iload_n hX dX11_item_0 rfl, List.forall_mem_cons.mpr ⟨np_S.mono (op := np_call 1 sp_X2_tellsSlot 1 0 0 1 6) (np_s_callS hX C_X2_tellsSlot dX11_item_1 gw569 gw131 gw567 gw568 ⟨by decide, by decide, by decide⟩ (by decide) (by decide)) nq_call_le, List.forall_mem_cons.mpr ⟨np_S.mono (op := np_if (fun x => x = 0) 24) (np_s_if_eq hX dX11_item_4 (by decide)) nq_if_le, List.forall_mem_cons.mpr ⟨np_s_iload_n hX dX11_item_7 rfl, List.forall_mem_cons.mpr ⟨np_S.mono (op := np_call 1 sp_X11_isSlot 1 0 0 1 6) (np_s_callS hX C_X11_isSlot dX11_item_8 gw572 gw130 gw570 gw571 ⟨by decide, by decide, by decide⟩ (by decide) (by decide)) nq_call_le, List.forall_mem_cons.mpr ⟨np_S.mono (op := np_ifne 24) (np_s_if_ne hX dX11_item_11 (by decide)) nq_ifne_le, List.forall_mem_cons.mpr ⟨np_S.mono (op := np_throw X.2.2.2 0) (np_s_throw hX ⟨96, 98, 100, _, gw573, gw146, sw614, twX11_100, toX11_100_96, Or.inl ⟨dX11_item_14, dX11_item_17, dX11_item_18, dX11_item_20, dX11_item_23⟩⟩) (nq_throw_le hT), List.forall_mem_cons.mpr ⟨np_s_iload_n hX dX11_item_24 rfl, List.forall_mem_cons.mpr ⟨np_s_iload_n hX dX11_item_25 rfl, List.forall_mem_cons.mpr ⟨np_s_iload_n hX dX11_item_26 rfl, List.forall_mem_cons.mpr ⟨np_s_iload hX dX11_item_27, List.forall_mem_cons.mpr ⟨np_S.mono (op := np_call 4 sp_X2_inRange 4 0 0 1 6) (np_s_callS hX C_X2_inRange dX11_item_29 gw643 gw131 gw641 gw642 ⟨by decide, by decide, by decide⟩ (by decide) (by decide)) nq_call_le, List.forall_mem_cons.mpr ⟨np_S.mono (op := np_ifne 45) (np_s_if_ne hX dX11_item_32 (by decide)) nq_ifne_le, List.forall_mem_cons.mpr ⟨np_S.mono (op := np_throw X.2.2.2 1) (np_s_throw hX ⟨107, 109, 111, _, gw647, gw147, sw656, twX11_111, toX11_111_107, Or.inl ⟨dX11_item_35, dX11_item_38, dX11_item_39, dX11_item_41, dX11_item_44⟩⟩) (nq_throw_le hT), List.forall_mem_cons.mpr ⟨np_s_aload_n hX dX11_item_45 rfl, List.forall_mem_cons.mpr ⟨np_S.mono (op := np_getf 11 0) (np_s_getf hX dX11_item_46 (C := RX11) (T := TX11) (N := 14) rfl guX11 (by decide) gw506) nq_getf_le, List.forall_mem_cons.mpr ⟨np_S.mono (op := np_callV 2 1 sp_X2_isFull 1 0 0 1 6) (np_s_callV hX C_X2_isFull dX11_item_49 (q := (RX2, TX2, 5)) rfl rfl gw666 gw131 gw663 gw664 gw665 ⟨by decide, by decide, by decide⟩ (by decide) (by decide)) nq_callV_le, List.forall_mem_cons.mpr ⟨np_S.mono (op := np_if (fun x => x = 0) 65) (np_s_if_eq hX dX11_item_52 (by decide)) nq_if_le, List.forall_mem_cons.mpr ⟨np_S.mono (op := np_throw X.2.2.2 2) (np_s_throw hX ⟨116, 118, 120, _, gw667, gw148, sw676, twX11_120, toX11_120_116, Or.inl ⟨dX11_item_55, dX11_item_58, dX11_item_59, dX11_item_61, dX11_item_64⟩⟩) (nq_throw_le hT), List.forall_mem_cons.mpr ⟨np_s_aload_n hX dX11_item_65 rfl, List.forall_mem_cons.mpr ⟨np_S.mono (op := np_getf 11 0) (np_s_getf hX dX11_item_66 (C := RX11) (T := TX11) (N := 14) rfl guX11 (by decide) gw506) nq_getf_le, List.forall_mem_cons.mpr ⟨np_s_iload_n hX dX11_item_69 rfl, List.forall_mem_cons.mpr ⟨np_s_iload_n hX dX11_item_70 rfl, List.forall_mem_cons.mpr ⟨np_s_iload_n hX dX11_item_71 rfl, List.forall_mem_cons.mpr ⟨np_s_iload hX dX11_item_72, List.forall_mem_cons.mpr ⟨np_S.mono (op := np_callV 2 5 sp_X2_add 5 0 0 1 6) (np_s_callV hX C_X2_add dX11_item_74 (q := (RX2, TX2, 5)) rfl rfl gw686 gw131 gw683 gw684 gw685 ⟨by decide, by decide, by decide⟩ (by decide) (by decide)) nq_callV_le, List.forall_mem_cons.mpr ⟨np_s_aload_n hX dX11_item_77 rfl, List.forall_mem_cons.mpr ⟨np_S.mono (op := np_getf 11 0) (np_s_getf hX dX11_item_78 (C := RX11) (T := TX11) (N := 14) rfl guX11 (by decide) gw506) nq_getf_le, List.forall_mem_cons.mpr ⟨np_S.mono (op := np_getf 2 4) (np_s_getN hX dX11_item_81 (C := RX2) (T := TX2) (N := 5) rfl guX2 (by decide) gw169) nq_getf_le, List.forall_mem_cons.mpr ⟨np_S.mono (op := np_ret X.2.2.1) (np_s_ret hX dX11_item_84) (nq_ret_le hR), fun _ h => nomatch h⟩⟩⟩⟩⟩⟩⟩⟩⟩⟩⟩⟩⟩⟩⟩⟩⟩⟩⟩⟩⟩⟩⟩⟩⟩⟩⟩⟩⟩⟩
abbrev sp_X11_item : np_SpX := nq_inX is_X11_item (some .int) 1 6 400
theorem C_X11_item : np_CX yX11_item cX11_item 5 (some .int) 6 100 1 6 sp_X11_item := nq_inCX 400 (by decide) (by decide) (by decide) (fun X Rt Th hX hmn hR hT => so_X11_item hX hR hT)
theorem dX11_dropItems_0 : decode cX11_dropItems 0 = .ok (.aload_n 0, 1) := by decide +kernel
theorem dX11_dropItems_1 : decode cX11_dropItems 1 = .ok (.getfield 14, 3) := by decide +kernel
theorem dX11_dropItems_4 : decode cX11_dropItems 4 = .ok (.getfield 125, 3) := by decide +kernel
theorem dX11_dropItems_7 : decode cX11_dropItems 7 = .ok (.istore_n 1, 1) := by decide +kernel
theorem dX11_dropItems_8 : decode cX11_dropItems 8 = .ok (.aload_n 0, 1) := by decide +kernel
theorem dX11_dropItems_9 : decode cX11_dropItems 9 = .ok (.getfield 14, 3) := by decide +kernel
theorem dX11_dropItems_12 : decode cX11_dropItems 12 = .ok (.invokevirtual 129, 3) := by decide +kernel
theorem dX11_dropItems_15 : decode cX11_dropItems 15 = .ok (.iload_n 1, 1) := by decide +kernel
theorem dX11_dropItems_16 : decode cX11_dropItems 16 = .ok (.ireturn, 1) := by decide +kernel
def is_X11_dropItems (Rt : np_Rt) : List (Nat × np_Op) := [(0, np_ald 1 0), (1, nq_getf 11 0), (4, nq_getf 2 4), (7, np_ist 1 1), (8, np_ald 1 0), (9, nq_getf 11 0), (12, nq_callV 2 1 sp_X2_clear 1 0 0 0 0), (15, np_ild 1 1), (16, np_ret Rt)]
set_option maxRecDepth 20000 in
theorem so_X11_dropItems {X : np_Ctx} {Rt : np_Rt} (hX : np_ok RX11 cX11_dropItems 2 1 20 0 0 .ireturn X) (hR : ∀ st w ce sl, Rt st w ce sl → X.2.2.1 st w ce sl) : ∀ q ∈ is_X11_dropItems Rt, np_S X q.1 q.2 :=
  List.forall_mem_cons.mpr ⟨np_s_aload_n hX dX11_dropItems_0 rfl, List.forall_mem_cons.mpr ⟨np_S.mono (op := np_getf 11 0) (np_s_getf hX dX11_dropItems_1 (C := RX11) (T := TX11) (N := 14) rfl guX11 (by decide) gw506) nq_getf_le, List.forall_mem_cons.mpr ⟨np_S.mono (op := np_getf 2 4) (np_s_getN hX dX11_dropItems_4 (C := RX2) (T := TX2) (N := 5) rfl guX2 (by decide) gw169) nq_getf_le, List.forall_mem_cons.mpr ⟨np_s_istore_n hX dX11_dropItems_7 rfl (by decide), List.forall_mem_cons.mpr ⟨np_s_aload_n hX dX11_dropItems_8 rfl, List.forall_mem_cons.mpr ⟨np_S.mono (op := np_getf 11 0) (np_s_getf hX dX11_dropItems_9 (C := RX11) (T := TX11) (N := 14) rfl guX11 (by decide) gw506) nq_getf_le, List.forall_mem_cons.mpr ⟨np_S.mono (op := np_callV 2 1 sp_X2_clear 1 0 0 0 0) (np_s_callV hX C_X2_clear dX11_dropItems_12 (q := (RX2, TX2, 5)) rfl rfl gw556 gw131 gw553 gw554 gw555 ⟨by decide, by decide, by decide⟩ (by decide) (by decide)) nq_callV_le, List.forall_mem_cons.mpr ⟨np_s_iload_n hX dX11_dropItems_15 rfl, List.forall_mem_cons.mpr ⟨np_S.mono (op := np_ret X.2.2.1) (np_s_ret hX dX11_dropItems_16) (nq_ret_le hR), fun _ h => nomatch h⟩⟩⟩⟩⟩⟩⟩⟩⟩
abbrev sp_X11_dropItems : np_Sp := nq_in is_X11_dropItems (some .int) 0 0 400
theorem C_X11_dropItems : np_C yX11_dropItems cX11_dropItems 2 (some .int) 1 20 0 0 sp_X11_dropItems := nq_inC 400 (by decide) (fun X Rt hX hmn hR => so_X11_dropItems hX hR)
theorem dX11_description_0 : decode cX11_description 0 = .ok (.aload_n 0, 1) := by decide +kernel
theorem dX11_description_1 : decode cX11_description 1 = .ok (.getfield 132, 3) := by decide +kernel
theorem dX11_description_4 : decode cX11_description 4 = .ok (.aload_n 0, 1) := by decide +kernel
theorem dX11_description_5 : decode cX11_description 5 = .ok (.getfield 20, 3) := by decide +kernel
theorem dX11_description_8 : decode cX11_description 8 = .ok (.arraylength, 1) := by decide +kernel
theorem dX11_description_9 : decode cX11_description 9 = .ok (.if_icmp .lt 13, 3) := by decide +kernel
theorem dX11_description_12 : decode cX11_description 12 = .ok (.new 116, 3) := by decide +kernel
theorem dX11_description_15 : decode cX11_description 15 = .ok (.dup, 1) := by decide +kernel
theorem dX11_description_16 : decode cX11_description 16 = .ok (.ldc 135, 2) := by decide +kernel
theorem dX11_description_18 : decode cX11_description 18 = .ok (.invokespecial 120, 3) := by decide +kernel
theorem dX11_description_21 : decode cX11_description 21 = .ok (.athrow, 1) := by decide +kernel
theorem dX11_description_22 : decode cX11_description 22 = .ok (.aload_n 0, 1) := by decide +kernel
theorem dX11_description_23 : decode cX11_description 23 = .ok (.getfield 20, 3) := by decide +kernel
theorem dX11_description_26 : decode cX11_description 26 = .ok (.aload_n 0, 1) := by decide +kernel
theorem dX11_description_27 : decode cX11_description 27 = .ok (.getfield 132, 3) := by decide +kernel
theorem dX11_description_30 : decode cX11_description 30 = .ok (.aaload, 1) := by decide +kernel
theorem dX11_description_31 : decode cX11_description 31 = .ok (.astore_n 1, 1) := by decide +kernel
theorem dX11_description_32 : decode cX11_description 32 = .ok (.aload_n 1, 1) := by decide +kernel
theorem dX11_description_33 : decode cX11_description 33 = .ok (.ifnull 13, 3) := by decide +kernel
theorem dX11_description_36 : decode cX11_description 36 = .ok (.aload_n 0, 1) := by decide +kernel
theorem dX11_description_37 : decode cX11_description 37 = .ok (.getfield 14, 3) := by decide +kernel
theorem dX11_description_40 : decode cX11_description 40 = .ok (.invokevirtual 137, 3) := by decide +kernel
theorem dX11_description_43 : decode cX11_description 43 = .ok (.ifCond .ne 5, 3) := by decide +kernel
theorem dX11_description_46 : decode cX11_description 46 = .ok (.iconst (-1), 1) := by decide +kernel
theorem dX11_description_47 : decode cX11_description 47 = .ok (.ireturn, 1) := by decide +kernel
theorem dX11_description_48 : decode cX11_description 48 = .ok (.aload_n 1, 1) := by decide +kernel
theorem dX11_description_49 : decode cX11_description 49 = .ok (.getfield 140, 3) := by decide +kernel
theorem dX11_description_52 : decode cX11_description 52 = .ok (.aload_n 0, 1) := by decide +kernel
theorem dX11_description_53 : decode cX11_description 53 = .ok (.getfield 14, 3) := by decide +kernel
theorem dX11_description_56 : decode cX11_description 56 = .ok (.invokevirtual 143, 3) := by decide +kernel
theorem dX11_description_59 : decode cX11_description 59 = .ok (.aload_n 0, 1) := by decide +kernel
theorem dX11_description_60 : decode cX11_description 60 = .ok (.getfield 14, 3) := by decide +kernel
theorem dX11_description_63 : decode cX11_description 63 = .ok (.invokevirtual 129, 3) := by decide +kernel
theorem dX11_description_66 : decode cX11_description 66 = .ok (.aload_n 0, 1) := by decide +kernel
theorem dX11_description_67 : decode cX11_description 67 = .ok (.dup, 1) := by decide +kernel
theorem dX11_description_68 : decode cX11_description 68 = .ok (.getfield 132, 3) := by decide +kernel
theorem dX11_description_71 : decode cX11_description 71 = .ok (.iconst 1, 1) := by decide +kernel
theorem dX11_description_72 : decode cX11_description 72 = .ok (.iadd, 1) := by decide +kernel
theorem dX11_description_73 : decode cX11_description 73 = .ok (.putfield 132, 3) := by decide +kernel
theorem dX11_description_76 : decode cX11_description 76 = .ok (.aload_n 0, 1) := by decide +kernel
theorem dX11_description_77 : decode cX11_description 77 = .ok (.getfield 132, 3) := by decide +kernel
theorem dX11_description_80 : decode cX11_description 80 = .ok (.iconst 1, 1) := by decide +kernel
theorem dX11_description_81 : decode cX11_description 81 = .ok (.isub, 1) := by decide +kernel
theorem dX11_description_82 : decode cX11_description 82 = .ok (.ireturn, 1) := by decide +kernel
def is_X11_description (Rt : np_Rt) (Th : np_Th) : List (Nat × np_Op) := [(0, np_ald 1 0), (1, nq_getf 11 2), (4, np_ald 1 0), (5, nq_getf 11 1), (8, np_alen), (9, nq_ic (fun x y => x < y) 22), (12, nq_throw Th 2), (22, np_ald 1 0), (23, nq_getf 11 1), (26, np_ald 1 0), (27, nq_getf 11 2), (30, nq_aald "NotationPress$Description"), (31, np_ast 1 1), (32, np_ald 1 1), (33, np_ifnull 46), (36, np_ald 1 0), (37, nq_getf 11 0), (40, nq_callV 2 1 sp_X2_isDescription 2 0 0 1 6), (43, nq_ifne 48), (46, np_push 1 (.int (-1))), (47, np_ret Rt), (48, np_ald 1 1), (49, nq_getf 1 0), (52, np_ald 1 0), (53, nq_getf 11 0), (59, np_ald 1 0), (60, nq_getf 11 0), (63, nq_callV 2 1 sp_X2_clear 1 0 0 1 6), (66, np_ald 1 0), (67, nq_dup), (68, nq_getf 11 2), (71, np_push 1 (.int 1)), (72, np_ib (fun x y => x + y)), (73, nq_putf 11 2 (.int)), (76, np_ald 1 0), (77, nq_getf 11 2), (80, np_push 1 (.int 1)), (81, np_ib (fun x y => x - y)), (82, np_ret Rt)]
set_option maxRecDepth 20000 in
theorem so_X11_description {X : np_Ctx} {Rt : np_Rt} {Th : np_Th} (hX : np_ok RX11 cX11_description 2 6 100 1 6 .ireturn X) (hR : ∀ st w ce sl, Rt st w ce sl → X.2.2.1 st w ce sl) (hT : ∀ i w ce sl, Th i w ce sl → X.2.2.2 i w ce sl) : ∀ q ∈ is_X11_description Rt Th, np_S X q.1 q.2 :=
  List.forall_mem_cons.mpr ⟨np_s_aload_n hX dX11_description_0 rfl, List.forall_mem_cons.mpr ⟨np_S.mono (op := np_getf 11 2) (np_s_getf hX dX11_description_1 (C := RX11) (T := TX11) (N := 14) rfl guX11 (by decide) gw508) nq_getf_le, List.forall_mem_cons.mpr ⟨np_s_aload_n hX dX11_description_4 rfl, List.forall_mem_cons.mpr ⟨np_S.mono (op := np_getf 11 1) (np_s_getf hX dX11_description_5 (C := RX11) (T := TX11) (N := 14) rfl guX11 (by decide) gw507) nq_getf_le, List.forall_mem_cons.mpr ⟨np_s_alen hX dX11_description_8, List.forall_mem_cons.mpr ⟨np_S.mono (op := np_ic (fun x y => x < y) 22) (np_s_icmp_lt hX dX11_description_9 (by decide)) nq_ic_le, List.forall_mem_cons.mpr ⟨np_S.mono (op := np_throw X.2.2.2 2) (np_s_throw hX ⟨116, 135, 120, _, gw667, gw148, sw697, twX11_120, toX11_120_116, Or.inl ⟨dX11_description_12, dX11_description_15, dX11_description_16, dX11_description_18, dX11_description_21⟩⟩) (nq_throw_le hT), List.forall_mem_cons.mpr ⟨np_s_aload_n hX dX11_description_22 rfl, List.forall_mem_cons.mpr ⟨np_S.mono (op := np_getf 11 1) (np_s_getf hX dX11_description_23 (C := RX11) (T := TX11) (N := 14) rfl guX11 (by decide) gw507) nq_getf_le, List.forall_mem_cons.mpr ⟨np_s_aload_n hX dX11_description_26 rfl, List.forall_mem_cons.mpr ⟨np_S.mono (op := np_getf 11 2) (np_s_getf hX dX11_description_27 (C := RX11) (T := TX11) (N := 14) rfl guX11 (by decide) gw508) nq_getf_le, List.forall_mem_cons.mpr ⟨np_S.mono (op := np_aald "NotationPress$Description") (np_s_aald hX dX11_description_30) nq_aald_le, List.forall_mem_cons.mpr ⟨np_s_astore_n hX dX11_description_31 rfl (by decide), List.forall_mem_cons.mpr ⟨np_s_aload_n hX dX11_description_32 rfl, List.forall_mem_cons.mpr ⟨np_s_ifnull hX dX11_description_33 (by decide), List.forall_mem_cons.mpr ⟨np_s_aload_n hX dX11_description_36 rfl, List.forall_mem_cons.mpr ⟨np_S.mono (op := np_getf 11 0) (np_s_getf hX dX11_description_37 (C := RX11) (T := TX11) (N := 14) rfl guX11 (by decide) gw506) nq_getf_le, List.forall_mem_cons.mpr ⟨np_S.mono (op := np_callV 2 1 sp_X2_isDescription 2 0 0 1 6) (np_s_callV hX C_X2_isDescription dX11_description_40 (q := (RX2, TX2, 5)) rfl rfl gw701 gw131 gw698 gw699 gw700 ⟨by decide, by decide, by decide⟩ (by decide) (by decide)) nq_callV_le, List.forall_mem_cons.mpr ⟨np_S.mono (op := np_ifne 48) (np_s_if_ne hX dX11_description_43 (by decide)) nq_ifne_le, List.forall_mem_cons.mpr ⟨np_s_iconst hX dX11_description_46 (by decide), List.forall_mem_cons.mpr ⟨np_S.mono (op := np_ret X.2.2.1) (np_s_ret hX dX11_description_47) (nq_ret_le hR), List.forall_mem_cons.mpr ⟨np_s_aload_n hX dX11_description_48 rfl, List.forall_mem_cons.mpr ⟨np_S.mono (op := np_getf 1 0) (np_s_getN hX dX11_description_49 (C := RX1) (T := TX1) (N := 7) rfl guX1 (by decide) gw380) nq_getf_le, List.forall_mem_cons.mpr ⟨np_s_aload_n hX dX11_description_52 rfl, List.forall_mem_cons.mpr ⟨np_S.mono (op := np_getf 11 0) (np_s_getf hX dX11_description_53 (C := RX11) (T := TX11) (N := 14) rfl guX11 (by decide) gw506) nq_getf_le, List.forall_mem_cons.mpr ⟨np_s_aload_n hX dX11_description_59 rfl, List.forall_mem_cons.mpr ⟨np_S.mono (op := np_getf 11 0) (np_s_getf hX dX11_description_60 (C := RX11) (T := TX11) (N := 14) rfl guX11 (by decide) gw506) nq_getf_le, List.forall_mem_cons.mpr ⟨np_S.mono (op := np_callV 2 1 sp_X2_clear 1 0 0 1 6) (np_s_callV hX C_X2_clear dX11_description_63 (q := (RX2, TX2, 5)) rfl rfl gw556 gw131 gw553 gw554 gw555 ⟨by decide, by decide, by decide⟩ (by decide) (by decide)) nq_callV_le, List.forall_mem_cons.mpr ⟨np_s_aload_n hX dX11_description_66 rfl, List.forall_mem_cons.mpr ⟨np_S.mono (op := np_dup) (np_s_dup hX dX11_description_67) nq_dup_le, List.forall_mem_cons.mpr ⟨np_S.mono (op := np_getf 11 2) (np_s_getf hX dX11_description_68 (C := RX11) (T := TX11) (N := 14) rfl guX11 (by decide) gw508) nq_getf_le, List.forall_mem_cons.mpr ⟨np_s_iconst hX dX11_description_71 (by decide), List.forall_mem_cons.mpr ⟨np_s_iadd hX dX11_description_72, List.forall_mem_cons.mpr ⟨np_S.mono (op := np_putf 11 2 (.int)) (np_s_putf hX dX11_description_73 (C := RX11) (T := TX11) (N := 14) (ty0 := tyX11) rfl guX11 tyX11_ok nmX11 (by decide) gw508 rfl rfl) nq_putf_le, List.forall_mem_cons.mpr ⟨np_s_aload_n hX dX11_description_76 rfl, List.forall_mem_cons.mpr ⟨np_S.mono (op := np_getf 11 2) (np_s_getf hX dX11_description_77 (C := RX11) (T := TX11) (N := 14) rfl guX11 (by decide) gw508) nq_getf_le, List.forall_mem_cons.mpr ⟨np_s_iconst hX dX11_description_80 (by decide), List.forall_mem_cons.mpr ⟨np_s_isub hX dX11_description_81, List.forall_mem_cons.mpr ⟨np_S.mono (op := np_ret X.2.2.1) (np_s_ret hX dX11_description_82) (nq_ret_le hR), fun _ h => nomatch h⟩⟩⟩⟩⟩⟩⟩⟩⟩⟩⟩⟩⟩⟩⟩⟩⟩⟩⟩⟩⟩⟩⟩⟩⟩⟩⟩⟩⟩⟩⟩⟩⟩⟩⟩⟩⟩⟩⟩
abbrev sp_X11_description : np_SpX := nq_inX is_X11_description (some .int) 1 6 400
theorem C_X11_description : np_CX yX11_description cX11_description 2 (some .int) 6 100 1 6 sp_X11_description := nq_inCX 400 (by decide) (by decide) (by decide) (fun X Rt Th hX hmn hR hT => so_X11_description hX hR hT)
theorem dX11_sure_0 : decode cX11_sure 0 = .ok (.aload_n 0, 1) := by decide +kernel
theorem dX11_sure_1 : decode cX11_sure 1 = .ok (.iload_n 1, 1) := by decide +kernel
theorem dX11_sure_2 : decode cX11_sure 2 = .ok (.invokevirtual 147, 3) := by decide +kernel
theorem dX11_sure_5 : decode cX11_sure 5 = .ok (.astore_n 2, 1) := by decide +kernel
theorem dX11_sure_6 : decode cX11_sure 6 = .ok (.aload_n 2, 1) := by decide +kernel
theorem dX11_sure_7 : decode cX11_sure 7 = .ok (.ifnonnull 13, 3) := by decide +kernel
theorem dX11_sure_10 : decode cX11_sure 10 = .ok (.new 96, 3) := by decide +kernel
theorem dX11_sure_13 : decode cX11_sure 13 = .ok (.dup, 1) := by decide +kernel
theorem dX11_sure_14 : decode cX11_sure 14 = .ok (.ldc 151, 2) := by decide +kernel
theorem dX11_sure_16 : decode cX11_sure 16 = .ok (.invokespecial 100, 3) := by decide +kernel
theorem dX11_sure_19 : decode cX11_sure 19 = .ok (.athrow, 1) := by decide +kernel
theorem dX11_sure_20 : decode cX11_sure 20 = .ok (.aload_n 2, 1) := by decide +kernel
theorem dX11_sure_21 : decode cX11_sure 21 = .ok (.getfield 140, 3) := by decide +kernel
theorem dX11_sure_24 : decode cX11_sure 24 = .ok (.invokevirtual 153, 3) := by decide +kernel
theorem dX11_sure_27 : decode cX11_sure 27 = .ok (.ireturn, 1) := by decide +kernel
def is_X11_sure (Rt : np_Rt) (Th : np_Th) : List (Nat × np_Op) := [(0, np_ald 1 0), (1, np_ild 1 1), (2, nq_callV 11 2 sp_X11_descriptionOf 3 0 0 1 6), (5, np_ast 1 2), (6, np_ald 1 2), (7, np_ifnonnull 20), (10, nq_throw Th 0), (20, np_ald 1 2), (21, nq_getf 1 0), (27, np_ret Rt)]
set_option maxRecDepth 20000 in
theorem so_X11_sure {X : np_Ctx} {Rt : np_Rt} {Th : np_Th} (hX : np_ok RX11 cX11_sure 3 6 100 1 6 .ireturn X) (hR : ∀ st w ce sl, Rt st w ce sl → X.2.2.1 st w ce sl) (hT : ∀ i w ce sl, Th i w ce sl → X.2.2.2 i w ce sl) : ∀ q ∈ is_X11_sure Rt Th, np_S X q.1 q.2 :=
  List.forall_mem_cons.mpr ⟨np_s_aload_n hX dX11_sure_0 rfl, List.forall_mem_cons.mpr ⟨np_s_iload_n hX dX11_sure_1 rfl, List.forall_mem_cons.mpr ⟨np_S.mono (op := np_callV 11 2 sp_X11_descriptionOf 3 0 0 1 6) (np_s_callV hX C_X11_descriptionOf dX11_sure_2 (q := (RX11, TX11, 14)) rfl rfl gw761 gw130 gw758 gw760 gw3 ⟨by decide, by decide, by decide⟩ (by decide) (by decide)) nq_callV_le, List.forall_mem_cons.mpr ⟨np_s_astore_n hX dX11_sure_5 rfl (by decide), List.forall_mem_cons.mpr ⟨np_s_aload_n hX dX11_sure_6 rfl, List.forall_mem_cons.mpr ⟨np_s_ifnonnull hX dX11_sure_7 (by decide), List.forall_mem_cons.mpr ⟨np_S.mono (op := np_throw X.2.2.2 0) (np_s_throw hX ⟨96, 151, 100, _, gw573, gw146, sw762, twX11_100, toX11_100_96, Or.inl ⟨dX11_sure_10, dX11_sure_13, dX11_sure_14, dX11_sure_16, dX11_sure_19⟩⟩) (nq_throw_le hT), List.forall_mem_cons.mpr ⟨np_s_aload_n hX dX11_sure_20 rfl, List.forall_mem_cons.mpr ⟨np_S.mono (op := np_getf 1 0) (np_s_getN hX dX11_sure_21 (C := RX1) (T := TX1) (N := 7) rfl guX1 (by decide) gw380) nq_getf_le, List.forall_mem_cons.mpr ⟨np_S.mono (op := np_ret X.2.2.1) (np_s_ret hX dX11_sure_27) (nq_ret_le hR), fun _ h => nomatch h⟩⟩⟩⟩⟩⟩⟩⟩⟩⟩
abbrev sp_X11_sure : np_SpX := nq_inX is_X11_sure (some .int) 1 6 400
theorem C_X11_sure : np_CX yX11_sure cX11_sure 3 (some .int) 6 100 1 6 sp_X11_sure := nq_inCX 400 (by decide) (by decide) (by decide) (fun X Rt Th hX hmn hR hT => so_X11_sure hX hR hT)
theorem dX11_constrain_0 : decode cX11_constrain 0 = .ok (.aload_n 0, 1) := by decide +kernel
theorem dX11_constrain_1 : decode cX11_constrain 1 = .ok (.iload_n 1, 1) := by decide +kernel
theorem dX11_constrain_2 : decode cX11_constrain 2 = .ok (.invokevirtual 147, 3) := by decide +kernel
theorem dX11_constrain_5 : decode cX11_constrain 5 = .ok (.astore 7, 2) := by decide +kernel
theorem dX11_constrain_7 : decode cX11_constrain 7 = .ok (.aload 7, 2) := by decide +kernel
theorem dX11_constrain_9 : decode cX11_constrain 9 = .ok (.ifnonnull 13, 3) := by decide +kernel
theorem dX11_constrain_12 : decode cX11_constrain 12 = .ok (.new 96, 3) := by decide +kernel
theorem dX11_constrain_15 : decode cX11_constrain 15 = .ok (.dup, 1) := by decide +kernel
theorem dX11_constrain_16 : decode cX11_constrain 16 = .ok (.ldc 151, 2) := by decide +kernel
theorem dX11_constrain_18 : decode cX11_constrain 18 = .ok (.invokespecial 100, 3) := by decide +kernel
theorem dX11_constrain_21 : decode cX11_constrain 21 = .ok (.athrow, 1) := by decide +kernel
theorem dX11_constrain_22 : decode cX11_constrain 22 = .ok (.iload_n 2, 1) := by decide +kernel
theorem dX11_constrain_23 : decode cX11_constrain 23 = .ok (.iload_n 3, 1) := by decide +kernel
theorem dX11_constrain_24 : decode cX11_constrain 24 = .ok (.iload 4, 2) := by decide +kernel
theorem dX11_constrain_26 : decode cX11_constrain 26 = .ok (.iload 5, 2) := by decide +kernel
theorem dX11_constrain_28 : decode cX11_constrain 28 = .ok (.invokestatic 157, 3) := by decide +kernel
theorem dX11_constrain_31 : decode cX11_constrain 31 = .ok (.ifCond .ne 13, 3) := by decide +kernel
theorem dX11_constrain_34 : decode cX11_constrain 34 = .ok (.new 96, 3) := by decide +kernel
theorem dX11_constrain_37 : decode cX11_constrain 37 = .ok (.dup, 1) := by decide +kernel
theorem dX11_constrain_38 : decode cX11_constrain 38 = .ok (.ldc 98, 2) := by decide +kernel
theorem dX11_constrain_40 : decode cX11_constrain 40 = .ok (.invokespecial 100, 3) := by decide +kernel
theorem dX11_constrain_43 : decode cX11_constrain 43 = .ok (.athrow, 1) := by decide +kernel
theorem dX11_constrain_44 : decode cX11_constrain 44 = .ok (.aload 7, 2) := by decide +kernel
theorem dX11_constrain_46 : decode cX11_constrain 46 = .ok (.iload_n 2, 1) := by decide +kernel
theorem dX11_constrain_47 : decode cX11_constrain 47 = .ok (.iload_n 3, 1) := by decide +kernel
theorem dX11_constrain_48 : decode cX11_constrain 48 = .ok (.iload 4, 2) := by decide +kernel
theorem dX11_constrain_50 : decode cX11_constrain 50 = .ok (.iload 5, 2) := by decide +kernel
theorem dX11_constrain_52 : decode cX11_constrain 52 = .ok (.invokevirtual 160, 3) := by decide +kernel
theorem dX11_constrain_55 : decode cX11_constrain 55 = .ok (.ifCond .eq 16, 3) := by decide +kernel
theorem dX11_constrain_58 : decode cX11_constrain 58 = .ok (.iload 6, 2) := by decide +kernel
theorem dX11_constrain_60 : decode cX11_constrain 60 = .ok (.iconst 1, 1) := by decide +kernel
theorem dX11_constrain_61 : decode cX11_constrain 61 = .ok (.if_icmp .lt 10, 3) := by decide +kernel
theorem dX11_constrain_64 : decode cX11_constrain 64 = .ok (.iload 6, 2) := by decide +kernel
theorem dX11_constrain_66 : decode cX11_constrain 66 = .ok (.bipush 99, 2) := by decide +kernel
theorem dX11_constrain_68 : decode cX11_constrain 68 = .ok (.if_icmp .le 13, 3) := by decide +kernel
theorem dX11_constrain_71 : decode cX11_constrain 71 = .ok (.new 107, 3) := by decide +kernel
theorem dX11_constrain_74 : decode cX11_constrain 74 = .ok (.dup, 1) := by decide +kernel
theorem dX11_constrain_75 : decode cX11_constrain 75 = .ok (.ldc 163, 2) := by decide +kernel
theorem dX11_constrain_77 : decode cX11_constrain 77 = .ok (.invokespecial 111, 3) := by decide +kernel
theorem dX11_constrain_80 : decode cX11_constrain 80 = .ok (.athrow, 1) := by decide +kernel
theorem dX11_constrain_81 : decode cX11_constrain 81 = .ok (.aload 7, 2) := by decide +kernel
theorem dX11_constrain_83 : decode cX11_constrain 83 = .ok (.invokevirtual 165, 3) := by decide +kernel
theorem dX11_constrain_86 : decode cX11_constrain 86 = .ok (.ifCond .eq 13, 3) := by decide +kernel
theorem dX11_constrain_89 : decode cX11_constrain 89 = .ok (.new 116, 3) := by decide +kernel
theorem dX11_constrain_92 : decode cX11_constrain 92 = .ok (.dup, 1) := by decide +kernel
theorem dX11_constrain_93 : decode cX11_constrain 93 = .ok (.ldc 166, 2) := by decide +kernel
theorem dX11_constrain_95 : decode cX11_constrain 95 = .ok (.invokespecial 120, 3) := by decide +kernel
theorem dX11_constrain_98 : decode cX11_constrain 98 = .ok (.athrow, 1) := by decide +kernel
theorem dX11_constrain_99 : decode cX11_constrain 99 = .ok (.aload 7, 2) := by decide +kernel
theorem dX11_constrain_101 : decode cX11_constrain 101 = .ok (.iload_n 2, 1) := by decide +kernel
theorem dX11_constrain_102 : decode cX11_constrain 102 = .ok (.iload_n 3, 1) := by decide +kernel
theorem dX11_constrain_103 : decode cX11_constrain 103 = .ok (.iload 4, 2) := by decide +kernel
theorem dX11_constrain_105 : decode cX11_constrain 105 = .ok (.iload 5, 2) := by decide +kernel
theorem dX11_constrain_107 : decode cX11_constrain 107 = .ok (.iload 6, 2) := by decide +kernel
theorem dX11_constrain_109 : decode cX11_constrain 109 = .ok (.invokevirtual 168, 3) := by decide +kernel
theorem dX11_constrain_112 : decode cX11_constrain 112 = .ok (.aload 7, 2) := by decide +kernel
theorem dX11_constrain_114 : decode cX11_constrain 114 = .ok (.getfield 171, 3) := by decide +kernel
theorem dX11_constrain_117 : decode cX11_constrain 117 = .ok (.ireturn, 1) := by decide +kernel
def is_X11_constrain (Rt : np_Rt) (Th : np_Th) : List (Nat × np_Op) := [(0, np_ald 1 0), (1, np_ild 1 1), (2, nq_callV 11 2 sp_X11_descriptionOf 3 0 0 1 6), (5, np_ast 2 7), (7, np_ald 2 7), (9, np_ifnonnull 22), (12, nq_throw Th 0), (22, np_ild 1 2), (23, np_ild 1 3), (24, np_ild 2 4), (26, np_ild 2 5), (31, nq_ifne 44), (34, nq_throw Th 0), (44, np_ald 2 7), (46, np_ild 1 2), (47, np_ild 1 3), (48, np_ild 2 4), (50, np_ild 2 5), (55, nq_if (fun x => x = 0) 71), (58, np_ild 2 6), (60, np_push 1 (.int 1)), (61, nq_ic (fun x y => x < y) 71), (64, np_ild 2 6), (66, np_push 2 (.int 99)), (68, nq_ic (fun x y => x ≤ y) 81), (71, nq_throw Th 1), (81, np_ald 2 7), (86, nq_if (fun x => x = 0) 99), (89, nq_throw Th 2), (99, np_ald 2 7), (101, np_ild 1 2), (102, np_ild 1 3), (103, np_ild 2 4), (105, np_ild 2 5), (107, np_ild 2 6), (112, np_ald 2 7), (114, nq_getf 1 6), (117, np_ret Rt)]
set_option maxRecDepth 20000 in
theorem so_X11_constrain {X : np_Ctx} {Rt : np_Rt} {Th : np_Th} (hX : np_ok RX11 cX11_constrain 8 6 100 1 6 .ireturn X) (hR : ∀ st w ce sl, Rt st w ce sl → X.2.2.1 st w ce sl) (hT : ∀ i w ce sl, Th i w ce sl → X.2.2.2 i w ce sl) : ∀ q ∈ is_X11_constrain Rt Th, np_S X q.1 q.2 :=
  List.forall_mem_cons.mpr ⟨np_s_aload_n hX dX11_constrain_0 rfl, List.forall_mem_cons.mpr ⟨np_s_iload_n hX dX11_constrain_1 rfl, List.forall_mem_cons.mpr ⟨np_S.mono (op := np_callV 11 2 sp_X11_descriptionOf 3 0 0 1 6) (np_s_callV hX C_X11_descriptionOf dX11_constrain_2 (q := (RX11, TX11, 14)) rfl rfl gw761 gw130 gw758 gw760 gw3 ⟨by decide, by decide, by decide⟩ (by decide) (by decide)) nq_callV_le, List.forall_mem_cons.mpr ⟨np_s_astore hX dX11_constrain_5 (by decide), List.forall_mem_cons.mpr ⟨np_s_aload hX dX11_constrain_7, List.forall_mem_cons.mpr ⟨np_s_ifnonnull hX dX11_constrain_9 (by decide), List.forall_mem_cons.mpr ⟨np_S.mono (op := np_throw X.2.2.2 0) (np_s_throw hX ⟨96, 151, 100, _, gw573, gw146, sw762, twX11_100, toX11_100_96, Or.inl ⟨dX11_constrain_12, dX11_constrain_15, dX11_constrain_16, dX11_constrain_18, dX11_constrain_21⟩⟩) (nq_throw_le hT), List.forall_mem_cons.mpr ⟨np_s_iload_n hX dX11_constrain_22 rfl, List.forall_mem_cons.mpr ⟨np_s_iload_n hX dX11_constrain_23 rfl, List.forall_mem_cons.mpr ⟨np_s_iload hX dX11_constrain_24, List.forall_mem_cons.mpr ⟨np_s_iload hX dX11_constrain_26, List.forall_mem_cons.mpr ⟨np_S.mono (op := np_ifne 44) (np_s_if_ne hX dX11_constrain_31 (by decide)) nq_ifne_le, List.forall_mem_cons.mpr ⟨np_S.mono (op := np_throw X.2.2.2 0) (np_s_throw hX ⟨96, 98, 100, _, gw573, gw146, sw614, twX11_100, toX11_100_96, Or.inl ⟨dX11_constrain_34, dX11_constrain_37, dX11_constrain_38, dX11_constrain_40, dX11_constrain_43⟩⟩) (nq_throw_le hT), List.forall_mem_cons.mpr ⟨np_s_aload hX dX11_constrain_44, List.forall_mem_cons.mpr ⟨np_s_iload_n hX dX11_constrain_46 rfl, List.forall_mem_cons.mpr ⟨np_s_iload_n hX dX11_constrain_47 rfl, List.forall_mem_cons.mpr ⟨np_s_iload hX dX11_constrain_48, List.forall_mem_cons.mpr ⟨np_s_iload hX dX11_constrain_50, List.forall_mem_cons.mpr ⟨np_S.mono (op := np_if (fun x => x = 0) 71) (np_s_if_eq hX dX11_constrain_55 (by decide)) nq_if_le, List.forall_mem_cons.mpr ⟨np_s_iload hX dX11_constrain_58, List.forall_mem_cons.mpr ⟨np_s_iconst hX dX11_constrain_60 (by decide), List.forall_mem_cons.mpr ⟨np_S.mono (op := np_ic (fun x y => x < y) 71) (np_s_icmp_lt hX dX11_constrain_61 (by decide)) nq_ic_le, List.forall_mem_cons.mpr ⟨np_s_iload hX dX11_constrain_64, List.forall_mem_cons.mpr ⟨np_s_bipush hX dX11_constrain_66 (by decide), List.forall_mem_cons.mpr ⟨np_S.mono (op := np_ic (fun x y => x ≤ y) 81) (np_s_icmp_le hX dX11_constrain_68 (by decide)) nq_ic_le, List.forall_mem_cons.mpr ⟨np_S.mono (op := np_throw X.2.2.2 1) (np_s_throw hX ⟨107, 163, 111, _, gw647, gw147, sw790, twX11_111, toX11_111_107, Or.inl ⟨dX11_constrain_71, dX11_constrain_74, dX11_constrain_75, dX11_constrain_77, dX11_constrain_80⟩⟩) (nq_throw_le hT), List.forall_mem_cons.mpr ⟨np_s_aload hX dX11_constrain_81, List.forall_mem_cons.mpr ⟨np_S.mono (op := np_if (fun x => x = 0) 99) (np_s_if_eq hX dX11_constrain_86 (by decide)) nq_if_le, List.forall_mem_cons.mpr ⟨np_S.mono (op := np_throw X.2.2.2 2) (np_s_throw hX ⟨116, 166, 120, _, gw667, gw148, sw795, twX11_120, toX11_120_116, Or.inl ⟨dX11_constrain_89, dX11_constrain_92, dX11_constrain_93, dX11_constrain_95, dX11_constrain_98⟩⟩) (nq_throw_le hT), List.forall_mem_cons.mpr ⟨np_s_aload hX dX11_constrain_99, List.forall_mem_cons.mpr ⟨np_s_iload_n hX dX11_constrain_101 rfl, List.forall_mem_cons.mpr ⟨np_s_iload_n hX dX11_constrain_102 rfl, List.forall_mem_cons.mpr ⟨np_s_iload hX dX11_constrain_103, List.forall_mem_cons.mpr ⟨np_s_iload hX dX11_constrain_105, List.forall_mem_cons.mpr ⟨np_s_iload hX dX11_constrain_107, List.forall_mem_cons.mpr ⟨np_s_aload hX dX11_constrain_112, List.forall_mem_cons.mpr ⟨np_S.mono (op := np_getf 1 6) (np_s_getN hX dX11_constrain_114 (C := RX1) (T := TX1) (N := 7) rfl guX1 (by decide) gw387) nq_getf_le, List.forall_mem_cons.mpr ⟨np_S.mono (op := np_ret X.2.2.1) (np_s_ret hX dX11_constrain_117) (nq_ret_le hR), fun _ h => nomatch h⟩⟩⟩⟩⟩⟩⟩⟩⟩⟩⟩⟩⟩⟩⟩⟩⟩⟩⟩⟩⟩⟩⟩⟩⟩⟩⟩⟩⟩⟩⟩⟩⟩⟩⟩⟩⟩⟩
abbrev sp_X11_constrain : np_SpX := nq_inX is_X11_constrain (some .int) 1 6 400
theorem C_X11_constrain : np_CX yX11_constrain cX11_constrain 8 (some .int) 6 100 1 6 sp_X11_constrain := nq_inCX 400 (by decide) (by decide) (by decide) (fun X Rt Th hX hmn hR hT => so_X11_constrain hX hR hT)
theorem dX11_set_0 : decode cX11_set 0 = .ok (.iload_n 1, 1) := by decide +kernel
theorem dX11_set_1 : decode cX11_set 1 = .ok (.iload_n 2, 1) := by decide +kernel
theorem dX11_set_2 : decode cX11_set 2 = .ok (.invokestatic 172, 3) := by decide +kernel
theorem dX11_set_5 : decode cX11_set 5 = .ok (.ifCond .ne 13, 3) := by decide +kernel
theorem dX11_set_8 : decode cX11_set 8 = .ok (.new 96, 3) := by decide +kernel
theorem dX11_set_11 : decode cX11_set 11 = .ok (.dup, 1) := by decide +kernel
theorem dX11_set_12 : decode cX11_set 12 = .ok (.ldc 176, 2) := by decide +kernel
theorem dX11_set_14 : decode cX11_set 14 = .ok (.invokespecial 100, 3) := by decide +kernel
theorem dX11_set_17 : decode cX11_set 17 = .ok (.athrow, 1) := by decide +kernel
theorem dX11_set_18 : decode cX11_set 18 = .ok (.aload_n 0, 1) := by decide +kernel
theorem dX11_set_19 : decode cX11_set 19 = .ok (.getfield 28, 3) := by decide +kernel
theorem dX11_set_22 : decode cX11_set 22 = .ok (.iload_n 1, 1) := by decide +kernel
theorem dX11_set_23 : decode cX11_set 23 = .ok (.iload_n 2, 1) := by decide +kernel
theorem dX11_set_24 : decode cX11_set 24 = .ok (.invokestatic 178, 3) := by decide +kernel
theorem dX11_set_27 : decode cX11_set 27 = .ok (.ldc 182, 2) := by decide +kernel
theorem dX11_set_29 : decode cX11_set 29 = .ok (.invokestatic 183, 3) := by decide +kernel
theorem dX11_set_32 : decode cX11_set 32 = .ok (.istore 4, 2) := by decide +kernel
theorem dX11_set_34 : decode cX11_set 34 = .ok (.aload_n 0, 1) := by decide +kernel
theorem dX11_set_35 : decode cX11_set 35 = .ok (.getfield 28, 3) := by decide +kernel
theorem dX11_set_38 : decode cX11_set 38 = .ok (.iload_n 1, 1) := by decide +kernel
theorem dX11_set_39 : decode cX11_set 39 = .ok (.iload_n 2, 1) := by decide +kernel
theorem dX11_set_40 : decode cX11_set 40 = .ok (.invokestatic 178, 3) := by decide +kernel
theorem dX11_set_43 : decode cX11_set 43 = .ok (.iload_n 3, 1) := by decide +kernel
theorem dX11_set_44 : decode cX11_set 44 = .ok (.invokestatic 187, 3) := by decide +kernel
theorem dX11_set_47 : decode cX11_set 47 = .ok (.iload 4, 2) := by decide +kernel
theorem dX11_set_49 : decode cX11_set 49 = .ok (.ireturn, 1) := by decide +kernel
def is_X11_set (Rt : np_Rt) (Th : np_Th) : List (Nat × np_Op) := [(0, np_ild 1 1), (1, np_ild 1 2), (2, nq_call 2 sp_X11_isCell 2 0 0 1 6), (5, nq_ifne 18), (8, nq_throw Th 0), (18, np_ald 1 0), (19, nq_getf 11 3), (22, np_ild 1 1), (23, np_ild 1 2), (24, nq_call 2 sp_X11_cellPlace 2 0 0 1 6), (27, np_push 2 (.int (-2147483648))), (29, nq_call 3 sp_X11_at 3 0 0 1 6), (32, np_ist 2 4), (34, np_ald 1 0), (35, nq_getf 11 3), (38, np_ild 1 1), (39, np_ild 1 2), (40, nq_call 2 sp_X11_cellPlace 2 0 0 1 6), (43, np_ild 1 3), (44, nq_call 3 sp_X11_put 3 0 0 1 6), (47, np_ild 2 4), (49, np_ret Rt)]
set_option maxRecDepth 20000 in
theorem so_X11_set {X : np_Ctx} {Rt : np_Rt} {Th : np_Th} (hX : np_ok RX11 cX11_set 5 6 100 1 6 .ireturn X) (hR : ∀ st w ce sl, Rt st w ce sl → X.2.2.1 st w ce sl) (hT : ∀ i w ce sl, Th i w ce sl → X.2.2.2 i w ce sl) : ∀ q ∈ is_X11_set Rt Th, np_S X q.1 q.2 :=
  List.forall_mem_cons.mpr ⟨np_s_iload_n hX dX11_set_0 rfl, List.forall_mem_cons.mpr ⟨np_s_iload_n hX dX11_set_1 rfl, List.forall_mem_cons.mpr ⟨np_S.mono (op := np_call 2 sp_X11_isCell 2 0 0 1 6) (np_s_callS hX C_X11_isCell dX11_set_2 gw810 gw130 gw808 gw809 ⟨by decide, by decide, by decide⟩ (by decide) (by decide)) nq_call_le, List.forall_mem_cons.mpr ⟨np_S.mono (op := np_ifne 18) (np_s_if_ne hX dX11_set_5 (by decide)) nq_ifne_le, List.forall_mem_cons.mpr ⟨np_S.mono (op := np_throw X.2.2.2 0) (np_s_throw hX ⟨96, 176, 100, _, gw573, gw146, sw811, twX11_100, toX11_100_96, Or.inl ⟨dX11_set_8, dX11_set_11, dX11_set_12, dX11_set_14, dX11_set_17⟩⟩) (nq_throw_le hT), List.forall_mem_cons.mpr ⟨np_s_aload_n hX dX11_set_18 rfl, List.forall_mem_cons.mpr ⟨np_S.mono (op := np_getf 11 3) (np_s_getf hX dX11_set_19 (C := RX11) (T := TX11) (N := 14) rfl guX11 (by decide) gw509) nq_getf_le, List.forall_mem_cons.mpr ⟨np_s_iload_n hX dX11_set_22 rfl, List.forall_mem_cons.mpr ⟨np_s_iload_n hX dX11_set_23 rfl, List.forall_mem_cons.mpr ⟨np_S.mono (op := np_call 2 sp_X11_cellPlace 2 0 0 1 6) (np_s_callS hX C_X11_cellPlace dX11_set_24 gw814 gw130 gw812 gw813 ⟨by decide, by decide, by decide⟩ (by decide) (by decide)) nq_call_le, List.forall_mem_cons.mpr ⟨np_s_ldc hX dX11_set_27 gw189, List.forall_mem_cons.mpr ⟨np_S.mono (op := np_call 3 sp_X11_at 3 0 0 1 6) (np_s_callS hX C_X11_at dX11_set_29 gw712 gw130 gw815 gw711 ⟨by decide, by decide, by decide⟩ (by decide) (by decide)) nq_call_le, List.forall_mem_cons.mpr ⟨np_s_istore hX dX11_set_32 (by decide), List.forall_mem_cons.mpr ⟨np_s_aload_n hX dX11_set_34 rfl, List.forall_mem_cons.mpr ⟨np_S.mono (op := np_getf 11 3) (np_s_getf hX dX11_set_35 (C := RX11) (T := TX11) (N := 14) rfl guX11 (by decide) gw509) nq_getf_le, List.forall_mem_cons.mpr ⟨np_s_iload_n hX dX11_set_38 rfl, List.forall_mem_cons.mpr ⟨np_s_iload_n hX dX11_set_39 rfl, List.forall_mem_cons.mpr ⟨np_S.mono (op := np_call 2 sp_X11_cellPlace 2 0 0 1 6) (np_s_callS hX C_X11_cellPlace dX11_set_40 gw814 gw130 gw812 gw813 ⟨by decide, by decide, by decide⟩ (by decide) (by decide)) nq_call_le, List.forall_mem_cons.mpr ⟨np_s_iload_n hX dX11_set_43 rfl, List.forall_mem_cons.mpr ⟨np_S.mono (op := np_call 3 sp_X11_put 3 0 0 1 6) (np_s_callS hX C_X11_put dX11_set_44 gw689 gw130 gw816 gw688 ⟨by decide, by decide, by decide⟩ (by decide) (by decide)) nq_call_le, List.forall_mem_cons.mpr ⟨np_s_iload hX dX11_set_47, List.forall_mem_cons.mpr ⟨np_S.mono (op := np_ret X.2.2.1) (np_s_ret hX dX11_set_49) (nq_ret_le hR), fun _ h => nomatch h⟩⟩⟩⟩⟩⟩⟩⟩⟩⟩⟩⟩⟩⟩⟩⟩⟩⟩⟩⟩⟩⟩
abbrev sp_X11_set : np_SpX := nq_inX is_X11_set (some .int) 1 6 400
theorem C_X11_set : np_CX yX11_set cX11_set 5 (some .int) 6 100 1 6 sp_X11_set := nq_inCX 400 (by decide) (by decide) (by decide) (fun X Rt Th hX hmn hR hT => so_X11_set hX hR hT)
theorem dX11_get_0 : decode cX11_get 0 = .ok (.iload_n 1, 1) := by decide +kernel
theorem dX11_get_1 : decode cX11_get 1 = .ok (.iload_n 2, 1) := by decide +kernel
theorem dX11_get_2 : decode cX11_get 2 = .ok (.invokestatic 172, 3) := by decide +kernel
theorem dX11_get_5 : decode cX11_get 5 = .ok (.ifCond .ne 13, 3) := by decide +kernel
theorem dX11_get_8 : decode cX11_get 8 = .ok (.new 96, 3) := by decide +kernel
theorem dX11_get_11 : decode cX11_get 11 = .ok (.dup, 1) := by decide +kernel
theorem dX11_get_12 : decode cX11_get 12 = .ok (.ldc 176, 2) := by decide +kernel
theorem dX11_get_14 : decode cX11_get 14 = .ok (.invokespecial 100, 3) := by decide +kernel
theorem dX11_get_17 : decode cX11_get 17 = .ok (.athrow, 1) := by decide +kernel
theorem dX11_get_18 : decode cX11_get 18 = .ok (.aload_n 0, 1) := by decide +kernel
theorem dX11_get_19 : decode cX11_get 19 = .ok (.getfield 28, 3) := by decide +kernel
theorem dX11_get_22 : decode cX11_get 22 = .ok (.iload_n 1, 1) := by decide +kernel
theorem dX11_get_23 : decode cX11_get 23 = .ok (.iload_n 2, 1) := by decide +kernel
theorem dX11_get_24 : decode cX11_get 24 = .ok (.invokestatic 178, 3) := by decide +kernel
theorem dX11_get_27 : decode cX11_get 27 = .ok (.ldc 182, 2) := by decide +kernel
theorem dX11_get_29 : decode cX11_get 29 = .ok (.invokestatic 183, 3) := by decide +kernel
theorem dX11_get_32 : decode cX11_get 32 = .ok (.ireturn, 1) := by decide +kernel
def is_X11_get (Rt : np_Rt) (Th : np_Th) : List (Nat × np_Op) := [(0, np_ild 1 1), (1, np_ild 1 2), (2, nq_call 2 sp_X11_isCell 2 0 0 1 6), (5, nq_ifne 18), (8, nq_throw Th 0), (18, np_ald 1 0), (19, nq_getf 11 3), (22, np_ild 1 1), (23, np_ild 1 2), (24, nq_call 2 sp_X11_cellPlace 2 0 0 1 6), (27, np_push 2 (.int (-2147483648))), (29, nq_call 3 sp_X11_at 3 0 0 1 6), (32, np_ret Rt)]
set_option maxRecDepth 20000 in
theorem so_X11_get {X : np_Ctx} {Rt : np_Rt} {Th : np_Th} (hX : np_ok RX11 cX11_get 3 6 100 1 6 .ireturn X) (hR : ∀ st w ce sl, Rt st w ce sl → X.2.2.1 st w ce sl) (hT : ∀ i w ce sl, Th i w ce sl → X.2.2.2 i w ce sl) : ∀ q ∈ is_X11_get Rt Th, np_S X q.1 q.2 :=
  List.forall_mem_cons.mpr ⟨np_s_iload_n hX dX11_get_0 rfl, List.forall_mem_cons.mpr ⟨np_s_iload_n hX dX11_get_1 rfl, List.forall_mem_cons.mpr ⟨np_S.mono (op := np_call 2 sp_X11_isCell 2 0 0 1 6) (np_s_callS hX C_X11_isCell dX11_get_2 gw810 gw130 gw808 gw809 ⟨by decide, by decide, by decide⟩ (by decide) (by decide)) nq_call_le, List.forall_mem_cons.mpr ⟨np_S.mono (op := np_ifne 18) (np_s_if_ne hX dX11_get_5 (by decide)) nq_ifne_le, List.forall_mem_cons.mpr ⟨np_S.mono (op := np_throw X.2.2.2 0) (np_s_throw hX ⟨96, 176, 100, _, gw573, gw146, sw811, twX11_100, toX11_100_96, Or.inl ⟨dX11_get_8, dX11_get_11, dX11_get_12, dX11_get_14, dX11_get_17⟩⟩) (nq_throw_le hT), List.forall_mem_cons.mpr ⟨np_s_aload_n hX dX11_get_18 rfl, List.forall_mem_cons.mpr ⟨np_S.mono (op := np_getf 11 3) (np_s_getf hX dX11_get_19 (C := RX11) (T := TX11) (N := 14) rfl guX11 (by decide) gw509) nq_getf_le, List.forall_mem_cons.mpr ⟨np_s_iload_n hX dX11_get_22 rfl, List.forall_mem_cons.mpr ⟨np_s_iload_n hX dX11_get_23 rfl, List.forall_mem_cons.mpr ⟨np_S.mono (op := np_call 2 sp_X11_cellPlace 2 0 0 1 6) (np_s_callS hX C_X11_cellPlace dX11_get_24 gw814 gw130 gw812 gw813 ⟨by decide, by decide, by decide⟩ (by decide) (by decide)) nq_call_le, List.forall_mem_cons.mpr ⟨np_s_ldc hX dX11_get_27 gw189, List.forall_mem_cons.mpr ⟨np_S.mono (op := np_call 3 sp_X11_at 3 0 0 1 6) (np_s_callS hX C_X11_at dX11_get_29 gw712 gw130 gw815 gw711 ⟨by decide, by decide, by decide⟩ (by decide) (by decide)) nq_call_le, List.forall_mem_cons.mpr ⟨np_S.mono (op := np_ret X.2.2.1) (np_s_ret hX dX11_get_32) (nq_ret_le hR), fun _ h => nomatch h⟩⟩⟩⟩⟩⟩⟩⟩⟩⟩⟩⟩⟩
abbrev sp_X11_get : np_SpX := nq_inX is_X11_get (some .int) 1 6 400
theorem C_X11_get : np_CX yX11_get cX11_get 3 (some .int) 6 100 1 6 sp_X11_get := nq_inCX 400 (by decide) (by decide) (by decide) (fun X Rt Th hX hmn hR hT => so_X11_get hX hR hT)
theorem dX11_message_0 : decode cX11_message 0 = .ok (.aload_n 0, 1) := by decide +kernel
theorem dX11_message_1 : decode cX11_message 1 = .ok (.iload_n 1, 1) := by decide +kernel
theorem dX11_message_2 : decode cX11_message 2 = .ok (.invokevirtual 147, 3) := by decide +kernel
theorem dX11_message_5 : decode cX11_message 5 = .ok (.astore_n 2, 1) := by decide +kernel
theorem dX11_message_6 : decode cX11_message 6 = .ok (.aload_n 2, 1) := by decide +kernel
theorem dX11_message_7 : decode cX11_message 7 = .ok (.ifnonnull 13, 3) := by decide +kernel
theorem dX11_message_10 : decode cX11_message 10 = .ok (.new 96, 3) := by decide +kernel
theorem dX11_message_13 : decode cX11_message 13 = .ok (.dup, 1) := by decide +kernel
theorem dX11_message_14 : decode cX11_message 14 = .ok (.ldc 151, 2) := by decide +kernel
theorem dX11_message_16 : decode cX11_message 16 = .ok (.invokespecial 100, 3) := by decide +kernel
theorem dX11_message_19 : decode cX11_message 19 = .ok (.athrow, 1) := by decide +kernel
theorem dX11_message_20 : decode cX11_message 20 = .ok (.aload_n 2, 1) := by decide +kernel
theorem dX11_message_21 : decode cX11_message 21 = .ok (.aload_n 0, 1) := by decide +kernel
theorem dX11_message_22 : decode cX11_message 22 = .ok (.getfield 28, 3) := by decide +kernel
theorem dX11_message_25 : decode cX11_message 25 = .ok (.invokevirtual 191, 3) := by decide +kernel
theorem dX11_message_28 : decode cX11_message 28 = .ok (.ireturn, 1) := by decide +kernel
def is_X11_message (Rt : np_Rt) (Th : np_Th) : List (Nat × np_Op) := [(0, np_ald 1 0), (1, np_ild 1 1), (2, nq_callV 11 2 sp_X11_descriptionOf 3 0 0 1 6), (5, np_ast 1 2), (6, np_ald 1 2), (7, np_ifnonnull 20), (10, nq_throw Th 0), (20, np_ald 1 2), (21, np_ald 1 0), (22, nq_getf 11 3), (28, np_ret Rt)]
set_option maxRecDepth 20000 in
theorem so_X11_message {X : np_Ctx} {Rt : np_Rt} {Th : np_Th} (hX : np_ok RX11 cX11_message 3 6 100 1 6 .ireturn X) (hR : ∀ st w ce sl, Rt st w ce sl → X.2.2.1 st w ce sl) (hT : ∀ i w ce sl, Th i w ce sl → X.2.2.2 i w ce sl) : ∀ q ∈ is_X11_message Rt Th, np_S X q.1 q.2 :=
  List.forall_mem_cons.mpr ⟨np_s_aload_n hX dX11_message_0 rfl, List.forall_mem_cons.mpr ⟨np_s_iload_n hX dX11_message_1 rfl, List.forall_mem_cons.mpr ⟨np_S.mono (op := np_callV 11 2 sp_X11_descriptionOf 3 0 0 1 6) (np_s_callV hX C_X11_descriptionOf dX11_message_2 (q := (RX11, TX11, 14)) rfl rfl gw761 gw130 gw758 gw760 gw3 ⟨by decide, by decide, by decide⟩ (by decide) (by decide)) nq_callV_le, List.forall_mem_cons.mpr ⟨np_s_astore_n hX dX11_message_5 rfl (by decide), List.forall_mem_cons.mpr ⟨np_s_aload_n hX dX11_message_6 rfl, List.forall_mem_cons.mpr ⟨np_s_ifnonnull hX dX11_message_7 (by decide), List.forall_mem_cons.mpr ⟨np_S.mono (op := np_throw X.2.2.2 0) (np_s_throw hX ⟨96, 151, 100, _, gw573, gw146, sw762, twX11_100, toX11_100_96, Or.inl ⟨dX11_message_10, dX11_message_13, dX11_message_14, dX11_message_16, dX11_message_19⟩⟩) (nq_throw_le hT), List.forall_mem_cons.mpr ⟨np_s_aload_n hX dX11_message_20 rfl, List.forall_mem_cons.mpr ⟨np_s_aload_n hX dX11_message_21 rfl, List.forall_mem_cons.mpr ⟨np_S.mono (op := np_getf 11 3) (np_s_getf hX dX11_message_22 (C := RX11) (T := TX11) (N := 14) rfl guX11 (by decide) gw509) nq_getf_le, List.forall_mem_cons.mpr ⟨np_S.mono (op := np_ret X.2.2.1) (np_s_ret hX dX11_message_28) (nq_ret_le hR), fun _ h => nomatch h⟩⟩⟩⟩⟩⟩⟩⟩⟩⟩⟩
abbrev sp_X11_message : np_SpX := nq_inX is_X11_message (some .int) 1 6 400
theorem C_X11_message : np_CX yX11_message cX11_message 3 (some .int) 6 100 1 6 sp_X11_message := nq_inCX 400 (by decide) (by decide) (by decide) (fun X Rt Th hX hmn hR hT => so_X11_message hX hR hT)
theorem dX11_sample_0 : decode cX11_sample 0 = .ok (.aload_n 0, 1) := by decide +kernel
theorem dX11_sample_1 : decode cX11_sample 1 = .ok (.iload_n 1, 1) := by decide +kernel
theorem dX11_sample_2 : decode cX11_sample 2 = .ok (.invokevirtual 147, 3) := by decide +kernel
theorem dX11_sample_5 : decode cX11_sample 5 = .ok (.astore_n 3, 1) := by decide +kernel
theorem dX11_sample_6 : decode cX11_sample 6 = .ok (.aload_n 3, 1) := by decide +kernel
theorem dX11_sample_7 : decode cX11_sample 7 = .ok (.ifnonnull 13, 3) := by decide +kernel
theorem dX11_sample_10 : decode cX11_sample 10 = .ok (.new 96, 3) := by decide +kernel
theorem dX11_sample_13 : decode cX11_sample 13 = .ok (.dup, 1) := by decide +kernel
theorem dX11_sample_14 : decode cX11_sample 14 = .ok (.ldc 151, 2) := by decide +kernel
theorem dX11_sample_16 : decode cX11_sample 16 = .ok (.invokespecial 100, 3) := by decide +kernel
theorem dX11_sample_19 : decode cX11_sample 19 = .ok (.athrow, 1) := by decide +kernel
theorem dX11_sample_20 : decode cX11_sample 20 = .ok (.iload_n 2, 1) := by decide +kernel
theorem dX11_sample_21 : decode cX11_sample 21 = .ok (.ifCond .lt 9, 3) := by decide +kernel
theorem dX11_sample_24 : decode cX11_sample 24 = .ok (.iload_n 2, 1) := by decide +kernel
theorem dX11_sample_25 : decode cX11_sample 25 = .ok (.ldc 195, 2) := by decide +kernel
theorem dX11_sample_27 : decode cX11_sample 27 = .ok (.if_icmp .le 13, 3) := by decide +kernel
theorem dX11_sample_30 : decode cX11_sample 30 = .ok (.new 107, 3) := by decide +kernel
theorem dX11_sample_33 : decode cX11_sample 33 = .ok (.dup, 1) := by decide +kernel
theorem dX11_sample_34 : decode cX11_sample 34 = .ok (.ldc 196, 2) := by decide +kernel
theorem dX11_sample_36 : decode cX11_sample 36 = .ok (.invokespecial 111, 3) := by decide +kernel
theorem dX11_sample_39 : decode cX11_sample 39 = .ok (.athrow, 1) := by decide +kernel
theorem dX11_sample_40 : decode cX11_sample 40 = .ok (.aload_n 0, 1) := by decide +kernel
theorem dX11_sample_41 : decode cX11_sample 41 = .ok (.getfield 61, 3) := by decide +kernel
theorem dX11_sample_44 : decode cX11_sample 44 = .ok (.aload_n 3, 1) := by decide +kernel
theorem dX11_sample_45 : decode cX11_sample 45 = .ok (.iload_n 2, 1) := by decide +kernel
theorem dX11_sample_46 : decode cX11_sample 46 = .ok (.aload_n 0, 1) := by decide +kernel
theorem dX11_sample_47 : decode cX11_sample 47 = .ok (.getfield 47, 3) := by decide +kernel
theorem dX11_sample_50 : decode cX11_sample 50 = .ok (.invokevirtual 198, 3) := by decide +kernel
theorem dX11_sample_53 : decode cX11_sample 53 = .ok (.astore 4, 2) := by decide +kernel
theorem dX11_sample_55 : decode cX11_sample 55 = .ok (.aload 4, 2) := by decide +kernel
theorem dX11_sample_57 : decode cX11_sample 57 = .ok (.ifnonnull 5, 3) := by decide +kernel
theorem dX11_sample_60 : decode cX11_sample 60 = .ok (.iconst 0, 1) := by decide +kernel
theorem dX11_sample_61 : decode cX11_sample 61 = .ok (.ireturn, 1) := by decide +kernel
theorem dX11_sample_62 : decode cX11_sample 62 = .ok (.aload 4, 2) := by decide +kernel
theorem dX11_sample_64 : decode cX11_sample 64 = .ok (.getfield 202, 3) := by decide +kernel
theorem dX11_sample_67 : decode cX11_sample 67 = .ok (.iconst 0, 1) := by decide +kernel
theorem dX11_sample_68 : decode cX11_sample 68 = .ok (.aload_n 0, 1) := by decide +kernel
theorem dX11_sample_69 : decode cX11_sample 69 = .ok (.getfield 28, 3) := by decide +kernel
theorem dX11_sample_72 : decode cX11_sample 72 = .ok (.iconst 0, 1) := by decide +kernel
theorem dX11_sample_73 : decode cX11_sample 73 = .ok (.bipush 24, 2) := by decide +kernel
theorem dX11_sample_75 : decode cX11_sample 75 = .ok (.invokestatic 207, 3) := by decide +kernel
theorem dX11_sample_78 : decode cX11_sample 78 = .ok (.iconst 1, 1) := by decide +kernel
theorem dX11_sample_79 : decode cX11_sample 79 = .ok (.ireturn, 1) := by decide +kernel
def is_X11_sample (Rt : np_Rt) (Th : np_Th) : List (Nat × np_Op) := [(0, np_ald 1 0), (1, np_ild 1 1), (2, nq_callV 11 2 sp_X11_descriptionOf 3 0 0 1 6), (5, np_ast 1 3), (6, np_ald 1 3), (7, np_ifnonnull 20), (10, nq_throw Th 0), (20, np_ild 1 2), (21, nq_if (fun x => x < 0) 30), (24, np_ild 1 2), (25, np_push 2 (.int 1000000)), (27, nq_ic (fun x y => x ≤ y) 40), (30, nq_throw Th 1), (40, np_ald 1 0), (41, nq_getf 11 8), (44, np_ald 1 3), (45, np_ild 1 2), (46, np_ald 1 0), (47, nq_getf 11 6), (53, np_ast 2 4), (55, np_ald 2 4), (57, np_ifnonnull 62), (60, np_push 1 (.int 0)), (61, np_ret Rt), (62, np_ald 2 4), (64, nq_getf 8 0), (67, np_push 1 (.int 0)), (68, np_ald 1 0), (69, nq_getf 11 3), (72, np_push 1 (.int 0)), (73, np_push 2 (.int 24)), (78, np_push 1 (.int 1)), (79, np_ret Rt)]
set_option maxRecDepth 20000 in
theorem so_X11_sample {X : np_Ctx} {Rt : np_Rt} {Th : np_Th} (hX : np_ok RX11 cX11_sample 5 6 100 1 6 .ireturn X) (hR : ∀ st w ce sl, Rt st w ce sl → X.2.2.1 st w ce sl) (hT : ∀ i w ce sl, Th i w ce sl → X.2.2.2 i w ce sl) : ∀ q ∈ is_X11_sample Rt Th, np_S X q.1 q.2 :=
  List.forall_mem_cons.mpr ⟨np_s_aload_n hX dX11_sample_0 rfl, List.forall_mem_cons.mpr ⟨np_s_iload_n hX dX11_sample_1 rfl, List.forall_mem_cons.mpr ⟨np_S.mono (op := np_callV 11 2 sp_X11_descriptionOf 3 0 0 1 6) (np_s_callV hX C_X11_descriptionOf dX11_sample_2 (q := (RX11, TX11, 14)) rfl rfl gw761 gw130 gw758 gw760 gw3 ⟨by decide, by decide, by decide⟩ (by decide) (by decide)) nq_callV_le, List.forall_mem_cons.mpr ⟨np_s_astore_n hX dX11_sample_5 rfl (by decide), List.forall_mem_cons.mpr ⟨np_s_aload_n hX dX11_sample_6 rfl, List.forall_mem_cons.mpr ⟨np_s_ifnonnull hX dX11_sample_7 (by decide), List.forall_mem_cons.mpr ⟨np_S.mono (op := np_throw X.2.2.2 0) (np_s_throw hX ⟨96, 151, 100, _, gw573, gw146, sw762, twX11_100, toX11_100_96, Or.inl ⟨dX11_sample_10, dX11_sample_13, dX11_sample_14, dX11_sample_16, dX11_sample_19⟩⟩) (nq_throw_le hT), List.forall_mem_cons.mpr ⟨np_s_iload_n hX dX11_sample_20 rfl, List.forall_mem_cons.mpr ⟨np_S.mono (op := np_if (fun x => x < 0) 30) (np_s_if_lt hX dX11_sample_21 (by decide)) nq_if_le, List.forall_mem_cons.mpr ⟨np_s_iload_n hX dX11_sample_24 rfl, List.forall_mem_cons.mpr ⟨np_s_ldc hX dX11_sample_25 gw855, List.forall_mem_cons.mpr ⟨np_S.mono (op := np_ic (fun x y => x ≤ y) 40) (np_s_icmp_le hX dX11_sample_27 (by decide)) nq_ic_le, List.forall_mem_cons.mpr ⟨np_S.mono (op := np_throw X.2.2.2 1) (np_s_throw hX ⟨107, 196, 111, _, gw647, gw147, sw856, twX11_111, toX11_111_107, Or.inl ⟨dX11_sample_30, dX11_sample_33, dX11_sample_34, dX11_sample_36, dX11_sample_39⟩⟩) (nq_throw_le hT), List.forall_mem_cons.mpr ⟨np_s_aload_n hX dX11_sample_40 rfl, List.forall_mem_cons.mpr ⟨np_S.mono (op := np_getf 11 8) (np_s_getf hX dX11_sample_41 (C := RX11) (T := TX11) (N := 14) rfl guX11 (by decide) gw514) nq_getf_le, List.forall_mem_cons.mpr ⟨np_s_aload_n hX dX11_sample_44 rfl, List.forall_mem_cons.mpr ⟨np_s_iload_n hX dX11_sample_45 rfl, List.forall_mem_cons.mpr ⟨np_s_aload_n hX dX11_sample_46 rfl, List.forall_mem_cons.mpr ⟨np_S.mono (op := np_getf 11 6) (np_s_getf hX dX11_sample_47 (C := RX11) (T := TX11) (N := 14) rfl guX11 (by decide) gw512) nq_getf_le, List.forall_mem_cons.mpr ⟨np_s_astore hX dX11_sample_53 (by decide), List.forall_mem_cons.mpr ⟨np_s_aload hX dX11_sample_55, List.forall_mem_cons.mpr ⟨np_s_ifnonnull hX dX11_sample_57 (by decide), List.forall_mem_cons.mpr ⟨np_s_iconst hX dX11_sample_60 (by decide), List.forall_mem_cons.mpr ⟨np_S.mono (op := np_ret X.2.2.1) (np_s_ret hX dX11_sample_61) (nq_ret_le hR), List.forall_mem_cons.mpr ⟨np_s_aload hX dX11_sample_62, List.forall_mem_cons.mpr ⟨np_S.mono (op := np_getf 8 0) (np_s_getN hX dX11_sample_64 (C := RX8) (T := TX8) (N := 9) rfl guX8 (by decide) gw212) nq_getf_le, List.forall_mem_cons.mpr ⟨np_s_iconst hX dX11_sample_67 (by decide), List.forall_mem_cons.mpr ⟨np_s_aload_n hX dX11_sample_68 rfl, List.forall_mem_cons.mpr ⟨np_S.mono (op := np_getf 11 3) (np_s_getf hX dX11_sample_69 (C := RX11) (T := TX11) (N := 14) rfl guX11 (by decide) gw509) nq_getf_le, List.forall_mem_cons.mpr ⟨np_s_iconst hX dX11_sample_72 (by decide), List.forall_mem_cons.mpr ⟨np_s_bipush hX dX11_sample_73 (by decide), List.forall_mem_cons.mpr ⟨np_s_iconst hX dX11_sample_78 (by decide), List.forall_mem_cons.mpr ⟨np_S.mono (op := np_ret X.2.2.1) (np_s_ret hX dX11_sample_79) (nq_ret_le hR), fun _ h => nomatch h⟩⟩⟩⟩⟩⟩⟩⟩⟩⟩⟩⟩⟩⟩⟩⟩⟩⟩⟩⟩⟩⟩⟩⟩⟩⟩⟩⟩⟩⟩⟩⟩⟩
abbrev sp_X11_sample : np_SpX := nq_inX is_X11_sample (some .boolean) 1 6 400
theorem C_X11_sample : np_CX yX11_sample cX11_sample 5 (some .boolean) 6 100 1 6 sp_X11_sample := nq_inCX 400 (by decide) (by decide) (by decide) (fun X Rt Th hX hmn hR hT => so_X11_sample hX hR hT)
theorem dX11_type_0 : decode cX11_type 0 = .ok (.aload_n 0, 1) := by decide +kernel
theorem dX11_type_1 : decode cX11_type 1 = .ok (.iload_n 1, 1) := by decide +kernel
theorem dX11_type_2 : decode cX11_type 2 = .ok (.invokevirtual 211, 3) := by decide +kernel
theorem dX11_type_5 : decode cX11_type 5 = .ok (.astore_n 3, 1) := by decide +kernel
theorem dX11_type_6 : decode cX11_type 6 = .ok (.aload_n 3, 1) := by decide +kernel
theorem dX11_type_7 : decode cX11_type 7 = .ok (.ifnonnull 13, 3) := by decide +kernel
theorem dX11_type_10 : decode cX11_type 10 = .ok (.new 96, 3) := by decide +kernel
theorem dX11_type_13 : decode cX11_type 13 = .ok (.dup, 1) := by decide +kernel
theorem dX11_type_14 : decode cX11_type 14 = .ok (.ldc 215, 2) := by decide +kernel
theorem dX11_type_16 : decode cX11_type 16 = .ok (.invokespecial 100, 3) := by decide +kernel
theorem dX11_type_19 : decode cX11_type 19 = .ok (.athrow, 1) := by decide +kernel
theorem dX11_type_20 : decode cX11_type 20 = .ok (.iload_n 2, 1) := by decide +kernel
theorem dX11_type_21 : decode cX11_type 21 = .ok (.invokestatic 217, 3) := by decide +kernel
theorem dX11_type_24 : decode cX11_type 24 = .ok (.istore 4, 2) := by decide +kernel
theorem dX11_type_26 : decode cX11_type 26 = .ok (.iload 4, 2) := by decide +kernel
theorem dX11_type_28 : decode cX11_type 28 = .ok (.ifCond .ne 13, 3) := by decide +kernel
theorem dX11_type_31 : decode cX11_type 31 = .ok (.new 107, 3) := by decide +kernel
theorem dX11_type_34 : decode cX11_type 34 = .ok (.dup, 1) := by decide +kernel
theorem dX11_type_35 : decode cX11_type 35 = .ok (.ldc 221, 2) := by decide +kernel
theorem dX11_type_37 : decode cX11_type 37 = .ok (.invokespecial 111, 3) := by decide +kernel
theorem dX11_type_40 : decode cX11_type 40 = .ok (.athrow, 1) := by decide +kernel
theorem dX11_type_41 : decode cX11_type 41 = .ok (.aload_n 3, 1) := by decide +kernel
theorem dX11_type_42 : decode cX11_type 42 = .ok (.iload 4, 2) := by decide +kernel
theorem dX11_type_44 : decode cX11_type 44 = .ok (.invokevirtual 223, 3) := by decide +kernel
theorem dX11_type_47 : decode cX11_type 47 = .ok (.ifCond .ne 13, 3) := by decide +kernel
theorem dX11_type_50 : decode cX11_type 50 = .ok (.new 116, 3) := by decide +kernel
theorem dX11_type_53 : decode cX11_type 53 = .ok (.dup, 1) := by decide +kernel
theorem dX11_type_54 : decode cX11_type 54 = .ok (.ldc 226, 2) := by decide +kernel
theorem dX11_type_56 : decode cX11_type 56 = .ok (.invokespecial 120, 3) := by decide +kernel
theorem dX11_type_59 : decode cX11_type 59 = .ok (.athrow, 1) := by decide +kernel
theorem dX11_type_60 : decode cX11_type 60 = .ok (.iconst 0, 1) := by decide +kernel
theorem dX11_type_61 : decode cX11_type 61 = .ok (.istore 5, 2) := by decide +kernel
theorem dX11_type_63 : decode cX11_type 63 = .ok (.iload 5, 2) := by decide +kernel
theorem dX11_type_65 : decode cX11_type 65 = .ok (.iload 4, 2) := by decide +kernel
theorem dX11_type_67 : decode cX11_type 67 = .ok (.if_icmp .ge 24, 3) := by decide +kernel
theorem dX11_type_70 : decode cX11_type 70 = .ok (.aload_n 3, 1) := by decide +kernel
theorem dX11_type_71 : decode cX11_type 71 = .ok (.iload_n 2, 1) := by decide +kernel
theorem dX11_type_72 : decode cX11_type 72 = .ok (.bipush 8, 2) := by decide +kernel
theorem dX11_type_74 : decode cX11_type 74 = .ok (.iload 5, 2) := by decide +kernel
theorem dX11_type_76 : decode cX11_type 76 = .ok (.imul, 1) := by decide +kernel
theorem dX11_type_77 : decode cX11_type 77 = .ok (.iushr, 1) := by decide +kernel
theorem dX11_type_78 : decode cX11_type 78 = .ok (.sipush 255, 3) := by decide +kernel
theorem dX11_type_81 : decode cX11_type 81 = .ok (.iand, 1) := by decide +kernel
theorem dX11_type_82 : decode cX11_type 82 = .ok (.invokevirtual 228, 3) := by decide +kernel
theorem dX11_type_85 : decode cX11_type 85 = .ok (.iinc 5 1, 3) := by decide +kernel
theorem dX11_type_88 : decode cX11_type 88 = .ok (.goto (-25), 3) := by decide +kernel
theorem dX11_type_91 : decode cX11_type 91 = .ok (.aload_n 3, 1) := by decide +kernel
theorem dX11_type_92 : decode cX11_type 92 = .ok (.getfield 232, 3) := by decide +kernel
theorem dX11_type_95 : decode cX11_type 95 = .ok (.ireturn, 1) := by decide +kernel
def is_X11_type (Rt : np_Rt) (Th : np_Th) : List (Nat × np_Op) := [(0, np_ald 1 0), (1, np_ild 1 1), (2, nq_callV 11 2 sp_X11_fileOf 2 0 0 1 6), (5, np_ast 1 3), (6, np_ald 1 3), (7, np_ifnonnull 20), (10, nq_throw Th 0), (20, np_ild 1 2), (21, nq_call 1 sq_charactersIn 4 0 0 1 6), (24, np_ist 2 4), (26, np_ild 2 4), (28, nq_ifne 41), (31, nq_throw Th 1), (41, np_ald 1 3), (42, np_ild 2 4), (44, nq_callV 7 2 sp_X7_takes 2 0 0 1 6), (47, nq_ifne 60), (50, nq_throw Th 2), (60, np_push 1 (.int 0)), (61, np_ist 2 5), (63, np_ild 2 5), (65, np_ild 2 4), (67, nq_ic (fun x y => y ≤ x) 91), (70, np_ald 1 3), (71, np_ild 1 2), (72, np_push 2 (.int 8)), (74, np_ild 2 5), (76, np_ib (fun x y => x * y)), (77, np_ib (fun x y => (x.toUInt32 >>> (y.toUInt32 &&& Int32.toUInt32 31)).toInt32)), (78, np_push 3 (.int 255)), (81, np_ib (fun x y => x &&& y)), (82, nq_callV 7 2 sp_X7_append 2 0 0 1 6), (85, np_iinc 5 1), (88, np_goto 63), (91, np_ald 1 3), (92, nq_getf 7 1), (95, np_ret Rt)]
set_option maxRecDepth 20000 in
theorem so_X11_type {X : np_Ctx} {Rt : np_Rt} {Th : np_Th} (hX : np_ok RX11 cX11_type 6 6 100 1 6 .ireturn X) (hR : ∀ st w ce sl, Rt st w ce sl → X.2.2.1 st w ce sl) (hT : ∀ i w ce sl, Th i w ce sl → X.2.2.2 i w ce sl) : ∀ q ∈ is_X11_type Rt Th, np_S X q.1 q.2 :=
  List.forall_mem_cons.mpr ⟨np_s_aload_n hX dX11_type_0 rfl, List.forall_mem_cons.mpr ⟨np_s_iload_n hX dX11_type_1 rfl, List.forall_mem_cons.mpr ⟨np_S.mono (op := np_callV 11 2 sp_X11_fileOf 2 0 0 1 6) (np_s_callV hX C_X11_fileOf dX11_type_2 (q := (RX11, TX11, 14)) rfl rfl gw1035 gw130 gw1032 gw1034 gw17 ⟨by decide, by decide, by decide⟩ (by decide) (by decide)) nq_callV_le, List.forall_mem_cons.mpr ⟨np_s_astore_n hX dX11_type_5 rfl (by decide), List.forall_mem_cons.mpr ⟨np_s_aload_n hX dX11_type_6 rfl, List.forall_mem_cons.mpr ⟨np_s_ifnonnull hX dX11_type_7 (by decide), List.forall_mem_cons.mpr ⟨np_S.mono (op := np_throw X.2.2.2 0) (np_s_throw hX ⟨96, 215, 100, _, gw573, gw146, sw1036, twX11_100, toX11_100_96, Or.inl ⟨dX11_type_10, dX11_type_13, dX11_type_14, dX11_type_16, dX11_type_19⟩⟩) (nq_throw_le hT), List.forall_mem_cons.mpr ⟨np_s_iload_n hX dX11_type_20 rfl, List.forall_mem_cons.mpr ⟨np_S.mono (op := np_call 1 sq_charactersIn 4 0 0 1 6) (np_s_callS hX CQ_charactersIn dX11_type_21 gw1039 gw130 gw1037 gw1038 ⟨by decide, by decide, by decide⟩ (by decide) (by decide)) nq_call_le, List.forall_mem_cons.mpr ⟨np_s_istore hX dX11_type_24 (by decide), List.forall_mem_cons.mpr ⟨np_s_iload hX dX11_type_26, List.forall_mem_cons.mpr ⟨np_S.mono (op := np_ifne 41) (np_s_if_ne hX dX11_type_28 (by decide)) nq_ifne_le, List.forall_mem_cons.mpr ⟨np_S.mono (op := np_throw X.2.2.2 1) (np_s_throw hX ⟨107, 221, 111, _, gw647, gw147, sw1040, twX11_111, toX11_111_107, Or.inl ⟨dX11_type_31, dX11_type_34, dX11_type_35, dX11_type_37, dX11_type_40⟩⟩) (nq_throw_le hT), List.forall_mem_cons.mpr ⟨np_s_aload_n hX dX11_type_41 rfl, List.forall_mem_cons.mpr ⟨np_s_iload hX dX11_type_42, List.forall_mem_cons.mpr ⟨np_S.mono (op := np_callV 7 2 sp_X7_takes 2 0 0 1 6) (np_s_callV hX C_X7_takes dX11_type_44 (q := (RX7, TX7, 3)) rfl rfl gw1044 gw135 gw1041 gw1042 gw1043 ⟨by decide, by decide, by decide⟩ (by decide) (by decide)) nq_callV_le, List.forall_mem_cons.mpr ⟨np_S.mono (op := np_ifne 60) (np_s_if_ne hX dX11_type_47 (by decide)) nq_ifne_le, List.forall_mem_cons.mpr ⟨np_S.mono (op := np_throw X.2.2.2 2) (np_s_throw hX ⟨116, 226, 120, _, gw667, gw148, sw1045, twX11_120, toX11_120_116, Or.inl ⟨dX11_type_50, dX11_type_53, dX11_type_54, dX11_type_56, dX11_type_59⟩⟩) (nq_throw_le hT), List.forall_mem_cons.mpr ⟨np_s_iconst hX dX11_type_60 (by decide), List.forall_mem_cons.mpr ⟨np_s_istore hX dX11_type_61 (by decide), List.forall_mem_cons.mpr ⟨np_s_iload hX dX11_type_63, List.forall_mem_cons.mpr ⟨np_s_iload hX dX11_type_65, List.forall_mem_cons.mpr ⟨np_S.mono (op := np_ic (fun x y => y ≤ x) 91) (np_s_icmp_ge hX dX11_type_67 (by decide)) nq_ic_le, List.forall_mem_cons.mpr ⟨np_s_aload_n hX dX11_type_70 rfl, List.forall_mem_cons.mpr ⟨np_s_iload_n hX dX11_type_71 rfl, List.forall_mem_cons.mpr ⟨np_s_bipush hX dX11_type_72 (by decide), List.forall_mem_cons.mpr ⟨np_s_iload hX dX11_type_74, List.forall_mem_cons.mpr ⟨np_s_imul hX dX11_type_76, List.forall_mem_cons.mpr ⟨np_s_iushr hX dX11_type_77, List.forall_mem_cons.mpr ⟨np_s_sipush hX dX11_type_78 (by decide), List.forall_mem_cons.mpr ⟨np_s_iand hX dX11_type_81, List.forall_mem_cons.mpr ⟨np_S.mono (op := np_callV 7 2 sp_X7_append 2 0 0 1 6) (np_s_callV hX C_X7_append dX11_type_82 (q := (RX7, TX7, 3)) rfl rfl gw1049 gw135 gw1046 gw1047 gw1048 ⟨by decide, by decide, by decide⟩ (by decide) (by decide)) nq_callV_le, List.forall_mem_cons.mpr ⟨np_s_iinc hX dX11_type_85 (by decide), List.forall_mem_cons.mpr ⟨np_s_goto hX dX11_type_88 (by decide), List.forall_mem_cons.mpr ⟨np_s_aload_n hX dX11_type_91 rfl, List.forall_mem_cons.mpr ⟨np_S.mono (op := np_getf 7 1) (np_s_getN hX dX11_type_92 (C := RX7) (T := TX7) (N := 3) rfl guX7 (by decide) gw276) nq_getf_le, List.forall_mem_cons.mpr ⟨np_S.mono (op := np_ret X.2.2.1) (np_s_ret hX dX11_type_95) (nq_ret_le hR), fun _ h => nomatch h⟩⟩⟩⟩⟩⟩⟩⟩⟩⟩⟩⟩⟩⟩⟩⟩⟩⟩⟩⟩⟩⟩⟩⟩⟩⟩⟩⟩⟩⟩⟩⟩⟩⟩⟩⟩⟩
abbrev sp_X11_type : np_SpX := nq_inX is_X11_type (some .int) 1 6 400
theorem C_X11_type : np_CX yX11_type cX11_type 6 (some .int) 6 100 1 6 sp_X11_type := nq_inCX 400 (by decide) (by decide) (by decide) (fun X Rt Th hX hmn hR hT => so_X11_type hX hR hT)
theorem dX11_print_0 : decode cX11_print 0 = .ok (.aload_n 0, 1) := by decide +kernel
theorem dX11_print_1 : decode cX11_print 1 = .ok (.iload_n 1, 1) := by decide +kernel
theorem dX11_print_2 : decode cX11_print 2 = .ok (.invokevirtual 147, 3) := by decide +kernel
theorem dX11_print_5 : decode cX11_print 5 = .ok (.astore_n 3, 1) := by decide +kernel
theorem dX11_print_6 : decode cX11_print 6 = .ok (.aload_n 0, 1) := by decide +kernel
theorem dX11_print_7 : decode cX11_print 7 = .ok (.iload_n 2, 1) := by decide +kernel
theorem dX11_print_8 : decode cX11_print 8 = .ok (.invokevirtual 211, 3) := by decide +kernel
theorem dX11_print_11 : decode cX11_print 11 = .ok (.astore 4, 2) := by decide +kernel
theorem dX11_print_13 : decode cX11_print 13 = .ok (.aload_n 3, 1) := by decide +kernel
theorem dX11_print_14 : decode cX11_print 14 = .ok (.ifnonnull 13, 3) := by decide +kernel
theorem dX11_print_17 : decode cX11_print 17 = .ok (.new 96, 3) := by decide +kernel
theorem dX11_print_20 : decode cX11_print 20 = .ok (.dup, 1) := by decide +kernel
theorem dX11_print_21 : decode cX11_print 21 = .ok (.ldc 151, 2) := by decide +kernel
theorem dX11_print_23 : decode cX11_print 23 = .ok (.invokespecial 100, 3) := by decide +kernel
theorem dX11_print_26 : decode cX11_print 26 = .ok (.athrow, 1) := by decide +kernel
theorem dX11_print_27 : decode cX11_print 27 = .ok (.aload 4, 2) := by decide +kernel
theorem dX11_print_29 : decode cX11_print 29 = .ok (.ifnonnull 13, 3) := by decide +kernel
theorem dX11_print_32 : decode cX11_print 32 = .ok (.new 96, 3) := by decide +kernel
theorem dX11_print_35 : decode cX11_print 35 = .ok (.dup, 1) := by decide +kernel
theorem dX11_print_36 : decode cX11_print 36 = .ok (.ldc 215, 2) := by decide +kernel
theorem dX11_print_38 : decode cX11_print 38 = .ok (.invokespecial 100, 3) := by decide +kernel
theorem dX11_print_41 : decode cX11_print 41 = .ok (.athrow, 1) := by decide +kernel
theorem dX11_print_42 : decode cX11_print 42 = .ok (.aload_n 0, 1) := by decide +kernel
theorem dX11_print_43 : decode cX11_print 43 = .ok (.getfield 47, 3) := by decide +kernel
theorem dX11_print_46 : decode cX11_print 46 = .ok (.aload_n 3, 1) := by decide +kernel
theorem dX11_print_47 : decode cX11_print 47 = .ok (.getfield 140, 3) := by decide +kernel
theorem dX11_print_50 : decode cX11_print 50 = .ok (.aload_n 0, 1) := by decide +kernel
theorem dX11_print_51 : decode cX11_print 51 = .ok (.getfield 28, 3) := by decide +kernel
theorem dX11_print_54 : decode cX11_print 54 = .ok (.invokevirtual 235, 3) := by decide +kernel
theorem dX11_print_57 : decode cX11_print 57 = .ok (.ifCond .ne 13, 3) := by decide +kernel
theorem dX11_print_60 : decode cX11_print 60 = .ok (.new 116, 3) := by decide +kernel
theorem dX11_print_63 : decode cX11_print 63 = .ok (.dup, 1) := by decide +kernel
theorem dX11_print_64 : decode cX11_print 64 = .ok (.ldc 239, 2) := by decide +kernel
theorem dX11_print_66 : decode cX11_print 66 = .ok (.invokespecial 120, 3) := by decide +kernel
theorem dX11_print_69 : decode cX11_print 69 = .ok (.athrow, 1) := by decide +kernel
theorem dX11_print_70 : decode cX11_print 70 = .ok (.aload_n 0, 1) := by decide +kernel
theorem dX11_print_71 : decode cX11_print 71 = .ok (.getfield 47, 3) := by decide +kernel
theorem dX11_print_74 : decode cX11_print 74 = .ok (.invokevirtual 241, 3) := by decide +kernel
theorem dX11_print_77 : decode cX11_print 77 = .ok (.istore 5, 2) := by decide +kernel
theorem dX11_print_79 : decode cX11_print 79 = .ok (.aload 4, 2) := by decide +kernel
theorem dX11_print_81 : decode cX11_print 81 = .ok (.iload 5, 2) := by decide +kernel
theorem dX11_print_83 : decode cX11_print 83 = .ok (.iconst 1, 1) := by decide +kernel
theorem dX11_print_84 : decode cX11_print 84 = .ok (.iadd, 1) := by decide +kernel
theorem dX11_print_85 : decode cX11_print 85 = .ok (.invokevirtual 223, 3) := by decide +kernel
theorem dX11_print_88 : decode cX11_print 88 = .ok (.ifCond .ne 13, 3) := by decide +kernel
theorem dX11_print_91 : decode cX11_print 91 = .ok (.new 116, 3) := by decide +kernel
theorem dX11_print_94 : decode cX11_print 94 = .ok (.dup, 1) := by decide +kernel
theorem dX11_print_95 : decode cX11_print 95 = .ok (.ldc 226, 2) := by decide +kernel
theorem dX11_print_97 : decode cX11_print 97 = .ok (.invokespecial 120, 3) := by decide +kernel
theorem dX11_print_100 : decode cX11_print 100 = .ok (.athrow, 1) := by decide +kernel
theorem dX11_print_101 : decode cX11_print 101 = .ok (.iconst 0, 1) := by decide +kernel
theorem dX11_print_102 : decode cX11_print 102 = .ok (.istore 6, 2) := by decide +kernel
theorem dX11_print_104 : decode cX11_print 104 = .ok (.iload 6, 2) := by decide +kernel
theorem dX11_print_106 : decode cX11_print 106 = .ok (.iload 5, 2) := by decide +kernel
theorem dX11_print_108 : decode cX11_print 108 = .ok (.if_icmp .ge 23, 3) := by decide +kernel
theorem dX11_print_111 : decode cX11_print 111 = .ok (.aload 4, 2) := by decide +kernel
theorem dX11_print_113 : decode cX11_print 113 = .ok (.aload_n 0, 1) := by decide +kernel
theorem dX11_print_114 : decode cX11_print 114 = .ok (.getfield 47, 3) := by decide +kernel
theorem dX11_print_117 : decode cX11_print 117 = .ok (.iload 6, 2) := by decide +kernel
theorem dX11_print_119 : decode cX11_print 119 = .ok (.invokevirtual 243, 3) := by decide +kernel
theorem dX11_print_122 : decode cX11_print 122 = .ok (.invokevirtual 228, 3) := by decide +kernel
theorem dX11_print_125 : decode cX11_print 125 = .ok (.iinc 6 1, 3) := by decide +kernel
theorem dX11_print_128 : decode cX11_print 128 = .ok (.goto (-24), 3) := by decide +kernel
theorem dX11_print_131 : decode cX11_print 131 = .ok (.aload 4, 2) := by decide +kernel
theorem dX11_print_133 : decode cX11_print 133 = .ok (.bipush 10, 2) := by decide +kernel
theorem dX11_print_135 : decode cX11_print 135 = .ok (.invokevirtual 228, 3) := by decide +kernel
theorem dX11_print_138 : decode cX11_print 138 = .ok (.aload 4, 2) := by decide +kernel
theorem dX11_print_140 : decode cX11_print 140 = .ok (.getfield 232, 3) := by decide +kernel
theorem dX11_print_143 : decode cX11_print 143 = .ok (.ireturn, 1) := by decide +kernel
def is_X11_print (Rt : np_Rt) (Th : np_Th) : List (Nat × np_Op) := [(0, np_ald 1 0), (1, np_ild 1 1), (2, nq_callV 11 2 sp_X11_descriptionOf 3 0 0 1 6), (5, np_ast 1 3), (6, np_ald 1 0), (7, np_ild 1 2), (8, nq_callV 11 2 sp_X11_fileOf 2 0 0 1 6), (11, np_ast 2 4), (13, np_ald 1 3), (14, np_ifnonnull 27), (17, nq_throw Th 0), (27, np_ald 2 4), (29, np_ifnonnull 42), (32, nq_throw Th 0), (42, np_ald 1 0), (43, nq_getf 11 6), (46, np_ald 1 3), (47, nq_getf 1 0), (50, np_ald 1 0), (51, nq_getf 11 3), (57, nq_ifne 70), (60, nq_throw Th 2), (70, np_ald 1 0), (71, nq_getf 11 6), (77, np_ist 2 5), (79, np_ald 2 4), (81, np_ild 2 5), (83, np_push 1 (.int 1)), (84, np_ib (fun x y => x + y)), (85, nq_callV 7 2 sp_X7_takes 2 0 0 1 6), (88, nq_ifne 101), (91, nq_throw Th 2), (101, np_push 1 (.int 0)), (102, np_ist 2 6), (104, np_ild 2 6), (106, np_ild 2 5), (108, nq_ic (fun x y => y ≤ x) 131), (111, np_ald 2 4), (113, np_ald 1 0), (114, nq_getf 11 6), (117, np_ild 2 6), (122, nq_callV 7 2 sp_X7_append 2 0 0 1 6), (125, np_iinc 6 1), (128, np_goto 104), (131, np_ald 2 4), (133, np_push 2 (.int 10)), (135, nq_callV 7 2 sp_X7_append 2 0 0 1 6), (138, np_ald 2 4), (140, nq_getf 7 1), (143, np_ret Rt)]
set_option maxRecDepth 20000 in
theorem so_X11_print {X : np_Ctx} {Rt : np_Rt} {Th : np_Th} (hX : np_ok RX11 cX11_print 7 6 100 1 6 .ireturn X) (hR : ∀ st w ce sl, Rt st w ce sl → X.2.2.1 st w ce sl) (hT : ∀ i w ce sl, Th i w ce sl → X.2.2.2 i w ce sl) : ∀ q ∈ is_X11_print Rt Th, np_S X q.1 q.2 :=
  List.forall_mem_cons.mpr ⟨np_s_aload_n hX dX11_print_0 rfl, List.forall_mem_cons.mpr ⟨np_s_iload_n hX dX11_print_1 rfl, List.forall_mem_cons.mpr ⟨np_S.mono (op := np_callV 11 2 sp_X11_descriptionOf 3 0 0 1 6) (np_s_callV hX C_X11_descriptionOf dX11_print_2 (q := (RX11, TX11, 14)) rfl rfl gw761 gw130 gw758 gw760 gw3 ⟨by decide, by decide, by decide⟩ (by decide) (by decide)) nq_callV_le, List.forall_mem_cons.mpr ⟨np_s_astore_n hX dX11_print_5 rfl (by decide), List.forall_mem_cons.mpr ⟨np_s_aload_n hX dX11_print_6 rfl, List.forall_mem_cons.mpr ⟨np_s_iload_n hX dX11_print_7 rfl, List.forall_mem_cons.mpr ⟨np_S.mono (op := np_callV 11 2 sp_X11_fileOf 2 0 0 1 6) (np_s_callV hX C_X11_fileOf dX11_print_8 (q := (RX11, TX11, 14)) rfl rfl gw1035 gw130 gw1032 gw1034 gw17 ⟨by decide, by decide, by decide⟩ (by decide) (by decide)) nq_callV_le, List.forall_mem_cons.mpr ⟨np_s_astore hX dX11_print_11 (by decide), List.forall_mem_cons.mpr ⟨np_s_aload_n hX dX11_print_13 rfl, List.forall_mem_cons.mpr ⟨np_s_ifnonnull hX dX11_print_14 (by decide), List.forall_mem_cons.mpr ⟨np_S.mono (op := np_throw X.2.2.2 0) (np_s_throw hX ⟨96, 151, 100, _, gw573, gw146, sw762, twX11_100, toX11_100_96, Or.inl ⟨dX11_print_17, dX11_print_20, dX11_print_21, dX11_print_23, dX11_print_26⟩⟩) (nq_throw_le hT), List.forall_mem_cons.mpr ⟨np_s_aload hX dX11_print_27, List.forall_mem_cons.mpr ⟨np_s_ifnonnull hX dX11_print_29 (by decide), List.forall_mem_cons.mpr ⟨np_S.mono (op := np_throw X.2.2.2 0) (np_s_throw hX ⟨96, 215, 100, _, gw573, gw146, sw1036, twX11_100, toX11_100_96, Or.inl ⟨dX11_print_32, dX11_print_35, dX11_print_36, dX11_print_38, dX11_print_41⟩⟩) (nq_throw_le hT), List.forall_mem_cons.mpr ⟨np_s_aload_n hX dX11_print_42 rfl, List.forall_mem_cons.mpr ⟨np_S.mono (op := np_getf 11 6) (np_s_getf hX dX11_print_43 (C := RX11) (T := TX11) (N := 14) rfl guX11 (by decide) gw512) nq_getf_le, List.forall_mem_cons.mpr ⟨np_s_aload_n hX dX11_print_46 rfl, List.forall_mem_cons.mpr ⟨np_S.mono (op := np_getf 1 0) (np_s_getN hX dX11_print_47 (C := RX1) (T := TX1) (N := 7) rfl guX1 (by decide) gw380) nq_getf_le, List.forall_mem_cons.mpr ⟨np_s_aload_n hX dX11_print_50 rfl, List.forall_mem_cons.mpr ⟨np_S.mono (op := np_getf 11 3) (np_s_getf hX dX11_print_51 (C := RX11) (T := TX11) (N := 14) rfl guX11 (by decide) gw509) nq_getf_le, List.forall_mem_cons.mpr ⟨np_S.mono (op := np_ifne 70) (np_s_if_ne hX dX11_print_57 (by decide)) nq_ifne_le, List.forall_mem_cons.mpr ⟨np_S.mono (op := np_throw X.2.2.2 2) (np_s_throw hX ⟨116, 239, 120, _, gw667, gw148, sw1058, twX11_120, toX11_120_116, Or.inl ⟨dX11_print_60, dX11_print_63, dX11_print_64, dX11_print_66, dX11_print_69⟩⟩) (nq_throw_le hT), List.forall_mem_cons.mpr ⟨np_s_aload_n hX dX11_print_70 rfl, List.forall_mem_cons.mpr ⟨np_S.mono (op := np_getf 11 6) (np_s_getf hX dX11_print_71 (C := RX11) (T := TX11) (N := 14) rfl guX11 (by decide) gw512) nq_getf_le, List.forall_mem_cons.mpr ⟨np_s_istore hX dX11_print_77 (by decide), List.forall_mem_cons.mpr ⟨np_s_aload hX dX11_print_79, List.forall_mem_cons.mpr ⟨np_s_iload hX dX11_print_81, List.forall_mem_cons.mpr ⟨np_s_iconst hX dX11_print_83 (by decide), List.forall_mem_cons.mpr ⟨np_s_iadd hX dX11_print_84, List.forall_mem_cons.mpr ⟨np_S.mono (op := np_callV 7 2 sp_X7_takes 2 0 0 1 6) (np_s_callV hX C_X7_takes dX11_print_85 (q := (RX7, TX7, 3)) rfl rfl gw1044 gw135 gw1041 gw1042 gw1043 ⟨by decide, by decide, by decide⟩ (by decide) (by decide)) nq_callV_le, List.forall_mem_cons.mpr ⟨np_S.mono (op := np_ifne 101) (np_s_if_ne hX dX11_print_88 (by decide)) nq_ifne_le, List.forall_mem_cons.mpr ⟨np_S.mono (op := np_throw X.2.2.2 2) (np_s_throw hX ⟨116, 226, 120, _, gw667, gw148, sw1045, twX11_120, toX11_120_116, Or.inl ⟨dX11_print_91, dX11_print_94, dX11_print_95, dX11_print_97, dX11_print_100⟩⟩) (nq_throw_le hT), List.forall_mem_cons.mpr ⟨np_s_iconst hX dX11_print_101 (by decide), List.forall_mem_cons.mpr ⟨np_s_istore hX dX11_print_102 (by decide), List.forall_mem_cons.mpr ⟨np_s_iload hX dX11_print_104, List.forall_mem_cons.mpr ⟨np_s_iload hX dX11_print_106, List.forall_mem_cons.mpr ⟨np_S.mono (op := np_ic (fun x y => y ≤ x) 131) (np_s_icmp_ge hX dX11_print_108 (by decide)) nq_ic_le, List.forall_mem_cons.mpr ⟨np_s_aload hX dX11_print_111, List.forall_mem_cons.mpr ⟨np_s_aload_n hX dX11_print_113 rfl, List.forall_mem_cons.mpr ⟨np_S.mono (op := np_getf 11 6) (np_s_getf hX dX11_print_114 (C := RX11) (T := TX11) (N := 14) rfl guX11 (by decide) gw512) nq_getf_le, List.forall_mem_cons.mpr ⟨np_s_iload hX dX11_print_117, List.forall_mem_cons.mpr ⟨np_S.mono (op := np_callV 7 2 sp_X7_append 2 0 0 1 6) (np_s_callV hX C_X7_append dX11_print_122 (q := (RX7, TX7, 3)) rfl rfl gw1049 gw135 gw1046 gw1047 gw1048 ⟨by decide, by decide, by decide⟩ (by decide) (by decide)) nq_callV_le, List.forall_mem_cons.mpr ⟨np_s_iinc hX dX11_print_125 (by decide), List.forall_mem_cons.mpr ⟨np_s_goto hX dX11_print_128 (by decide), List.forall_mem_cons.mpr ⟨np_s_aload hX dX11_print_131, List.forall_mem_cons.mpr ⟨np_s_bipush hX dX11_print_133 (by decide), List.forall_mem_cons.mpr ⟨np_S.mono (op := np_callV 7 2 sp_X7_append 2 0 0 1 6) (np_s_callV hX C_X7_append dX11_print_135 (q := (RX7, TX7, 3)) rfl rfl gw1049 gw135 gw1046 gw1047 gw1048 ⟨by decide, by decide, by decide⟩ (by decide) (by decide)) nq_callV_le, List.forall_mem_cons.mpr ⟨np_s_aload hX dX11_print_138, List.forall_mem_cons.mpr ⟨np_S.mono (op := np_getf 7 1) (np_s_getN hX dX11_print_140 (C := RX7) (T := TX7) (N := 3) rfl guX7 (by decide) gw276) nq_getf_le, List.forall_mem_cons.mpr ⟨np_S.mono (op := np_ret X.2.2.1) (np_s_ret hX dX11_print_143) (nq_ret_le hR), fun _ h => nomatch h⟩⟩⟩⟩⟩⟩⟩⟩⟩⟩⟩⟩⟩⟩⟩⟩⟩⟩⟩⟩⟩⟩⟩⟩⟩⟩⟩⟩⟩⟩⟩⟩⟩⟩⟩⟩⟩⟩⟩⟩⟩⟩⟩⟩⟩⟩⟩⟩⟩⟩
abbrev sp_X11_print : np_SpX := nq_inX is_X11_print (some .int) 1 6 400
theorem C_X11_print : np_CX yX11_print cX11_print 7 (some .int) 6 100 1 6 sp_X11_print := nq_inCX 400 (by decide) (by decide) (by decide) (fun X Rt Th hX hmn hR hT => so_X11_print hX hR hT)
theorem dX11_close_0 : decode cX11_close 0 = .ok (.aload_n 0, 1) := by decide +kernel
theorem dX11_close_1 : decode cX11_close 1 = .ok (.iload_n 1, 1) := by decide +kernel
theorem dX11_close_2 : decode cX11_close 2 = .ok (.invokevirtual 211, 3) := by decide +kernel
theorem dX11_close_5 : decode cX11_close 5 = .ok (.astore_n 2, 1) := by decide +kernel
theorem dX11_close_6 : decode cX11_close 6 = .ok (.aload_n 2, 1) := by decide +kernel
theorem dX11_close_7 : decode cX11_close 7 = .ok (.ifnonnull 13, 3) := by decide +kernel
theorem dX11_close_10 : decode cX11_close 10 = .ok (.new 96, 3) := by decide +kernel
theorem dX11_close_13 : decode cX11_close 13 = .ok (.dup, 1) := by decide +kernel
theorem dX11_close_14 : decode cX11_close 14 = .ok (.ldc 215, 2) := by decide +kernel
theorem dX11_close_16 : decode cX11_close 16 = .ok (.invokespecial 100, 3) := by decide +kernel
theorem dX11_close_19 : decode cX11_close 19 = .ok (.athrow, 1) := by decide +kernel
theorem dX11_close_20 : decode cX11_close 20 = .ok (.aload_n 2, 1) := by decide +kernel
theorem dX11_close_21 : decode cX11_close 21 = .ok (.getfield 246, 3) := by decide +kernel
theorem dX11_close_24 : decode cX11_close 24 = .ok (.istore_n 3, 1) := by decide +kernel
theorem dX11_close_25 : decode cX11_close 25 = .ok (.aload_n 2, 1) := by decide +kernel
theorem dX11_close_26 : decode cX11_close 26 = .ok (.iconst 0, 1) := by decide +kernel
theorem dX11_close_27 : decode cX11_close 27 = .ok (.putfield 246, 3) := by decide +kernel
theorem dX11_close_30 : decode cX11_close 30 = .ok (.iload_n 3, 1) := by decide +kernel
theorem dX11_close_31 : decode cX11_close 31 = .ok (.ireturn, 1) := by decide +kernel
def is_X11_close (Rt : np_Rt) (Th : np_Th) : List (Nat × np_Op) := [(0, np_ald 1 0), (1, np_ild 1 1), (2, nq_callV 11 2 sp_X11_fileOf 2 0 0 1 6), (5, np_ast 1 2), (6, np_ald 1 2), (7, np_ifnonnull 20), (10, nq_throw Th 0), (20, np_ald 1 2), (21, nq_getf 7 2), (24, np_ist 1 3), (25, np_ald 1 2), (26, np_push 1 (.int 0)), (27, nq_putf 7 2 (.boolean)), (30, np_ild 1 3), (31, np_ret Rt)]
set_option maxRecDepth 20000 in
theorem so_X11_close {X : np_Ctx} {Rt : np_Rt} {Th : np_Th} (hX : np_ok RX11 cX11_close 4 6 100 1 6 .ireturn X) (hR : ∀ st w ce sl, Rt st w ce sl → X.2.2.1 st w ce sl) (hT : ∀ i w ce sl, Th i w ce sl → X.2.2.2 i w ce sl) : ∀ q ∈ is_X11_close Rt Th, np_S X q.1 q.2 :=
  List.forall_mem_cons.mpr ⟨np_s_aload_n hX dX11_close_0 rfl, List.forall_mem_cons.mpr ⟨np_s_iload_n hX dX11_close_1 rfl, List.forall_mem_cons.mpr ⟨np_S.mono (op := np_callV 11 2 sp_X11_fileOf 2 0 0 1 6) (np_s_callV hX C_X11_fileOf dX11_close_2 (q := (RX11, TX11, 14)) rfl rfl gw1035 gw130 gw1032 gw1034 gw17 ⟨by decide, by decide, by decide⟩ (by decide) (by decide)) nq_callV_le, List.forall_mem_cons.mpr ⟨np_s_astore_n hX dX11_close_5 rfl (by decide), List.forall_mem_cons.mpr ⟨np_s_aload_n hX dX11_close_6 rfl, List.forall_mem_cons.mpr ⟨np_s_ifnonnull hX dX11_close_7 (by decide), List.forall_mem_cons.mpr ⟨np_S.mono (op := np_throw X.2.2.2 0) (np_s_throw hX ⟨96, 215, 100, _, gw573, gw146, sw1036, twX11_100, toX11_100_96, Or.inl ⟨dX11_close_10, dX11_close_13, dX11_close_14, dX11_close_16, dX11_close_19⟩⟩) (nq_throw_le hT), List.forall_mem_cons.mpr ⟨np_s_aload_n hX dX11_close_20 rfl, List.forall_mem_cons.mpr ⟨np_S.mono (op := np_getf 7 2) (np_s_getN hX dX11_close_21 (C := RX7) (T := TX7) (N := 3) rfl guX7 (by decide) gw278) nq_getf_le, List.forall_mem_cons.mpr ⟨np_s_istore_n hX dX11_close_24 rfl (by decide), List.forall_mem_cons.mpr ⟨np_s_aload_n hX dX11_close_25 rfl, List.forall_mem_cons.mpr ⟨np_s_iconst hX dX11_close_26 (by decide), List.forall_mem_cons.mpr ⟨np_S.mono (op := np_putf 7 2 (.boolean)) (np_s_putN hX dX11_close_27 (C := RX7) (T := TX7) (N := 3) (ty0 := tyX7) rfl guX7 tyX7_ok nmX7 (by decide) gw278 rfl rfl) nq_putf_le, List.forall_mem_cons.mpr ⟨np_s_iload_n hX dX11_close_30 rfl, List.forall_mem_cons.mpr ⟨np_S.mono (op := np_ret X.2.2.1) (np_s_ret hX dX11_close_31) (nq_ret_le hR), fun _ h => nomatch h⟩⟩⟩⟩⟩⟩⟩⟩⟩⟩⟩⟩⟩⟩⟩
abbrev sp_X11_close : np_SpX := nq_inX is_X11_close (some .boolean) 1 6 400
theorem C_X11_close : np_CX yX11_close cX11_close 4 (some .boolean) 6 100 1 6 sp_X11_close := nq_inCX 400 (by decide) (by decide) (by decide) (fun X Rt Th hX hmn hR hT => so_X11_close hX hR hT)
theorem dX11_unit_0 : decode cX11_unit 0 = .ok (.aload_n 0, 1) := by decide +kernel
theorem dX11_unit_1 : decode cX11_unit 1 = .ok (.iload_n 1, 1) := by decide +kernel
theorem dX11_unit_2 : decode cX11_unit 2 = .ok (.invokevirtual 211, 3) := by decide +kernel
theorem dX11_unit_5 : decode cX11_unit 5 = .ok (.astore_n 3, 1) := by decide +kernel
theorem dX11_unit_6 : decode cX11_unit 6 = .ok (.aload_n 3, 1) := by decide +kernel
theorem dX11_unit_7 : decode cX11_unit 7 = .ok (.ifnonnull 13, 3) := by decide +kernel
theorem dX11_unit_10 : decode cX11_unit 10 = .ok (.new 96, 3) := by decide +kernel
theorem dX11_unit_13 : decode cX11_unit 13 = .ok (.dup, 1) := by decide +kernel
theorem dX11_unit_14 : decode cX11_unit 14 = .ok (.ldc 215, 2) := by decide +kernel
theorem dX11_unit_16 : decode cX11_unit 16 = .ok (.invokespecial 100, 3) := by decide +kernel
theorem dX11_unit_19 : decode cX11_unit 19 = .ok (.athrow, 1) := by decide +kernel
theorem dX11_unit_20 : decode cX11_unit 20 = .ok (.aload_n 3, 1) := by decide +kernel
theorem dX11_unit_21 : decode cX11_unit 21 = .ok (.iload_n 2, 1) := by decide +kernel
theorem dX11_unit_22 : decode cX11_unit 22 = .ok (.invokevirtual 250, 3) := by decide +kernel
theorem dX11_unit_25 : decode cX11_unit 25 = .ok (.istore 4, 2) := by decide +kernel
theorem dX11_unit_27 : decode cX11_unit 27 = .ok (.iload 4, 2) := by decide +kernel
theorem dX11_unit_29 : decode cX11_unit 29 = .ok (.iconst (-1), 1) := by decide +kernel
theorem dX11_unit_30 : decode cX11_unit 30 = .ok (.if_icmp .ne 13, 3) := by decide +kernel
theorem dX11_unit_33 : decode cX11_unit 33 = .ok (.new 96, 3) := by decide +kernel
theorem dX11_unit_36 : decode cX11_unit 36 = .ok (.dup, 1) := by decide +kernel
theorem dX11_unit_37 : decode cX11_unit 37 = .ok (.ldc 251, 2) := by decide +kernel
theorem dX11_unit_39 : decode cX11_unit 39 = .ok (.invokespecial 100, 3) := by decide +kernel
theorem dX11_unit_42 : decode cX11_unit 42 = .ok (.athrow, 1) := by decide +kernel
theorem dX11_unit_43 : decode cX11_unit 43 = .ok (.iload 4, 2) := by decide +kernel
theorem dX11_unit_45 : decode cX11_unit 45 = .ok (.i2c, 1) := by decide +kernel
theorem dX11_unit_46 : decode cX11_unit 46 = .ok (.ireturn, 1) := by decide +kernel
def is_X11_unit (Rt : np_Rt) (Th : np_Th) : List (Nat × np_Op) := [(0, np_ald 1 0), (1, np_ild 1 1), (2, nq_callV 11 2 sp_X11_fileOf 2 0 0 1 6), (5, np_ast 1 3), (6, np_ald 1 3), (7, np_ifnonnull 20), (10, nq_throw Th 0), (20, np_ald 1 3), (21, np_ild 1 2), (22, nq_callV 7 2 sp_X7_unitAt 2 0 0 1 6), (25, np_ist 2 4), (27, np_ild 2 4), (29, np_push 1 (.int (-1))), (30, nq_icne 43), (33, nq_throw Th 0), (43, np_ild 2 4), (45, np_iu (fun x => (x.toUInt32 % 65536).toInt32)), (46, np_ret Rt)]
set_option maxRecDepth 20000 in
theorem so_X11_unit {X : np_Ctx} {Rt : np_Rt} {Th : np_Th} (hX : np_ok RX11 cX11_unit 5 6 100 1 6 .ireturn X) (hR : ∀ st w ce sl, Rt st w ce sl → X.2.2.1 st w ce sl) (hT : ∀ i w ce sl, Th i w ce sl → X.2.2.2 i w ce sl) : ∀ q ∈ is_X11_unit Rt Th, np_S X q.1 q.2 :=
  List.forall_mem_cons.mpr ⟨np_s_aload_n hX dX11_unit_0 rfl, List.forall_mem_cons.mpr ⟨np_s_iload_n hX dX11_unit_1 rfl, List.forall_mem_cons.mpr ⟨np_S.mono (op := np_callV 11 2 sp_X11_fileOf 2 0 0 1 6) (np_s_callV hX C_X11_fileOf dX11_unit_2 (q := (RX11, TX11, 14)) rfl rfl gw1035 gw130 gw1032 gw1034 gw17 ⟨by decide, by decide, by decide⟩ (by decide) (by decide)) nq_callV_le, List.forall_mem_cons.mpr ⟨np_s_astore_n hX dX11_unit_5 rfl (by decide), List.forall_mem_cons.mpr ⟨np_s_aload_n hX dX11_unit_6 rfl, List.forall_mem_cons.mpr ⟨np_s_ifnonnull hX dX11_unit_7 (by decide), List.forall_mem_cons.mpr ⟨np_S.mono (op := np_throw X.2.2.2 0) (np_s_throw hX ⟨96, 215, 100, _, gw573, gw146, sw1036, twX11_100, toX11_100_96, Or.inl ⟨dX11_unit_10, dX11_unit_13, dX11_unit_14, dX11_unit_16, dX11_unit_19⟩⟩) (nq_throw_le hT), List.forall_mem_cons.mpr ⟨np_s_aload_n hX dX11_unit_20 rfl, List.forall_mem_cons.mpr ⟨np_s_iload_n hX dX11_unit_21 rfl, List.forall_mem_cons.mpr ⟨np_S.mono (op := np_callV 7 2 sp_X7_unitAt 2 0 0 1 6) (np_s_callV hX C_X7_unitAt dX11_unit_22 (q := (RX7, TX7, 3)) rfl rfl gw1084 gw135 gw1081 gw1082 gw1083 ⟨by decide, by decide, by decide⟩ (by decide) (by decide)) nq_callV_le, List.forall_mem_cons.mpr ⟨np_s_istore hX dX11_unit_25 (by decide), List.forall_mem_cons.mpr ⟨np_s_iload hX dX11_unit_27, List.forall_mem_cons.mpr ⟨np_s_iconst hX dX11_unit_29 (by decide), List.forall_mem_cons.mpr ⟨np_S.mono (op := np_icne 43) (np_s_icmp_ne hX dX11_unit_30 (by decide)) nq_icne_le, List.forall_mem_cons.mpr ⟨np_S.mono (op := np_throw X.2.2.2 0) (np_s_throw hX ⟨96, 251, 100, _, gw573, gw146, sw1085, twX11_100, toX11_100_96, Or.inl ⟨dX11_unit_33, dX11_unit_36, dX11_unit_37, dX11_unit_39, dX11_unit_42⟩⟩) (nq_throw_le hT), List.forall_mem_cons.mpr ⟨np_s_iload hX dX11_unit_43, List.forall_mem_cons.mpr ⟨np_s_i2c hX dX11_unit_45, List.forall_mem_cons.mpr ⟨np_S.mono (op := np_ret X.2.2.1) (np_s_ret hX dX11_unit_46) (nq_ret_le hR), fun _ h => nomatch h⟩⟩⟩⟩⟩⟩⟩⟩⟩⟩⟩⟩⟩⟩⟩⟩⟩⟩
abbrev sp_X11_unit : np_SpX := nq_inX is_X11_unit (some .char) 1 6 400
theorem C_X11_unit : np_CX yX11_unit cX11_unit 5 (some .char) 6 100 1 6 sp_X11_unit := nq_inCX 400 (by decide) (by decide) (by decide) (fun X Rt Th hX hmn hR hT => so_X11_unit hX hR hT)
theorem dX11_readings_0 : decode cX11_readings 0 = .ok (.aload_n 0, 1) := by decide +kernel
theorem dX11_readings_1 : decode cX11_readings 1 = .ok (.iload_n 1, 1) := by decide +kernel
theorem dX11_readings_2 : decode cX11_readings 2 = .ok (.invokevirtual 147, 3) := by decide +kernel
theorem dX11_readings_5 : decode cX11_readings 5 = .ok (.astore 4, 2) := by decide +kernel
theorem dX11_readings_7 : decode cX11_readings 7 = .ok (.aload_n 0, 1) := by decide +kernel
theorem dX11_readings_8 : decode cX11_readings 8 = .ok (.iload_n 2, 1) := by decide +kernel
theorem dX11_readings_9 : decode cX11_readings 9 = .ok (.invokevirtual 211, 3) := by decide +kernel
theorem dX11_readings_12 : decode cX11_readings 12 = .ok (.astore 5, 2) := by decide +kernel
theorem dX11_readings_14 : decode cX11_readings 14 = .ok (.aload 4, 2) := by decide +kernel
theorem dX11_readings_16 : decode cX11_readings 16 = .ok (.ifnonnull 13, 3) := by decide +kernel
theorem dX11_readings_19 : decode cX11_readings 19 = .ok (.new 96, 3) := by decide +kernel
theorem dX11_readings_22 : decode cX11_readings 22 = .ok (.dup, 1) := by decide +kernel
theorem dX11_readings_23 : decode cX11_readings 23 = .ok (.ldc 151, 2) := by decide +kernel
theorem dX11_readings_25 : decode cX11_readings 25 = .ok (.invokespecial 100, 3) := by decide +kernel
theorem dX11_readings_28 : decode cX11_readings 28 = .ok (.athrow, 1) := by decide +kernel
theorem dX11_readings_29 : decode cX11_readings 29 = .ok (.aload 5, 2) := by decide +kernel
theorem dX11_readings_31 : decode cX11_readings 31 = .ok (.ifnull 12, 3) := by decide +kernel
theorem dX11_readings_34 : decode cX11_readings 34 = .ok (.aload 5, 2) := by decide +kernel
theorem dX11_readings_36 : decode cX11_readings 36 = .ok (.iload_n 3, 1) := by decide +kernel
theorem dX11_readings_37 : decode cX11_readings 37 = .ok (.invokevirtual 253, 3) := by decide +kernel
theorem dX11_readings_40 : decode cX11_readings 40 = .ok (.ifCond .ne 14, 3) := by decide +kernel
theorem dX11_readings_43 : decode cX11_readings 43 = .ok (.new 96, 3) := by decide +kernel
theorem dX11_readings_46 : decode cX11_readings 46 = .ok (.dup, 1) := by decide +kernel
theorem dX11_readings_47 : decode cX11_readings 47 = .ok (.ldc_w 256, 3) := by decide +kernel
theorem dX11_readings_50 : decode cX11_readings 50 = .ok (.invokespecial 100, 3) := by decide +kernel
theorem dX11_readings_53 : decode cX11_readings 53 = .ok (.athrow, 1) := by decide +kernel
theorem dX11_readings_54 : decode cX11_readings 54 = .ok (.iconst 0, 1) := by decide +kernel
theorem dX11_readings_55 : decode cX11_readings 55 = .ok (.istore 6, 2) := by decide +kernel
theorem dX11_readings_57 : decode cX11_readings 57 = .ok (.aload_n 0, 1) := by decide +kernel
theorem dX11_readings_58 : decode cX11_readings 58 = .ok (.getfield 54, 3) := by decide +kernel
theorem dX11_readings_61 : decode cX11_readings 61 = .ok (.aload 4, 2) := by decide +kernel
theorem dX11_readings_63 : decode cX11_readings 63 = .ok (.getfield 140, 3) := by decide +kernel
theorem dX11_readings_66 : decode cX11_readings 66 = .ok (.aload 5, 2) := by decide +kernel
theorem dX11_readings_68 : decode cX11_readings 68 = .ok (.iload_n 3, 1) := by decide +kernel
theorem dX11_readings_69 : decode cX11_readings 69 = .ok (.invokevirtual 258, 3) := by decide +kernel
theorem dX11_readings_72 : decode cX11_readings 72 = .ok (.iconst 0, 1) := by decide +kernel
theorem dX11_readings_73 : decode cX11_readings 73 = .ok (.istore 7, 2) := by decide +kernel
theorem dX11_readings_75 : decode cX11_readings 75 = .ok (.iload 7, 2) := by decide +kernel
theorem dX11_readings_77 : decode cX11_readings 77 = .ok (.sipush 10000, 3) := by decide +kernel
theorem dX11_readings_80 : decode cX11_readings 80 = .ok (.if_icmp .ge 22, 3) := by decide +kernel
theorem dX11_readings_83 : decode cX11_readings 83 = .ok (.aload_n 0, 1) := by decide +kernel
theorem dX11_readings_84 : decode cX11_readings 84 = .ok (.getfield 54, 3) := by decide +kernel
theorem dX11_readings_87 : decode cX11_readings 87 = .ok (.invokevirtual 262, 3) := by decide +kernel
theorem dX11_readings_90 : decode cX11_readings 90 = .ok (.ifCond .eq 12, 3) := by decide +kernel
theorem dX11_readings_93 : decode cX11_readings 93 = .ok (.iinc 6 1, 3) := by decide +kernel
theorem dX11_readings_96 : decode cX11_readings 96 = .ok (.iinc 7 1, 3) := by decide +kernel
theorem dX11_readings_99 : decode cX11_readings 99 = .ok (.goto (-24), 3) := by decide +kernel
theorem dX11_readings_102 : decode cX11_readings 102 = .ok (.aload_n 0, 1) := by decide +kernel
theorem dX11_readings_103 : decode cX11_readings 103 = .ok (.getfield 54, 3) := by decide +kernel
theorem dX11_readings_106 : decode cX11_readings 106 = .ok (.getfield 265, 3) := by decide +kernel
theorem dX11_readings_109 : decode cX11_readings 109 = .ok (.ifCond .eq 7, 3) := by decide +kernel
theorem dX11_readings_112 : decode cX11_readings 112 = .ok (.iconst (-1), 1) := by decide +kernel
theorem dX11_readings_113 : decode cX11_readings 113 = .ok (.goto 10, 3) := by decide +kernel
theorem dX11_readings_116 : decode cX11_readings 116 = .ok (.iload 6, 2) := by decide +kernel
theorem dX11_readings_118 : decode cX11_readings 118 = .ok (.bipush 99, 2) := by decide +kernel
theorem dX11_readings_120 : decode cX11_readings 120 = .ok (.invokestatic 268, 3) := by decide +kernel
theorem dX11_readings_123 : decode cX11_readings 123 = .ok (.ireturn, 1) := by decide +kernel
def is_X11_readings (Rt : np_Rt) (Th : np_Th) : List (Nat × np_Op) := [(0, np_ald 1 0), (1, np_ild 1 1), (2, nq_callV 11 2 sp_X11_descriptionOf 3 0 0 1 6), (5, np_ast 2 4), (7, np_ald 1 0), (8, np_ild 1 2), (9, nq_callV 11 2 sp_X11_fileOf 2 0 0 1 6), (12, np_ast 2 5), (14, np_ald 2 4), (16, np_ifnonnull 29), (19, nq_throw Th 0), (29, np_ald 2 5), (31, np_ifnull 43), (34, np_ald 2 5), (36, np_ild 1 3), (40, nq_ifne 54), (43, nq_throw Th 0), (54, np_push 1 (.int 0)), (55, np_ist 2 6), (57, np_ald 1 0), (58, nq_getf 11 7), (61, np_ald 2 4), (63, nq_getf 1 0), (66, np_ald 2 5), (68, np_ild 1 3), (72, np_push 1 (.int 0)), (73, np_ist 2 7), (75, np_ild 2 7), (77, np_push 3 (.int 10000)), (80, nq_ic (fun x y => y ≤ x) 102), (83, np_ald 1 0), (84, nq_getf 11 7), (90, nq_if (fun x => x = 0) 102), (93, np_iinc 6 1), (96, np_iinc 7 1), (99, np_goto 75), (102, np_ald 1 0), (103, nq_getf 11 7), (106, nq_getf 4 10), (109, nq_if (fun x => x = 0) 116), (112, np_push 1 (.int (-1))), (113, np_goto 123), (116, np_ild 2 6), (118, np_push 2 (.int 99)), (120, nq_mm 1 6), (123, np_ret Rt)]
set_option maxRecDepth 20000 in
theorem so_X11_readings {X : np_Ctx} {Rt : np_Rt} {Th : np_Th} (hX : np_ok RX11 cX11_readings 8 6 100 1 6 .ireturn X) (hR : ∀ st w ce sl, Rt st w ce sl → X.2.2.1 st w ce sl) (hT : ∀ i w ce sl, Th i w ce sl → X.2.2.2 i w ce sl) : ∀ q ∈ is_X11_readings Rt Th, np_S X q.1 q.2 :=
  List.forall_mem_cons.mpr ⟨np_s_aload_n hX dX11_readings_0 rfl, List.forall_mem_cons.mpr ⟨np_s_iload_n hX dX11_readings_1 rfl, List.forall_mem_cons.mpr ⟨np_S.mono (op := np_callV 11 2 sp_X11_descriptionOf 3 0 0 1 6) (np_s_callV hX C_X11_descriptionOf dX11_readings_2 (q := (RX11, TX11, 14)) rfl rfl gw761 gw130 gw758 gw760 gw3 ⟨by decide, by decide, by decide⟩ (by decide) (by decide)) nq_callV_le, List.forall_mem_cons.mpr ⟨np_s_astore hX dX11_readings_5 (by decide), List.forall_mem_cons.mpr ⟨np_s_aload_n hX dX11_readings_7 rfl, List.forall_mem_cons.mpr ⟨np_s_iload_n hX dX11_readings_8 rfl, List.forall_mem_cons.mpr ⟨np_S.mono (op := np_callV 11 2 sp_X11_fileOf 2 0 0 1 6) (np_s_callV hX C_X11_fileOf dX11_readings_9 (q := (RX11, TX11, 14)) rfl rfl gw1035 gw130 gw1032 gw1034 gw17 ⟨by decide, by decide, by decide⟩ (by decide) (by decide)) nq_callV_le, List.forall_mem_cons.mpr ⟨np_s_astore hX dX11_readings_12 (by decide), List.forall_mem_cons.mpr ⟨np_s_aload hX dX11_readings_14, List.forall_mem_cons.mpr ⟨np_s_ifnonnull hX dX11_readings_16 (by decide), List.forall_mem_cons.mpr ⟨np_S.mono (op := np_throw X.2.2.2 0) (np_s_throw hX ⟨96, 151, 100, _, gw573, gw146, sw762, twX11_100, toX11_100_96, Or.inl ⟨dX11_readings_19, dX11_readings_22, dX11_readings_23, dX11_readings_25, dX11_readings_28⟩⟩) (nq_throw_le hT), List.forall_mem_cons.mpr ⟨np_s_aload hX dX11_readings_29, List.forall_mem_cons.mpr ⟨np_s_ifnull hX dX11_readings_31 (by decide), List.forall_mem_cons.mpr ⟨np_s_aload hX dX11_readings_34, List.forall_mem_cons.mpr ⟨np_s_iload_n hX dX11_readings_36 rfl, List.forall_mem_cons.mpr ⟨np_S.mono (op := np_ifne 54) (np_s_if_ne hX dX11_readings_40 (by decide)) nq_ifne_le, List.forall_mem_cons.mpr ⟨np_S.mono (op := np_throw X.2.2.2 0) (np_s_throw hX ⟨96, 256, 100, _, gw573, gw146, sw1097, twX11_100, toX11_100_96, Or.inr ⟨dX11_readings_43, dX11_readings_46, dX11_readings_47, dX11_readings_50, dX11_readings_53⟩⟩) (nq_throw_le hT), List.forall_mem_cons.mpr ⟨np_s_iconst hX dX11_readings_54 (by decide), List.forall_mem_cons.mpr ⟨np_s_istore hX dX11_readings_55 (by decide), List.forall_mem_cons.mpr ⟨np_s_aload_n hX dX11_readings_57 rfl, List.forall_mem_cons.mpr ⟨np_S.mono (op := np_getf 11 7) (np_s_getf hX dX11_readings_58 (C := RX11) (T := TX11) (N := 14) rfl guX11 (by decide) gw513) nq_getf_le, List.forall_mem_cons.mpr ⟨np_s_aload hX dX11_readings_61, List.forall_mem_cons.mpr ⟨np_S.mono (op := np_getf 1 0) (np_s_getN hX dX11_readings_63 (C := RX1) (T := TX1) (N := 7) rfl guX1 (by decide) gw380) nq_getf_le, List.forall_mem_cons.mpr ⟨np_s_aload hX dX11_readings_66, List.forall_mem_cons.mpr ⟨np_s_iload_n hX dX11_readings_68 rfl, List.forall_mem_cons.mpr ⟨np_s_iconst hX dX11_readings_72 (by decide), List.forall_mem_cons.mpr ⟨np_s_istore hX dX11_readings_73 (by decide), List.forall_mem_cons.mpr ⟨np_s_iload hX dX11_readings_75, List.forall_mem_cons.mpr ⟨np_s_sipush hX dX11_readings_77 (by decide), List.forall_mem_cons.mpr ⟨np_S.mono (op := np_ic (fun x y => y ≤ x) 102) (np_s_icmp_ge hX dX11_readings_80 (by decide)) nq_ic_le, List.forall_mem_cons.mpr ⟨np_s_aload_n hX dX11_readings_83 rfl, List.forall_mem_cons.mpr ⟨np_S.mono (op := np_getf 11 7) (np_s_getf hX dX11_readings_84 (C := RX11) (T := TX11) (N := 14) rfl guX11 (by decide) gw513) nq_getf_le, List.forall_mem_cons.mpr ⟨np_S.mono (op := np_if (fun x => x = 0) 102) (np_s_if_eq hX dX11_readings_90 (by decide)) nq_if_le, List.forall_mem_cons.mpr ⟨np_s_iinc hX dX11_readings_93 (by decide), List.forall_mem_cons.mpr ⟨np_s_iinc hX dX11_readings_96 (by decide), List.forall_mem_cons.mpr ⟨np_s_goto hX dX11_readings_99 (by decide), List.forall_mem_cons.mpr ⟨np_s_aload_n hX dX11_readings_102 rfl, List.forall_mem_cons.mpr ⟨np_S.mono (op := np_getf 11 7) (np_s_getf hX dX11_readings_103 (C := RX11) (T := TX11) (N := 14) rfl guX11 (by decide) gw513) nq_getf_le, List.forall_mem_cons.mpr ⟨np_S.mono (op := np_getf 4 10) (np_s_getN hX dX11_readings_106 (C := RX4) (T := TX4) (N := 11) rfl guX4 (by decide) gw299) nq_getf_le, List.forall_mem_cons.mpr ⟨np_S.mono (op := np_if (fun x => x = 0) 116) (np_s_if_eq hX dX11_readings_109 (by decide)) nq_if_le, List.forall_mem_cons.mpr ⟨np_s_iconst hX dX11_readings_112 (by decide), List.forall_mem_cons.mpr ⟨np_s_goto hX dX11_readings_113 (by decide), List.forall_mem_cons.mpr ⟨np_s_iload hX dX11_readings_116, List.forall_mem_cons.mpr ⟨np_s_bipush hX dX11_readings_118 (by decide), List.forall_mem_cons.mpr ⟨np_S.mono (op := np_mm 1 6) (np_s_mmin hX dX11_readings_120 gw1190 gw1191 gw150 gw1192 (by decide) (by decide)) nq_mm_le, List.forall_mem_cons.mpr ⟨np_S.mono (op := np_ret X.2.2.1) (np_s_ret hX dX11_readings_123) (nq_ret_le hR), fun _ h => nomatch h⟩⟩⟩⟩⟩⟩⟩⟩⟩⟩⟩⟩⟩⟩⟩⟩⟩⟩⟩⟩⟩⟩⟩⟩⟩⟩⟩⟩⟩⟩⟩⟩⟩⟩⟩⟩⟩⟩⟩⟩⟩⟩⟩⟩⟩⟩
abbrev sp_X11_readings : np_SpX := nq_inX is_X11_readings (some .int) 1 6 400
theorem C_X11_readings : np_CX yX11_readings cX11_readings 8 (some .int) 6 100 1 6 sp_X11_readings := nq_inCX 400 (by decide) (by decide) (by decide) (fun X Rt Th hX hmn hR hT => so_X11_readings hX hR hT)
theorem dX11_readingsAnew_0 : decode cX11_readingsAnew 0 = .ok (.aload_n 0, 1) := by decide +kernel
theorem dX11_readingsAnew_1 : decode cX11_readingsAnew 1 = .ok (.iload_n 1, 1) := by decide +kernel
theorem dX11_readingsAnew_2 : decode cX11_readingsAnew 2 = .ok (.invokevirtual 147, 3) := by decide +kernel
theorem dX11_readingsAnew_5 : decode cX11_readingsAnew 5 = .ok (.astore 4, 2) := by decide +kernel
theorem dX11_readingsAnew_7 : decode cX11_readingsAnew 7 = .ok (.aload_n 0, 1) := by decide +kernel
theorem dX11_readingsAnew_8 : decode cX11_readingsAnew 8 = .ok (.iload_n 2, 1) := by decide +kernel
theorem dX11_readingsAnew_9 : decode cX11_readingsAnew 9 = .ok (.invokevirtual 211, 3) := by decide +kernel
theorem dX11_readingsAnew_12 : decode cX11_readingsAnew 12 = .ok (.astore 5, 2) := by decide +kernel
theorem dX11_readingsAnew_14 : decode cX11_readingsAnew 14 = .ok (.aload 4, 2) := by decide +kernel
theorem dX11_readingsAnew_16 : decode cX11_readingsAnew 16 = .ok (.ifnonnull 13, 3) := by decide +kernel
theorem dX11_readingsAnew_19 : decode cX11_readingsAnew 19 = .ok (.new 96, 3) := by decide +kernel
theorem dX11_readingsAnew_22 : decode cX11_readingsAnew 22 = .ok (.dup, 1) := by decide +kernel
theorem dX11_readingsAnew_23 : decode cX11_readingsAnew 23 = .ok (.ldc 151, 2) := by decide +kernel
theorem dX11_readingsAnew_25 : decode cX11_readingsAnew 25 = .ok (.invokespecial 100, 3) := by decide +kernel
theorem dX11_readingsAnew_28 : decode cX11_readingsAnew 28 = .ok (.athrow, 1) := by decide +kernel
theorem dX11_readingsAnew_29 : decode cX11_readingsAnew 29 = .ok (.aload 5, 2) := by decide +kernel
theorem dX11_readingsAnew_31 : decode cX11_readingsAnew 31 = .ok (.ifnull 12, 3) := by decide +kernel
theorem dX11_readingsAnew_34 : decode cX11_readingsAnew 34 = .ok (.aload 5, 2) := by decide +kernel
theorem dX11_readingsAnew_36 : decode cX11_readingsAnew 36 = .ok (.iload_n 3, 1) := by decide +kernel
theorem dX11_readingsAnew_37 : decode cX11_readingsAnew 37 = .ok (.invokevirtual 253, 3) := by decide +kernel
theorem dX11_readingsAnew_40 : decode cX11_readingsAnew 40 = .ok (.ifCond .ne 14, 3) := by decide +kernel
theorem dX11_readingsAnew_43 : decode cX11_readingsAnew 43 = .ok (.new 96, 3) := by decide +kernel
theorem dX11_readingsAnew_46 : decode cX11_readingsAnew 46 = .ok (.dup, 1) := by decide +kernel
theorem dX11_readingsAnew_47 : decode cX11_readingsAnew 47 = .ok (.ldc_w 256, 3) := by decide +kernel
theorem dX11_readingsAnew_50 : decode cX11_readingsAnew 50 = .ok (.invokespecial 100, 3) := by decide +kernel
theorem dX11_readingsAnew_53 : decode cX11_readingsAnew 53 = .ok (.athrow, 1) := by decide +kernel
theorem dX11_readingsAnew_54 : decode cX11_readingsAnew 54 = .ok (.aload_n 0, 1) := by decide +kernel
theorem dX11_readingsAnew_55 : decode cX11_readingsAnew 55 = .ok (.getfield 54, 3) := by decide +kernel
theorem dX11_readingsAnew_58 : decode cX11_readingsAnew 58 = .ok (.aload 4, 2) := by decide +kernel
theorem dX11_readingsAnew_60 : decode cX11_readingsAnew 60 = .ok (.getfield 140, 3) := by decide +kernel
theorem dX11_readingsAnew_63 : decode cX11_readingsAnew 63 = .ok (.aload 5, 2) := by decide +kernel
theorem dX11_readingsAnew_65 : decode cX11_readingsAnew 65 = .ok (.iload_n 3, 1) := by decide +kernel
theorem dX11_readingsAnew_66 : decode cX11_readingsAnew 66 = .ok (.invokevirtual 258, 3) := by decide +kernel
theorem dX11_readingsAnew_69 : decode cX11_readingsAnew 69 = .ok (.aload_n 0, 1) := by decide +kernel
theorem dX11_readingsAnew_70 : decode cX11_readingsAnew 70 = .ok (.getfield 54, 3) := by decide +kernel
theorem dX11_readingsAnew_73 : decode cX11_readingsAnew 73 = .ok (.invokevirtual 273, 3) := by decide +kernel
theorem dX11_readingsAnew_76 : decode cX11_readingsAnew 76 = .ok (.bipush 99, 2) := by decide +kernel
theorem dX11_readingsAnew_78 : decode cX11_readingsAnew 78 = .ok (.invokestatic 268, 3) := by decide +kernel
theorem dX11_readingsAnew_81 : decode cX11_readingsAnew 81 = .ok (.ireturn, 1) := by decide +kernel
def is_X11_readingsAnew (Rt : np_Rt) (Th : np_Th) : List (Nat × np_Op) := [(0, np_ald 1 0), (1, np_ild 1 1), (2, nq_callV 11 2 sp_X11_descriptionOf 3 0 0 1 6), (5, np_ast 2 4), (7, np_ald 1 0), (8, np_ild 1 2), (9, nq_callV 11 2 sp_X11_fileOf 2 0 0 1 6), (12, np_ast 2 5), (14, np_ald 2 4), (16, np_ifnonnull 29), (19, nq_throw Th 0), (29, np_ald 2 5), (31, np_ifnull 43), (34, np_ald 2 5), (36, np_ild 1 3), (40, nq_ifne 54), (43, nq_throw Th 0), (54, np_ald 1 0), (55, nq_getf 11 7), (58, np_ald 2 4), (60, nq_getf 1 0), (63, np_ald 2 5), (65, np_ild 1 3), (69, np_ald 1 0), (70, nq_getf 11 7), (76, np_push 2 (.int 99)), (78, nq_mm 1 6), (81, np_ret Rt)]
set_option maxRecDepth 20000 in
theorem so_X11_readingsAnew {X : np_Ctx} {Rt : np_Rt} {Th : np_Th} (hX : np_ok RX11 cX11_readingsAnew 6 6 100 1 6 .ireturn X) (hR : ∀ st w ce sl, Rt st w ce sl → X.2.2.1 st w ce sl) (hT : ∀ i w ce sl, Th i w ce sl → X.2.2.2 i w ce sl) : ∀ q ∈ is_X11_readingsAnew Rt Th, np_S X q.1 q.2 :=
  List.forall_mem_cons.mpr ⟨np_s_aload_n hX dX11_readingsAnew_0 rfl, List.forall_mem_cons.mpr ⟨np_s_iload_n hX dX11_readingsAnew_1 rfl, List.forall_mem_cons.mpr ⟨np_S.mono (op := np_callV 11 2 sp_X11_descriptionOf 3 0 0 1 6) (np_s_callV hX C_X11_descriptionOf dX11_readingsAnew_2 (q := (RX11, TX11, 14)) rfl rfl gw761 gw130 gw758 gw760 gw3 ⟨by decide, by decide, by decide⟩ (by decide) (by decide)) nq_callV_le, List.forall_mem_cons.mpr ⟨np_s_astore hX dX11_readingsAnew_5 (by decide), List.forall_mem_cons.mpr ⟨np_s_aload_n hX dX11_readingsAnew_7 rfl, List.forall_mem_cons.mpr ⟨np_s_iload_n hX dX11_readingsAnew_8 rfl, List.forall_mem_cons.mpr ⟨np_S.mono (op := np_callV 11 2 sp_X11_fileOf 2 0 0 1 6) (np_s_callV hX C_X11_fileOf dX11_readingsAnew_9 (q := (RX11, TX11, 14)) rfl rfl gw1035 gw130 gw1032 gw1034 gw17 ⟨by decide, by decide, by decide⟩ (by decide) (by decide)) nq_callV_le, List.forall_mem_cons.mpr ⟨np_s_astore hX dX11_readingsAnew_12 (by decide), List.forall_mem_cons.mpr ⟨np_s_aload hX dX11_readingsAnew_14, List.forall_mem_cons.mpr ⟨np_s_ifnonnull hX dX11_readingsAnew_16 (by decide), List.forall_mem_cons.mpr ⟨np_S.mono (op := np_throw X.2.2.2 0) (np_s_throw hX ⟨96, 151, 100, _, gw573, gw146, sw762, twX11_100, toX11_100_96, Or.inl ⟨dX11_readingsAnew_19, dX11_readingsAnew_22, dX11_readingsAnew_23, dX11_readingsAnew_25, dX11_readingsAnew_28⟩⟩) (nq_throw_le hT), List.forall_mem_cons.mpr ⟨np_s_aload hX dX11_readingsAnew_29, List.forall_mem_cons.mpr ⟨np_s_ifnull hX dX11_readingsAnew_31 (by decide), List.forall_mem_cons.mpr ⟨np_s_aload hX dX11_readingsAnew_34, List.forall_mem_cons.mpr ⟨np_s_iload_n hX dX11_readingsAnew_36 rfl, List.forall_mem_cons.mpr ⟨np_S.mono (op := np_ifne 54) (np_s_if_ne hX dX11_readingsAnew_40 (by decide)) nq_ifne_le, List.forall_mem_cons.mpr ⟨np_S.mono (op := np_throw X.2.2.2 0) (np_s_throw hX ⟨96, 256, 100, _, gw573, gw146, sw1097, twX11_100, toX11_100_96, Or.inr ⟨dX11_readingsAnew_43, dX11_readingsAnew_46, dX11_readingsAnew_47, dX11_readingsAnew_50, dX11_readingsAnew_53⟩⟩) (nq_throw_le hT), List.forall_mem_cons.mpr ⟨np_s_aload_n hX dX11_readingsAnew_54 rfl, List.forall_mem_cons.mpr ⟨np_S.mono (op := np_getf 11 7) (np_s_getf hX dX11_readingsAnew_55 (C := RX11) (T := TX11) (N := 14) rfl guX11 (by decide) gw513) nq_getf_le, List.forall_mem_cons.mpr ⟨np_s_aload hX dX11_readingsAnew_58, List.forall_mem_cons.mpr ⟨np_S.mono (op := np_getf 1 0) (np_s_getN hX dX11_readingsAnew_60 (C := RX1) (T := TX1) (N := 7) rfl guX1 (by decide) gw380) nq_getf_le, List.forall_mem_cons.mpr ⟨np_s_aload hX dX11_readingsAnew_63, List.forall_mem_cons.mpr ⟨np_s_iload_n hX dX11_readingsAnew_65 rfl, List.forall_mem_cons.mpr ⟨np_s_aload_n hX dX11_readingsAnew_69 rfl, List.forall_mem_cons.mpr ⟨np_S.mono (op := np_getf 11 7) (np_s_getf hX dX11_readingsAnew_70 (C := RX11) (T := TX11) (N := 14) rfl guX11 (by decide) gw513) nq_getf_le, List.forall_mem_cons.mpr ⟨np_s_bipush hX dX11_readingsAnew_76 (by decide), List.forall_mem_cons.mpr ⟨np_S.mono (op := np_mm 1 6) (np_s_mmin hX dX11_readingsAnew_78 gw1190 gw1191 gw150 gw1192 (by decide) (by decide)) nq_mm_le, List.forall_mem_cons.mpr ⟨np_S.mono (op := np_ret X.2.2.1) (np_s_ret hX dX11_readingsAnew_81) (nq_ret_le hR), fun _ h => nomatch h⟩⟩⟩⟩⟩⟩⟩⟩⟩⟩⟩⟩⟩⟩⟩⟩⟩⟩⟩⟩⟩⟩⟩⟩⟩⟩⟩⟩
abbrev sp_X11_readingsAnew : np_SpX := nq_inX is_X11_readingsAnew (some .int) 1 6 400
theorem C_X11_readingsAnew : np_CX yX11_readingsAnew cX11_readingsAnew 6 (some .int) 6 100 1 6 sp_X11_readingsAnew := nq_inCX 400 (by decide) (by decide) (by decide) (fun X Rt Th hX hmn hR hT => so_X11_readingsAnew hX hR hT)
theorem dX11_read_0 : decode cX11_read 0 = .ok (.aload_n 0, 1) := by decide +kernel
theorem dX11_read_1 : decode cX11_read 1 = .ok (.iload_n 1, 1) := by decide +kernel
theorem dX11_read_2 : decode cX11_read 2 = .ok (.invokevirtual 147, 3) := by decide +kernel
theorem dX11_read_5 : decode cX11_read 5 = .ok (.astore 5, 2) := by decide +kernel
theorem dX11_read_7 : decode cX11_read 7 = .ok (.aload_n 0, 1) := by decide +kernel
theorem dX11_read_8 : decode cX11_read 8 = .ok (.iload_n 2, 1) := by decide +kernel
theorem dX11_read_9 : decode cX11_read 9 = .ok (.invokevirtual 211, 3) := by decide +kernel
theorem dX11_read_12 : decode cX11_read 12 = .ok (.astore 6, 2) := by decide +kernel
theorem dX11_read_14 : decode cX11_read 14 = .ok (.aload 5, 2) := by decide +kernel
theorem dX11_read_16 : decode cX11_read 16 = .ok (.ifnonnull 13, 3) := by decide +kernel
theorem dX11_read_19 : decode cX11_read 19 = .ok (.new 96, 3) := by decide +kernel
theorem dX11_read_22 : decode cX11_read 22 = .ok (.dup, 1) := by decide +kernel
theorem dX11_read_23 : decode cX11_read 23 = .ok (.ldc 151, 2) := by decide +kernel
theorem dX11_read_25 : decode cX11_read 25 = .ok (.invokespecial 100, 3) := by decide +kernel
theorem dX11_read_28 : decode cX11_read 28 = .ok (.athrow, 1) := by decide +kernel
theorem dX11_read_29 : decode cX11_read 29 = .ok (.aload 6, 2) := by decide +kernel
theorem dX11_read_31 : decode cX11_read 31 = .ok (.ifnull 12, 3) := by decide +kernel
theorem dX11_read_34 : decode cX11_read 34 = .ok (.aload 6, 2) := by decide +kernel
theorem dX11_read_36 : decode cX11_read 36 = .ok (.iload_n 3, 1) := by decide +kernel
theorem dX11_read_37 : decode cX11_read 37 = .ok (.invokevirtual 253, 3) := by decide +kernel
theorem dX11_read_40 : decode cX11_read 40 = .ok (.ifCond .ne 14, 3) := by decide +kernel
theorem dX11_read_43 : decode cX11_read 43 = .ok (.new 96, 3) := by decide +kernel
theorem dX11_read_46 : decode cX11_read 46 = .ok (.dup, 1) := by decide +kernel
theorem dX11_read_47 : decode cX11_read 47 = .ok (.ldc_w 256, 3) := by decide +kernel
theorem dX11_read_50 : decode cX11_read 50 = .ok (.invokespecial 100, 3) := by decide +kernel
theorem dX11_read_53 : decode cX11_read 53 = .ok (.athrow, 1) := by decide +kernel
theorem dX11_read_54 : decode cX11_read 54 = .ok (.iload 4, 2) := by decide +kernel
theorem dX11_read_56 : decode cX11_read 56 = .ok (.ifCond .ge 14, 3) := by decide +kernel
theorem dX11_read_59 : decode cX11_read 59 = .ok (.new 96, 3) := by decide +kernel
theorem dX11_read_62 : decode cX11_read 62 = .ok (.dup, 1) := by decide +kernel
theorem dX11_read_63 : decode cX11_read 63 = .ok (.ldc_w 276, 3) := by decide +kernel
theorem dX11_read_66 : decode cX11_read 66 = .ok (.invokespecial 100, 3) := by decide +kernel
theorem dX11_read_69 : decode cX11_read 69 = .ok (.athrow, 1) := by decide +kernel
theorem dX11_read_70 : decode cX11_read 70 = .ok (.iconst (-1), 1) := by decide +kernel
theorem dX11_read_71 : decode cX11_read 71 = .ok (.istore 7, 2) := by decide +kernel
theorem dX11_read_73 : decode cX11_read 73 = .ok (.aload_n 0, 1) := by decide +kernel
theorem dX11_read_74 : decode cX11_read 74 = .ok (.getfield 54, 3) := by decide +kernel
theorem dX11_read_77 : decode cX11_read 77 = .ok (.aload 5, 2) := by decide +kernel
theorem dX11_read_79 : decode cX11_read 79 = .ok (.getfield 140, 3) := by decide +kernel
theorem dX11_read_82 : decode cX11_read 82 = .ok (.aload 6, 2) := by decide +kernel
theorem dX11_read_84 : decode cX11_read 84 = .ok (.iload_n 3, 1) := by decide +kernel
theorem dX11_read_85 : decode cX11_read 85 = .ok (.invokevirtual 258, 3) := by decide +kernel
theorem dX11_read_88 : decode cX11_read 88 = .ok (.iconst 0, 1) := by decide +kernel
theorem dX11_read_89 : decode cX11_read 89 = .ok (.istore 8, 2) := by decide +kernel
theorem dX11_read_91 : decode cX11_read 91 = .ok (.iload 8, 2) := by decide +kernel
theorem dX11_read_93 : decode cX11_read 93 = .ok (.sipush 10000, 3) := by decide +kernel
theorem dX11_read_96 : decode cX11_read 96 = .ok (.if_icmp .ge 29, 3) := by decide +kernel
theorem dX11_read_99 : decode cX11_read 99 = .ok (.iload 7, 2) := by decide +kernel
theorem dX11_read_101 : decode cX11_read 101 = .ok (.iload 4, 2) := by decide +kernel
theorem dX11_read_103 : decode cX11_read 103 = .ok (.if_icmp .ge 22, 3) := by decide +kernel
theorem dX11_read_106 : decode cX11_read 106 = .ok (.aload_n 0, 1) := by decide +kernel
theorem dX11_read_107 : decode cX11_read 107 = .ok (.getfield 54, 3) := by decide +kernel
theorem dX11_read_110 : decode cX11_read 110 = .ok (.invokevirtual 262, 3) := by decide +kernel
theorem dX11_read_113 : decode cX11_read 113 = .ok (.ifCond .eq 12, 3) := by decide +kernel
theorem dX11_read_116 : decode cX11_read 116 = .ok (.iinc 7 1, 3) := by decide +kernel
theorem dX11_read_119 : decode cX11_read 119 = .ok (.iinc 8 1, 3) := by decide +kernel
theorem dX11_read_122 : decode cX11_read 122 = .ok (.goto (-31), 3) := by decide +kernel
theorem dX11_read_125 : decode cX11_read 125 = .ok (.iload 7, 2) := by decide +kernel
theorem dX11_read_127 : decode cX11_read 127 = .ok (.iload 4, 2) := by decide +kernel
theorem dX11_read_129 : decode cX11_read 129 = .ok (.if_icmp .ge 14, 3) := by decide +kernel
theorem dX11_read_132 : decode cX11_read 132 = .ok (.new 96, 3) := by decide +kernel
theorem dX11_read_135 : decode cX11_read 135 = .ok (.dup, 1) := by decide +kernel
theorem dX11_read_136 : decode cX11_read 136 = .ok (.ldc_w 276, 3) := by decide +kernel
theorem dX11_read_139 : decode cX11_read 139 = .ok (.invokespecial 100, 3) := by decide +kernel
theorem dX11_read_142 : decode cX11_read 142 = .ok (.athrow, 1) := by decide +kernel
theorem dX11_read_143 : decode cX11_read 143 = .ok (.aload_n 0, 1) := by decide +kernel
theorem dX11_read_144 : decode cX11_read 144 = .ok (.getfield 54, 3) := by decide +kernel
theorem dX11_read_147 : decode cX11_read 147 = .ok (.getfield 278, 3) := by decide +kernel
theorem dX11_read_150 : decode cX11_read 150 = .ok (.getfield 202, 3) := by decide +kernel
theorem dX11_read_153 : decode cX11_read 153 = .ok (.iconst 0, 1) := by decide +kernel
theorem dX11_read_154 : decode cX11_read 154 = .ok (.aload_n 0, 1) := by decide +kernel
theorem dX11_read_155 : decode cX11_read 155 = .ok (.getfield 28, 3) := by decide +kernel
theorem dX11_read_158 : decode cX11_read 158 = .ok (.iconst 0, 1) := by decide +kernel
theorem dX11_read_159 : decode cX11_read 159 = .ok (.bipush 24, 2) := by decide +kernel
theorem dX11_read_161 : decode cX11_read 161 = .ok (.invokestatic 207, 3) := by decide +kernel
theorem dX11_read_164 : decode cX11_read 164 = .ok (.iload_n 3, 1) := by decide +kernel
theorem dX11_read_165 : decode cX11_read 165 = .ok (.aload_n 0, 1) := by decide +kernel
theorem dX11_read_166 : decode cX11_read 166 = .ok (.getfield 54, 3) := by decide +kernel
theorem dX11_read_169 : decode cX11_read 169 = .ok (.getfield 278, 3) := by decide +kernel
theorem dX11_read_172 : decode cX11_read 172 = .ok (.getfield 282, 3) := by decide +kernel
theorem dX11_read_175 : decode cX11_read 175 = .ok (.iadd, 1) := by decide +kernel
theorem dX11_read_176 : decode cX11_read 176 = .ok (.ireturn, 1) := by decide +kernel
def is_X11_read (Rt : np_Rt) (Th : np_Th) : List (Nat × np_Op) := [(0, np_ald 1 0), (1, np_ild 1 1), (2, nq_callV 11 2 sp_X11_descriptionOf 3 0 0 1 6), (5, np_ast 2 5), (7, np_ald 1 0), (8, np_ild 1 2), (9, nq_callV 11 2 sp_X11_fileOf 2 0 0 1 6), (12, np_ast 2 6), (14, np_ald 2 5), (16, np_ifnonnull 29), (19, nq_throw Th 0), (29, np_ald 2 6), (31, np_ifnull 43), (34, np_ald 2 6), (36, np_ild 1 3), (40, nq_ifne 54), (43, nq_throw Th 0), (54, np_ild 2 4), (56, nq_if (fun x => 0 ≤ x) 70), (59, nq_throw Th 0), (70, np_push 1 (.int (-1))), (71, np_ist 2 7), (73, np_ald 1 0), (74, nq_getf 11 7), (77, np_ald 2 5), (79, nq_getf 1 0), (82, np_ald 2 6), (84, np_ild 1 3), (88, np_push 1 (.int 0)), (89, np_ist 2 8), (91, np_ild 2 8), (93, np_push 3 (.int 10000)), (96, nq_ic (fun x y => y ≤ x) 125), (99, np_ild 2 7), (101, np_ild 2 4), (103, nq_ic (fun x y => y ≤ x) 125), (106, np_ald 1 0), (107, nq_getf 11 7), (113, nq_if (fun x => x = 0) 125), (116, np_iinc 7 1), (119, np_iinc 8 1), (122, np_goto 91), (125, np_ild 2 7), (127, np_ild 2 4), (129, nq_ic (fun x y => y ≤ x) 143), (132, nq_throw Th 0), (143, np_ald 1 0), (144, nq_getf 11 7), (147, nq_getf 4 1), (150, nq_getf 8 0), (153, np_push 1 (.int 0)), (154, np_ald 1 0), (155, nq_getf 11 3), (158, np_push 1 (.int 0)), (159, np_push 2 (.int 24)), (164, np_ild 1 3), (165, np_ald 1 0), (166, nq_getf 11 7), (169, nq_getf 4 1), (172, nq_getf 8 6), (175, np_ib (fun x y => x + y)), (176, np_ret Rt)]
set_option maxRecDepth 20000 in
theorem so_X11_read {X : np_Ctx} {Rt : np_Rt} {Th : np_Th} (hX : np_ok RX11 cX11_read 9 6 100 1 6 .ireturn X) (hR : ∀ st w ce sl, Rt st w ce sl → X.2.2.1 st w ce sl) (hT : ∀ i w ce sl, Th i w ce sl → X.2.2.2 i w ce sl) : ∀ q ∈ is_X11_read Rt Th, np_S X q.1 q.2 :=
  List.forall_mem_cons.mpr ⟨np_s_aload_n hX dX11_read_0 rfl, List.forall_mem_cons.mpr ⟨np_s_iload_n hX dX11_read_1 rfl, List.forall_mem_cons.mpr ⟨np_S.mono (op := np_callV 11 2 sp_X11_descriptionOf 3 0 0 1 6) (np_s_callV hX C_X11_descriptionOf dX11_read_2 (q := (RX11, TX11, 14)) rfl rfl gw761 gw130 gw758 gw760 gw3 ⟨by decide, by decide, by decide⟩ (by decide) (by decide)) nq_callV_le, List.forall_mem_cons.mpr ⟨np_s_astore hX dX11_read_5 (by decide), List.forall_mem_cons.mpr ⟨np_s_aload_n hX dX11_read_7 rfl, List.forall_mem_cons.mpr ⟨np_s_iload_n hX dX11_read_8 rfl, List.forall_mem_cons.mpr ⟨np_S.mono (op := np_callV 11 2 sp_X11_fileOf 2 0 0 1 6) (np_s_callV hX C_X11_fileOf dX11_read_9 (q := (RX11, TX11, 14)) rfl rfl gw1035 gw130 gw1032 gw1034 gw17 ⟨by decide, by decide, by decide⟩ (by decide) (by decide)) nq_callV_le, List.forall_mem_cons.mpr ⟨np_s_astore hX dX11_read_12 (by decide), List.forall_mem_cons.mpr ⟨np_s_aload hX dX11_read_14, List.forall_mem_cons.mpr ⟨np_s_ifnonnull hX dX11_read_16 (by decide), List.forall_mem_cons.mpr ⟨np_S.mono (op := np_throw X.2.2.2 0) (np_s_throw hX ⟨96, 151, 100, _, gw573, gw146, sw762, twX11_100, toX11_100_96, Or.inl ⟨dX11_read_19, dX11_read_22, dX11_read_23, dX11_read_25, dX11_read_28⟩⟩) (nq_throw_le hT), List.forall_mem_cons.mpr ⟨np_s_aload hX dX11_read_29, List.forall_mem_cons.mpr ⟨np_s_ifnull hX dX11_read_31 (by decide), List.forall_mem_cons.mpr ⟨np_s_aload hX dX11_read_34, List.forall_mem_cons.mpr ⟨np_s_iload_n hX dX11_read_36 rfl, List.forall_mem_cons.mpr ⟨np_S.mono (op := np_ifne 54) (np_s_if_ne hX dX11_read_40 (by decide)) nq_ifne_le, List.forall_mem_cons.mpr ⟨np_S.mono (op := np_throw X.2.2.2 0) (np_s_throw hX ⟨96, 256, 100, _, gw573, gw146, sw1097, twX11_100, toX11_100_96, Or.inr ⟨dX11_read_43, dX11_read_46, dX11_read_47, dX11_read_50, dX11_read_53⟩⟩) (nq_throw_le hT), List.forall_mem_cons.mpr ⟨np_s_iload hX dX11_read_54, List.forall_mem_cons.mpr ⟨np_S.mono (op := np_if (fun x => 0 ≤ x) 70) (np_s_if_ge hX dX11_read_56 (by decide)) nq_if_le, List.forall_mem_cons.mpr ⟨np_S.mono (op := np_throw X.2.2.2 0) (np_s_throw hX ⟨96, 276, 100, _, gw573, gw146, sw1211, twX11_100, toX11_100_96, Or.inr ⟨dX11_read_59, dX11_read_62, dX11_read_63, dX11_read_66, dX11_read_69⟩⟩) (nq_throw_le hT), List.forall_mem_cons.mpr ⟨np_s_iconst hX dX11_read_70 (by decide), List.forall_mem_cons.mpr ⟨np_s_istore hX dX11_read_71 (by decide), List.forall_mem_cons.mpr ⟨np_s_aload_n hX dX11_read_73 rfl, List.forall_mem_cons.mpr ⟨np_S.mono (op := np_getf 11 7) (np_s_getf hX dX11_read_74 (C := RX11) (T := TX11) (N := 14) rfl guX11 (by decide) gw513) nq_getf_le, List.forall_mem_cons.mpr ⟨np_s_aload hX dX11_read_77, List.forall_mem_cons.mpr ⟨np_S.mono (op := np_getf 1 0) (np_s_getN hX dX11_read_79 (C := RX1) (T := TX1) (N := 7) rfl guX1 (by decide) gw380) nq_getf_le, List.forall_mem_cons.mpr ⟨np_s_aload hX dX11_read_82, List.forall_mem_cons.mpr ⟨np_s_iload_n hX dX11_read_84 rfl, List.forall_mem_cons.mpr ⟨np_s_iconst hX dX11_read_88 (by decide), List.forall_mem_cons.mpr ⟨np_s_istore hX dX11_read_89 (by decide), List.forall_mem_cons.mpr ⟨np_s_iload hX dX11_read_91, List.forall_mem_cons.mpr ⟨np_s_sipush hX dX11_read_93 (by decide), List.forall_mem_cons.mpr ⟨np_S.mono (op := np_ic (fun x y => y ≤ x) 125) (np_s_icmp_ge hX dX11_read_96 (by decide)) nq_ic_le, List.forall_mem_cons.mpr ⟨np_s_iload hX dX11_read_99, List.forall_mem_cons.mpr ⟨np_s_iload hX dX11_read_101, List.forall_mem_cons.mpr ⟨np_S.mono (op := np_ic (fun x y => y ≤ x) 125) (np_s_icmp_ge hX dX11_read_103 (by decide)) nq_ic_le, List.forall_mem_cons.mpr ⟨np_s_aload_n hX dX11_read_106 rfl, List.forall_mem_cons.mpr ⟨np_S.mono (op := np_getf 11 7) (np_s_getf hX dX11_read_107 (C := RX11) (T := TX11) (N := 14) rfl guX11 (by decide) gw513) nq_getf_le, List.forall_mem_cons.mpr ⟨np_S.mono (op := np_if (fun x => x = 0) 125) (np_s_if_eq hX dX11_read_113 (by decide)) nq_if_le, List.forall_mem_cons.mpr ⟨np_s_iinc hX dX11_read_116 (by decide), List.forall_mem_cons.mpr ⟨np_s_iinc hX dX11_read_119 (by decide), List.forall_mem_cons.mpr ⟨np_s_goto hX dX11_read_122 (by decide), List.forall_mem_cons.mpr ⟨np_s_iload hX dX11_read_125, List.forall_mem_cons.mpr ⟨np_s_iload hX dX11_read_127, List.forall_mem_cons.mpr ⟨np_S.mono (op := np_ic (fun x y => y ≤ x) 143) (np_s_icmp_ge hX dX11_read_129 (by decide)) nq_ic_le, List.forall_mem_cons.mpr ⟨np_S.mono (op := np_throw X.2.2.2 0) (np_s_throw hX ⟨96, 276, 100, _, gw573, gw146, sw1211, twX11_100, toX11_100_96, Or.inr ⟨dX11_read_132, dX11_read_135, dX11_read_136, dX11_read_139, dX11_read_142⟩⟩) (nq_throw_le hT), List.forall_mem_cons.mpr ⟨np_s_aload_n hX dX11_read_143 rfl, List.forall_mem_cons.mpr ⟨np_S.mono (op := np_getf 11 7) (np_s_getf hX dX11_read_144 (C := RX11) (T := TX11) (N := 14) rfl guX11 (by decide) gw513) nq_getf_le, List.forall_mem_cons.mpr ⟨np_S.mono (op := np_getf 4 1) (np_s_getN hX dX11_read_147 (C := RX4) (T := TX4) (N := 11) rfl guX4 (by decide) gw289) nq_getf_le, List.forall_mem_cons.mpr ⟨np_S.mono (op := np_getf 8 0) (np_s_getN hX dX11_read_150 (C := RX8) (T := TX8) (N := 9) rfl guX8 (by decide) gw212) nq_getf_le, List.forall_mem_cons.mpr ⟨np_s_iconst hX dX11_read_153 (by decide), List.forall_mem_cons.mpr ⟨np_s_aload_n hX dX11_read_154 rfl, List.forall_mem_cons.mpr ⟨np_S.mono (op := np_getf 11 3) (np_s_getf hX dX11_read_155 (C := RX11) (T := TX11) (N := 14) rfl guX11 (by decide) gw509) nq_getf_le, List.forall_mem_cons.mpr ⟨np_s_iconst hX dX11_read_158 (by decide), List.forall_mem_cons.mpr ⟨np_s_bipush hX dX11_read_159 (by decide), List.forall_mem_cons.mpr ⟨np_s_iload_n hX dX11_read_164 rfl, List.forall_mem_cons.mpr ⟨np_s_aload_n hX dX11_read_165 rfl, List.forall_mem_cons.mpr ⟨np_S.mono (op := np_getf 11 7) (np_s_getf hX dX11_read_166 (C := RX11) (T := TX11) (N := 14) rfl guX11 (by decide) gw513) nq_getf_le, List.forall_mem_cons.mpr ⟨np_S.mono (op := np_getf 4 1) (np_s_getN hX dX11_read_169 (C := RX4) (T := TX4) (N := 11) rfl guX4 (by decide) gw289) nq_getf_le, List.forall_mem_cons.mpr ⟨np_S.mono (op := np_getf 8 6) (np_s_getN hX dX11_read_172 (C := RX8) (T := TX8) (N := 9) rfl guX8 (by decide) gw225) nq_getf_le, List.forall_mem_cons.mpr ⟨np_s_iadd hX dX11_read_175, List.forall_mem_cons.mpr ⟨np_S.mono (op := np_ret X.2.2.1) (np_s_ret hX dX11_read_176) (nq_ret_le hR), fun _ h => nomatch h⟩⟩⟩⟩⟩⟩⟩⟩⟩⟩⟩⟩⟩⟩⟩⟩⟩⟩⟩⟩⟩⟩⟩⟩⟩⟩⟩⟩⟩⟩⟩⟩⟩⟩⟩⟩⟩⟩⟩⟩⟩⟩⟩⟩⟩⟩⟩⟩⟩⟩⟩⟩⟩⟩⟩⟩⟩⟩⟩⟩⟩⟩
abbrev sp_X11_read : np_SpX := nq_inX is_X11_read (some .int) 1 6 400
theorem C_X11_read : np_CX yX11_read cX11_read 9 (some .int) 6 100 1 6 sp_X11_read := nq_inCX 400 (by decide) (by decide) (by decide) (fun X Rt Th hX hmn hR hT => so_X11_read hX hR hT)
theorem dX11_stream_0 : decode cX11_stream 0 = .ok (.aload_n 0, 1) := by decide +kernel
theorem dX11_stream_1 : decode cX11_stream 1 = .ok (.iload_n 1, 1) := by decide +kernel
theorem dX11_stream_2 : decode cX11_stream 2 = .ok (.invokevirtual 283, 3) := by decide +kernel
theorem dX11_stream_5 : decode cX11_stream 5 = .ok (.astore_n 3, 1) := by decide +kernel
theorem dX11_stream_6 : decode cX11_stream 6 = .ok (.aload_n 0, 1) := by decide +kernel
theorem dX11_stream_7 : decode cX11_stream 7 = .ok (.iload_n 2, 1) := by decide +kernel
theorem dX11_stream_8 : decode cX11_stream 8 = .ok (.invokevirtual 147, 3) := by decide +kernel
theorem dX11_stream_11 : decode cX11_stream 11 = .ok (.astore 4, 2) := by decide +kernel
theorem dX11_stream_13 : decode cX11_stream 13 = .ok (.aload_n 3, 1) := by decide +kernel
theorem dX11_stream_14 : decode cX11_stream 14 = .ok (.ifnonnull 13, 3) := by decide +kernel
theorem dX11_stream_17 : decode cX11_stream 17 = .ok (.new 96, 3) := by decide +kernel
theorem dX11_stream_20 : decode cX11_stream 20 = .ok (.dup, 1) := by decide +kernel
theorem dX11_stream_21 : decode cX11_stream 21 = .ok (.ldc 215, 2) := by decide +kernel
theorem dX11_stream_23 : decode cX11_stream 23 = .ok (.invokespecial 100, 3) := by decide +kernel
theorem dX11_stream_26 : decode cX11_stream 26 = .ok (.athrow, 1) := by decide +kernel
theorem dX11_stream_27 : decode cX11_stream 27 = .ok (.aload 4, 2) := by decide +kernel
theorem dX11_stream_29 : decode cX11_stream 29 = .ok (.ifnonnull 13, 3) := by decide +kernel
theorem dX11_stream_32 : decode cX11_stream 32 = .ok (.new 96, 3) := by decide +kernel
theorem dX11_stream_35 : decode cX11_stream 35 = .ok (.dup, 1) := by decide +kernel
theorem dX11_stream_36 : decode cX11_stream 36 = .ok (.ldc 151, 2) := by decide +kernel
theorem dX11_stream_38 : decode cX11_stream 38 = .ok (.invokespecial 100, 3) := by decide +kernel
theorem dX11_stream_41 : decode cX11_stream 41 = .ok (.athrow, 1) := by decide +kernel
theorem dX11_stream_42 : decode cX11_stream 42 = .ok (.aload_n 3, 1) := by decide +kernel
theorem dX11_stream_43 : decode cX11_stream 43 = .ok (.getfield 287, 3) := by decide +kernel
theorem dX11_stream_46 : decode cX11_stream 46 = .ok (.istore 5, 2) := by decide +kernel
theorem dX11_stream_48 : decode cX11_stream 48 = .ok (.aload_n 3, 1) := by decide +kernel
theorem dX11_stream_49 : decode cX11_stream 49 = .ok (.aload 4, 2) := by decide +kernel
theorem dX11_stream_51 : decode cX11_stream 51 = .ok (.invokevirtual 290, 3) := by decide +kernel
theorem dX11_stream_54 : decode cX11_stream 54 = .ok (.iload 5, 2) := by decide +kernel
theorem dX11_stream_56 : decode cX11_stream 56 = .ok (.ireturn, 1) := by decide +kernel
def is_X11_stream (Rt : np_Rt) (Th : np_Th) : List (Nat × np_Op) := [(0, np_ald 1 0), (1, np_ild 1 1), (2, nq_callV 11 2 sp_X11_tableOf 2 0 0 1 6), (5, np_ast 1 3), (6, np_ald 1 0), (7, np_ild 1 2), (8, nq_callV 11 2 sp_X11_descriptionOf 3 0 0 1 6), (11, np_ast 2 4), (13, np_ald 1 3), (14, np_ifnonnull 27), (17, nq_throw Th 0), (27, np_ald 2 4), (29, np_ifnonnull 42), (32, nq_throw Th 0), (42, np_ald 1 3), (43, nq_getf 6 6), (46, np_ist 2 5), (48, np_ald 1 3), (49, np_ald 2 4), (54, np_ild 2 5), (56, np_ret Rt)]
set_option maxRecDepth 20000 in
theorem so_X11_stream {X : np_Ctx} {Rt : np_Rt} {Th : np_Th} (hX : np_ok RX11 cX11_stream 6 6 100 1 6 .ireturn X) (hR : ∀ st w ce sl, Rt st w ce sl → X.2.2.1 st w ce sl) (hT : ∀ i w ce sl, Th i w ce sl → X.2.2.2 i w ce sl) : ∀ q ∈ is_X11_stream Rt Th, np_S X q.1 q.2 :=
  List.forall_mem_cons.mpr ⟨np_s_aload_n hX dX11_stream_0 rfl, List.forall_mem_cons.mpr ⟨np_s_iload_n hX dX11_stream_1 rfl, List.forall_mem_cons.mpr ⟨np_S.mono (op := np_callV 11 2 sp_X11_tableOf 2 0 0 1 6) (np_s_callV hX C_X11_tableOf dX11_stream_2 (q := (RX11, TX11, 14)) rfl rfl gw1222 gw130 gw1219 gw1221 gw33 ⟨by decide, by decide, by decide⟩ (by decide) (by decide)) nq_callV_le, List.forall_mem_cons.mpr ⟨np_s_astore_n hX dX11_stream_5 rfl (by decide), List.forall_mem_cons.mpr ⟨np_s_aload_n hX dX11_stream_6 rfl, List.forall_mem_cons.mpr ⟨np_s_iload_n hX dX11_stream_7 rfl, List.forall_mem_cons.mpr ⟨np_S.mono (op := np_callV 11 2 sp_X11_descriptionOf 3 0 0 1 6) (np_s_callV hX C_X11_descriptionOf dX11_stream_8 (q := (RX11, TX11, 14)) rfl rfl gw761 gw130 gw758 gw760 gw3 ⟨by decide, by decide, by decide⟩ (by decide) (by decide)) nq_callV_le, List.forall_mem_cons.mpr ⟨np_s_astore hX dX11_stream_11 (by decide), List.forall_mem_cons.mpr ⟨np_s_aload_n hX dX11_stream_13 rfl, List.forall_mem_cons.mpr ⟨np_s_ifnonnull hX dX11_stream_14 (by decide), List.forall_mem_cons.mpr ⟨np_S.mono (op := np_throw X.2.2.2 0) (np_s_throw hX ⟨96, 215, 100, _, gw573, gw146, sw1036, twX11_100, toX11_100_96, Or.inl ⟨dX11_stream_17, dX11_stream_20, dX11_stream_21, dX11_stream_23, dX11_stream_26⟩⟩) (nq_throw_le hT), List.forall_mem_cons.mpr ⟨np_s_aload hX dX11_stream_27, List.forall_mem_cons.mpr ⟨np_s_ifnonnull hX dX11_stream_29 (by decide), List.forall_mem_cons.mpr ⟨np_S.mono (op := np_throw X.2.2.2 0) (np_s_throw hX ⟨96, 151, 100, _, gw573, gw146, sw762, twX11_100, toX11_100_96, Or.inl ⟨dX11_stream_32, dX11_stream_35, dX11_stream_36, dX11_stream_38, dX11_stream_41⟩⟩) (nq_throw_le hT), List.forall_mem_cons.mpr ⟨np_s_aload_n hX dX11_stream_42 rfl, List.forall_mem_cons.mpr ⟨np_S.mono (op := np_getf 6 6) (np_s_getN hX dX11_stream_43 (C := RX6) (T := TX6) (N := 12) rfl guX6 (by decide) gw420) nq_getf_le, List.forall_mem_cons.mpr ⟨np_s_istore hX dX11_stream_46 (by decide), List.forall_mem_cons.mpr ⟨np_s_aload_n hX dX11_stream_48 rfl, List.forall_mem_cons.mpr ⟨np_s_aload hX dX11_stream_49, List.forall_mem_cons.mpr ⟨np_s_iload hX dX11_stream_54, List.forall_mem_cons.mpr ⟨np_S.mono (op := np_ret X.2.2.1) (np_s_ret hX dX11_stream_56) (nq_ret_le hR), fun _ h => nomatch h⟩⟩⟩⟩⟩⟩⟩⟩⟩⟩⟩⟩⟩⟩⟩⟩⟩⟩⟩⟩⟩
abbrev sp_X11_stream : np_SpX := nq_inX is_X11_stream (some .int) 1 6 400
theorem C_X11_stream : np_CX yX11_stream cX11_stream 6 (some .int) 6 100 1 6 sp_X11_stream := nq_inCX 400 (by decide) (by decide) (by decide) (fun X Rt Th hX hmn hR hT => so_X11_stream hX hR hT)
theorem dX11_step_0 : decode cX11_step 0 = .ok (.aload_n 0, 1) := by decide +kernel
theorem dX11_step_1 : decode cX11_step 1 = .ok (.iload_n 1, 1) := by decide +kernel
theorem dX11_step_2 : decode cX11_step 2 = .ok (.invokevirtual 211, 3) := by decide +kernel
theorem dX11_step_5 : decode cX11_step 5 = .ok (.astore_n 2, 1) := by decide +kernel
theorem dX11_step_6 : decode cX11_step 6 = .ok (.aload_n 0, 1) := by decide +kernel
theorem dX11_step_7 : decode cX11_step 7 = .ok (.iload_n 1, 1) := by decide +kernel
theorem dX11_step_8 : decode cX11_step 8 = .ok (.invokevirtual 283, 3) := by decide +kernel
theorem dX11_step_11 : decode cX11_step 11 = .ok (.astore_n 3, 1) := by decide +kernel
theorem dX11_step_12 : decode cX11_step 12 = .ok (.aload_n 2, 1) := by decide +kernel
theorem dX11_step_13 : decode cX11_step 13 = .ok (.ifnull 7, 3) := by decide +kernel
theorem dX11_step_16 : decode cX11_step 16 = .ok (.aload_n 3, 1) := by decide +kernel
theorem dX11_step_17 : decode cX11_step 17 = .ok (.ifnonnull 13, 3) := by decide +kernel
theorem dX11_step_20 : decode cX11_step 20 = .ok (.new 96, 3) := by decide +kernel
theorem dX11_step_23 : decode cX11_step 23 = .ok (.dup, 1) := by decide +kernel
theorem dX11_step_24 : decode cX11_step 24 = .ok (.ldc 215, 2) := by decide +kernel
theorem dX11_step_26 : decode cX11_step 26 = .ok (.invokespecial 100, 3) := by decide +kernel
theorem dX11_step_29 : decode cX11_step 29 = .ok (.athrow, 1) := by decide +kernel
theorem dX11_step_30 : decode cX11_step 30 = .ok (.aload_n 3, 1) := by decide +kernel
theorem dX11_step_31 : decode cX11_step 31 = .ok (.getfield 294, 3) := by decide +kernel
theorem dX11_step_34 : decode cX11_step 34 = .ok (.astore 4, 2) := by decide +kernel
theorem dX11_step_36 : decode cX11_step 36 = .ok (.aload 4, 2) := by decide +kernel
theorem dX11_step_38 : decode cX11_step 38 = .ok (.ifnonnull 14, 3) := by decide +kernel
theorem dX11_step_41 : decode cX11_step 41 = .ok (.new 116, 3) := by decide +kernel
theorem dX11_step_44 : decode cX11_step 44 = .ok (.dup, 1) := by decide +kernel
theorem dX11_step_45 : decode cX11_step 45 = .ok (.ldc_w 298, 3) := by decide +kernel
theorem dX11_step_48 : decode cX11_step 48 = .ok (.invokespecial 120, 3) := by decide +kernel
theorem dX11_step_51 : decode cX11_step 51 = .ok (.athrow, 1) := by decide +kernel
theorem dX11_step_52 : decode cX11_step 52 = .ok (.aload_n 2, 1) := by decide +kernel
theorem dX11_step_53 : decode cX11_step 53 = .ok (.aload_n 3, 1) := by decide +kernel
theorem dX11_step_54 : decode cX11_step 54 = .ok (.getfield 287, 3) := by decide +kernel
theorem dX11_step_57 : decode cX11_step 57 = .ok (.invokevirtual 300, 3) := by decide +kernel
theorem dX11_step_60 : decode cX11_step 60 = .ok (.istore 5, 2) := by decide +kernel
theorem dX11_step_62 : decode cX11_step 62 = .ok (.iload 5, 2) := by decide +kernel
theorem dX11_step_64 : decode cX11_step 64 = .ok (.ifCond .ge 17, 3) := by decide +kernel
theorem dX11_step_67 : decode cX11_step 67 = .ok (.aload_n 2, 1) := by decide +kernel
theorem dX11_step_68 : decode cX11_step 68 = .ok (.getfield 246, 3) := by decide +kernel
theorem dX11_step_71 : decode cX11_step 71 = .ok (.ifCond .eq 7, 3) := by decide +kernel
theorem dX11_step_74 : decode cX11_step 74 = .ok (.iconst (-1), 1) := by decide +kernel
theorem dX11_step_75 : decode cX11_step 75 = .ok (.goto 5, 3) := by decide +kernel
theorem dX11_step_78 : decode cX11_step 78 = .ok (.bipush (-2), 2) := by decide +kernel
theorem dX11_step_80 : decode cX11_step 80 = .ok (.ireturn, 1) := by decide +kernel
theorem dX11_step_81 : decode cX11_step 81 = .ok (.aload_n 3, 1) := by decide +kernel
theorem dX11_step_82 : decode cX11_step 82 = .ok (.invokevirtual 303, 3) := by decide +kernel
theorem dX11_step_85 : decode cX11_step 85 = .ok (.ifCond .eq 14, 3) := by decide +kernel
theorem dX11_step_88 : decode cX11_step 88 = .ok (.new 116, 3) := by decide +kernel
theorem dX11_step_91 : decode cX11_step 91 = .ok (.dup, 1) := by decide +kernel
theorem dX11_step_92 : decode cX11_step 92 = .ok (.ldc_w 304, 3) := by decide +kernel
theorem dX11_step_95 : decode cX11_step 95 = .ok (.invokespecial 120, 3) := by decide +kernel
theorem dX11_step_98 : decode cX11_step 98 = .ok (.athrow, 1) := by decide +kernel
theorem dX11_step_99 : decode cX11_step 99 = .ok (.aload_n 3, 1) := by decide +kernel
theorem dX11_step_100 : decode cX11_step 100 = .ok (.invokevirtual 306, 3) := by decide +kernel
theorem dX11_step_103 : decode cX11_step 103 = .ok (.aload_n 0, 1) := by decide +kernel
theorem dX11_step_104 : decode cX11_step 104 = .ok (.getfield 54, 3) := by decide +kernel
theorem dX11_step_107 : decode cX11_step 107 = .ok (.aload 4, 2) := by decide +kernel
theorem dX11_step_109 : decode cX11_step 109 = .ok (.getfield 140, 3) := by decide +kernel
theorem dX11_step_112 : decode cX11_step 112 = .ok (.aload_n 2, 1) := by decide +kernel
theorem dX11_step_113 : decode cX11_step 113 = .ok (.aload_n 3, 1) := by decide +kernel
theorem dX11_step_114 : decode cX11_step 114 = .ok (.getfield 287, 3) := by decide +kernel
theorem dX11_step_117 : decode cX11_step 117 = .ok (.invokevirtual 258, 3) := by decide +kernel
theorem dX11_step_120 : decode cX11_step 120 = .ok (.iconst 0, 1) := by decide +kernel
theorem dX11_step_121 : decode cX11_step 121 = .ok (.istore 6, 2) := by decide +kernel
theorem dX11_step_123 : decode cX11_step 123 = .ok (.iload 6, 2) := by decide +kernel
theorem dX11_step_125 : decode cX11_step 125 = .ok (.sipush 10000, 3) := by decide +kernel
theorem dX11_step_128 : decode cX11_step 128 = .ok (.if_icmp .ge 53, 3) := by decide +kernel
theorem dX11_step_131 : decode cX11_step 131 = .ok (.aload_n 0, 1) := by decide +kernel
theorem dX11_step_132 : decode cX11_step 132 = .ok (.getfield 54, 3) := by decide +kernel
theorem dX11_step_135 : decode cX11_step 135 = .ok (.invokevirtual 262, 3) := by decide +kernel
theorem dX11_step_138 : decode cX11_step 138 = .ok (.ifCond .eq 43, 3) := by decide +kernel
theorem dX11_step_141 : decode cX11_step 141 = .ok (.aload_n 3, 1) := by decide +kernel
theorem dX11_step_142 : decode cX11_step 142 = .ok (.getfield 287, 3) := by decide +kernel
theorem dX11_step_145 : decode cX11_step 145 = .ok (.aload_n 0, 1) := by decide +kernel
theorem dX11_step_146 : decode cX11_step 146 = .ok (.getfield 54, 3) := by decide +kernel
theorem dX11_step_149 : decode cX11_step 149 = .ok (.getfield 278, 3) := by decide +kernel
theorem dX11_step_152 : decode cX11_step 152 = .ok (.getfield 282, 3) := by decide +kernel
theorem dX11_step_155 : decode cX11_step 155 = .ok (.iadd, 1) := by decide +kernel
theorem dX11_step_156 : decode cX11_step 156 = .ok (.iload 5, 2) := by decide +kernel
theorem dX11_step_158 : decode cX11_step 158 = .ok (.if_icmp .ne 17, 3) := by decide +kernel
theorem dX11_step_161 : decode cX11_step 161 = .ok (.aload_n 3, 1) := by decide +kernel
theorem dX11_step_162 : decode cX11_step 162 = .ok (.aload_n 0, 1) := by decide +kernel
theorem dX11_step_163 : decode cX11_step 163 = .ok (.getfield 54, 3) := by decide +kernel
theorem dX11_step_166 : decode cX11_step 166 = .ok (.getfield 278, 3) := by decide +kernel
theorem dX11_step_169 : decode cX11_step 169 = .ok (.getfield 202, 3) := by decide +kernel
theorem dX11_step_172 : decode cX11_step 172 = .ok (.invokevirtual 309, 3) := by decide +kernel
theorem dX11_step_175 : decode cX11_step 175 = .ok (.iinc 6 1, 3) := by decide +kernel
theorem dX11_step_178 : decode cX11_step 178 = .ok (.goto (-55), 3) := by decide +kernel
theorem dX11_step_181 : decode cX11_step 181 = .ok (.aload_n 3, 1) := by decide +kernel
theorem dX11_step_182 : decode cX11_step 182 = .ok (.aload_n 0, 1) := by decide +kernel
theorem dX11_step_183 : decode cX11_step 183 = .ok (.getfield 54, 3) := by decide +kernel
theorem dX11_step_186 : decode cX11_step 186 = .ok (.getfield 265, 3) := by decide +kernel
theorem dX11_step_189 : decode cX11_step 189 = .ok (.iload 5, 2) := by decide +kernel
theorem dX11_step_191 : decode cX11_step 191 = .ok (.iconst 1, 1) := by decide +kernel
theorem dX11_step_192 : decode cX11_step 192 = .ok (.iadd, 1) := by decide +kernel
theorem dX11_step_193 : decode cX11_step 193 = .ok (.aload_n 2, 1) := by decide +kernel
theorem dX11_step_194 : decode cX11_step 194 = .ok (.getfield 232, 3) := by decide +kernel
theorem dX11_step_197 : decode cX11_step 197 = .ok (.invokestatic 268, 3) := by decide +kernel
theorem dX11_step_200 : decode cX11_step 200 = .ok (.invokevirtual 313, 3) := by decide +kernel
theorem dX11_step_203 : decode cX11_step 203 = .ok (.ifCond .eq 7, 3) := by decide +kernel
theorem dX11_step_206 : decode cX11_step 206 = .ok (.iconst 1, 1) := by decide +kernel
theorem dX11_step_207 : decode cX11_step 207 = .ok (.goto 4, 3) := by decide +kernel
theorem dX11_step_210 : decode cX11_step 210 = .ok (.iconst 0, 1) := by decide +kernel
theorem dX11_step_211 : decode cX11_step 211 = .ok (.ireturn, 1) := by decide +kernel
def is_X11_step (Rt : np_Rt) (Th : np_Th) : List (Nat × np_Op) := [(0, np_ald 1 0), (1, np_ild 1 1), (2, nq_callV 11 2 sp_X11_fileOf 2 0 0 1 6), (5, np_ast 1 2), (6, np_ald 1 0), (7, np_ild 1 1), (8, nq_callV 11 2 sp_X11_tableOf 2 0 0 1 6), (11, np_ast 1 3), (12, np_ald 1 2), (13, np_ifnull 20), (16, np_ald 1 3), (17, np_ifnonnull 30), (20, nq_throw Th 0), (30, np_ald 1 3), (31, nq_getf 6 5), (34, np_ast 2 4), (36, np_ald 2 4), (38, np_ifnonnull 52), (41, nq_throw Th 2), (52, np_ald 1 2), (53, np_ald 1 3), (54, nq_getf 6 6), (60, np_ist 2 5), (62, np_ild 2 5), (64, nq_if (fun x => 0 ≤ x) 81), (67, np_ald 1 2), (68, nq_getf 7 2), (71, nq_if (fun x => x = 0) 78), (74, np_push 1 (.int (-1))), (75, np_goto 80), (78, np_push 2 (.int (-2))), (80, np_ret Rt), (81, np_ald 1 3), (85, nq_if (fun x => x = 0) 99), (88, nq_throw Th 2), (99, np_ald 1 3), (103, np_ald 1 0), (104, nq_getf 11 7), (107, np_ald 2 4), (109, nq_getf 1 0), (112, np_ald 1 2), (113, np_ald 1 3), (114, nq_getf 6 6), (120, np_push 1 (.int 0)), (121, np_ist 2 6), (123, np_ild 2 6), (125, np_push 3 (.int 10000)), (128, nq_ic (fun x y => y ≤ x) 181), (131, np_ald 1 0), (132, nq_getf 11 7), (138, nq_if (fun x => x = 0) 181), (141, np_ald 1 3), (142, nq_getf 6 6), (145, np_ald 1 0), (146, nq_getf 11 7), (149, nq_getf 4 1), (152, nq_getf 8 6), (155, np_ib (fun x y => x + y)), (156, np_ild 2 5), (158, nq_icne 175), (161, np_ald 1 3), (162, np_ald 1 0), (163, nq_getf 11 7), (166, nq_getf 4 1), (169, nq_getf 8 0), (175, np_iinc 6 1), (178, np_goto 123), (181, np_ald 1 3), (182, np_ald 1 0), (183, nq_getf 11 7), (186, nq_getf 4 10), (189, np_ild 2 5), (191, np_push 1 (.int 1)), (192, np_ib (fun x y => x + y)), (193, np_ald 1 2), (194, nq_getf 7 1), (197, nq_mm 1 6), (203, nq_if (fun x => x = 0) 210), (206, np_push 1 (.int 1)), (207, np_goto 211), (210, np_push 1 (.int 0)), (211, np_ret Rt)]
set_option maxRecDepth 20000 in
theorem so_X11_step {X : np_Ctx} {Rt : np_Rt} {Th : np_Th} (hX : np_ok RX11 cX11_step 7 6 100 1 6 .ireturn X) (hR : ∀ st w ce sl, Rt st w ce sl → X.2.2.1 st w ce sl) (hT : ∀ i w ce sl, Th i w ce sl → X.2.2.2 i w ce sl) : ∀ q ∈ is_X11_step Rt Th, np_S X q.1 q.2 :=
  List.forall_mem_cons.mpr ⟨np_s_aload_n hX dX11_step_0 rfl, List.forall_mem_cons.mpr ⟨np_s_iload_n hX dX11_step_1 rfl, List.forall_mem_cons.mpr ⟨np_S.mono (op := np_callV 11 2 sp_X11_fileOf 2 0 0 1 6) (np_s_callV hX C_X11_fileOf dX11_step_2 (q := (RX11, TX11, 14)) rfl rfl gw1035 gw130 gw1032 gw1034 gw17 ⟨by decide, by decide, by decide⟩ (by decide) (by decide)) nq_callV_le, List.forall_mem_cons.mpr ⟨np_s_astore_n hX dX11_step_5 rfl (by decide), List.forall_mem_cons.mpr ⟨np_s_aload_n hX dX11_step_6 rfl, List.forall_mem_cons.mpr ⟨np_s_iload_n hX dX11_step_7 rfl, List.forall_mem_cons.mpr ⟨np_S.mono (op := np_callV 11 2 sp_X11_tableOf 2 0 0 1 6) (np_s_callV hX C_X11_tableOf dX11_step_8 (q := (RX11, TX11, 14)) rfl rfl gw1222 gw130 gw1219 gw1221 gw33 ⟨by decide, by decide, by decide⟩ (by decide) (by decide)) nq_callV_le, List.forall_mem_cons.mpr ⟨np_s_astore_n hX dX11_step_11 rfl (by decide), List.forall_mem_cons.mpr ⟨np_s_aload_n hX dX11_step_12 rfl, List.forall_mem_cons.mpr ⟨np_s_ifnull hX dX11_step_13 (by decide), List.forall_mem_cons.mpr ⟨np_s_aload_n hX dX11_step_16 rfl, List.forall_mem_cons.mpr ⟨np_s_ifnonnull hX dX11_step_17 (by decide), List.forall_mem_cons.mpr ⟨np_S.mono (op := np_throw X.2.2.2 0) (np_s_throw hX ⟨96, 215, 100, _, gw573, gw146, sw1036, twX11_100, toX11_100_96, Or.inl ⟨dX11_step_20, dX11_step_23, dX11_step_24, dX11_step_26, dX11_step_29⟩⟩) (nq_throw_le hT), List.forall_mem_cons.mpr ⟨np_s_aload_n hX dX11_step_30 rfl, List.forall_mem_cons.mpr ⟨np_S.mono (op := np_getf 6 5) (np_s_getN hX dX11_step_31 (C := RX6) (T := TX6) (N := 12) rfl guX6 (by decide) gw418) nq_getf_le, List.forall_mem_cons.mpr ⟨np_s_astore hX dX11_step_34 (by decide), List.forall_mem_cons.mpr ⟨np_s_aload hX dX11_step_36, List.forall_mem_cons.mpr ⟨np_s_ifnonnull hX dX11_step_38 (by decide), List.forall_mem_cons.mpr ⟨np_S.mono (op := np_throw X.2.2.2 2) (np_s_throw hX ⟨116, 298, 120, _, gw667, gw148, sw1234, twX11_120, toX11_120_116, Or.inr ⟨dX11_step_41, dX11_step_44, dX11_step_45, dX11_step_48, dX11_step_51⟩⟩) (nq_throw_le hT), List.forall_mem_cons.mpr ⟨np_s_aload_n hX dX11_step_52 rfl, List.forall_mem_cons.mpr ⟨np_s_aload_n hX dX11_step_53 rfl, List.forall_mem_cons.mpr ⟨np_S.mono (op := np_getf 6 6) (np_s_getN hX dX11_step_54 (C := RX6) (T := TX6) (N := 12) rfl guX6 (by decide) gw420) nq_getf_le, List.forall_mem_cons.mpr ⟨np_s_istore hX dX11_step_60 (by decide), List.forall_mem_cons.mpr ⟨np_s_iload hX dX11_step_62, List.forall_mem_cons.mpr ⟨np_S.mono (op := np_if (fun x => 0 ≤ x) 81) (np_s_if_ge hX dX11_step_64 (by decide)) nq_if_le, List.forall_mem_cons.mpr ⟨np_s_aload_n hX dX11_step_67 rfl, List.forall_mem_cons.mpr ⟨np_S.mono (op := np_getf 7 2) (np_s_getN hX dX11_step_68 (C := RX7) (T := TX7) (N := 3) rfl guX7 (by decide) gw278) nq_getf_le, List.forall_mem_cons.mpr ⟨np_S.mono (op := np_if (fun x => x = 0) 78) (np_s_if_eq hX dX11_step_71 (by decide)) nq_if_le, List.forall_mem_cons.mpr ⟨np_s_iconst hX dX11_step_74 (by decide), List.forall_mem_cons.mpr ⟨np_s_goto hX dX11_step_75 (by decide), List.forall_mem_cons.mpr ⟨np_s_bipush hX dX11_step_78 (by decide), List.forall_mem_cons.mpr ⟨np_S.mono (op := np_ret X.2.2.1) (np_s_ret hX dX11_step_80) (nq_ret_le hR), List.forall_mem_cons.mpr ⟨np_s_aload_n hX dX11_step_81 rfl, List.forall_mem_cons.mpr ⟨np_S.mono (op := np_if (fun x => x = 0) 99) (np_s_if_eq hX dX11_step_85 (by decide)) nq_if_le, List.forall_mem_cons.mpr ⟨np_S.mono (op := np_throw X.2.2.2 2) (np_s_throw hX ⟨116, 304, 120, _, gw667, gw148, sw1247, twX11_120, toX11_120_116, Or.inr ⟨dX11_step_88, dX11_step_91, dX11_step_92, dX11_step_95, dX11_step_98⟩⟩) (nq_throw_le hT), List.forall_mem_cons.mpr ⟨np_s_aload_n hX dX11_step_99 rfl, List.forall_mem_cons.mpr ⟨np_s_aload_n hX dX11_step_103 rfl, List.forall_mem_cons.mpr ⟨np_S.mono (op := np_getf 11 7) (np_s_getf hX dX11_step_104 (C := RX11) (T := TX11) (N := 14) rfl guX11 (by decide) gw513) nq_getf_le, List.forall_mem_cons.mpr ⟨np_s_aload hX dX11_step_107, List.forall_mem_cons.mpr ⟨np_S.mono (op := np_getf 1 0) (np_s_getN hX dX11_step_109 (C := RX1) (T := TX1) (N := 7) rfl guX1 (by decide) gw380) nq_getf_le, List.forall_mem_cons.mpr ⟨np_s_aload_n hX dX11_step_112 rfl, List.forall_mem_cons.mpr ⟨np_s_aload_n hX dX11_step_113 rfl, List.forall_mem_cons.mpr ⟨np_S.mono (op := np_getf 6 6) (np_s_getN hX dX11_step_114 (C := RX6) (T := TX6) (N := 12) rfl guX6 (by decide) gw420) nq_getf_le, List.forall_mem_cons.mpr ⟨np_s_iconst hX dX11_step_120 (by decide), List.forall_mem_cons.mpr ⟨np_s_istore hX dX11_step_121 (by decide), List.forall_mem_cons.mpr ⟨np_s_iload hX dX11_step_123, List.forall_mem_cons.mpr ⟨np_s_sipush hX dX11_step_125 (by decide), List.forall_mem_cons.mpr ⟨np_S.mono (op := np_ic (fun x y => y ≤ x) 181) (np_s_icmp_ge hX dX11_step_128 (by decide)) nq_ic_le, List.forall_mem_cons.mpr ⟨np_s_aload_n hX dX11_step_131 rfl, List.forall_mem_cons.mpr ⟨np_S.mono (op := np_getf 11 7) (np_s_getf hX dX11_step_132 (C := RX11) (T := TX11) (N := 14) rfl guX11 (by decide) gw513) nq_getf_le, List.forall_mem_cons.mpr ⟨np_S.mono (op := np_if (fun x => x = 0) 181) (np_s_if_eq hX dX11_step_138 (by decide)) nq_if_le, List.forall_mem_cons.mpr ⟨np_s_aload_n hX dX11_step_141 rfl, List.forall_mem_cons.mpr ⟨np_S.mono (op := np_getf 6 6) (np_s_getN hX dX11_step_142 (C := RX6) (T := TX6) (N := 12) rfl guX6 (by decide) gw420) nq_getf_le, List.forall_mem_cons.mpr ⟨np_s_aload_n hX dX11_step_145 rfl, List.forall_mem_cons.mpr ⟨np_S.mono (op := np_getf 11 7) (np_s_getf hX dX11_step_146 (C := RX11) (T := TX11) (N := 14) rfl guX11 (by decide) gw513) nq_getf_le, List.forall_mem_cons.mpr ⟨np_S.mono (op := np_getf 4 1) (np_s_getN hX dX11_step_149 (C := RX4) (T := TX4) (N := 11) rfl guX4 (by decide) gw289) nq_getf_le, List.forall_mem_cons.mpr ⟨np_S.mono (op := np_getf 8 6) (np_s_getN hX dX11_step_152 (C := RX8) (T := TX8) (N := 9) rfl guX8 (by decide) gw225) nq_getf_le, List.forall_mem_cons.mpr ⟨np_s_iadd hX dX11_step_155, List.forall_mem_cons.mpr ⟨np_s_iload hX dX11_step_156, List.forall_mem_cons.mpr ⟨np_S.mono (op := np_icne 175) (np_s_icmp_ne hX dX11_step_158 (by decide)) nq_icne_le, List.forall_mem_cons.mpr ⟨np_s_aload_n hX dX11_step_161 rfl, List.forall_mem_cons.mpr ⟨np_s_aload_n hX dX11_step_162 rfl, List.forall_mem_cons.mpr ⟨np_S.mono (op := np_getf 11 7) (np_s_getf hX dX11_step_163 (C := RX11) (T := TX11) (N := 14) rfl guX11 (by decide) gw513) nq_getf_le, List.forall_mem_cons.mpr ⟨np_S.mono (op := np_getf 4 1) (np_s_getN hX dX11_step_166 (C := RX4) (T := TX4) (N := 11) rfl guX4 (by decide) gw289) nq_getf_le, List.forall_mem_cons.mpr ⟨np_S.mono (op := np_getf 8 0) (np_s_getN hX dX11_step_169 (C := RX8) (T := TX8) (N := 9) rfl guX8 (by decide) gw212) nq_getf_le, List.forall_mem_cons.mpr ⟨np_s_iinc hX dX11_step_175 (by decide), List.forall_mem_cons.mpr ⟨np_s_goto hX dX11_step_178 (by decide), List.forall_mem_cons.mpr ⟨np_s_aload_n hX dX11_step_181 rfl, List.forall_mem_cons.mpr ⟨np_s_aload_n hX dX11_step_182 rfl, List.forall_mem_cons.mpr ⟨np_S.mono (op := np_getf 11 7) (np_s_getf hX dX11_step_183 (C := RX11) (T := TX11) (N := 14) rfl guX11 (by decide) gw513) nq_getf_le, List.forall_mem_cons.mpr ⟨np_S.mono (op := np_getf 4 10) (np_s_getN hX dX11_step_186 (C := RX4) (T := TX4) (N := 11) rfl guX4 (by decide) gw299) nq_getf_le, List.forall_mem_cons.mpr ⟨np_s_iload hX dX11_step_189, List.forall_mem_cons.mpr ⟨np_s_iconst hX dX11_step_191 (by decide), List.forall_mem_cons.mpr ⟨np_s_iadd hX dX11_step_192, List.forall_mem_cons.mpr ⟨np_s_aload_n hX dX11_step_193 rfl, List.forall_mem_cons.mpr ⟨np_S.mono (op := np_getf 7 1) (np_s_getN hX dX11_step_194 (C := RX7) (T := TX7) (N := 3) rfl guX7 (by decide) gw276) nq_getf_le, List.forall_mem_cons.mpr ⟨np_S.mono (op := np_mm 1 6) (np_s_mmin hX dX11_step_197 gw1190 gw1191 gw150 gw1192 (by decide) (by decide)) nq_mm_le, List.forall_mem_cons.mpr ⟨np_S.mono (op := np_if (fun x => x = 0) 210) (np_s_if_eq hX dX11_step_203 (by decide)) nq_if_le, List.forall_mem_cons.mpr ⟨np_s_iconst hX dX11_step_206 (by decide), List.forall_mem_cons.mpr ⟨np_s_goto hX dX11_step_207 (by decide), List.forall_mem_cons.mpr ⟨np_s_iconst hX dX11_step_210 (by decide), List.forall_mem_cons.mpr ⟨np_S.mono (op := np_ret X.2.2.1) (np_s_ret hX dX11_step_211) (nq_ret_le hR), fun _ h => nomatch h⟩⟩⟩⟩⟩⟩⟩⟩⟩⟩⟩⟩⟩⟩⟩⟩⟩⟩⟩⟩⟩⟩⟩⟩⟩⟩⟩⟩⟩⟩⟩⟩⟩⟩⟩⟩⟩⟩⟩⟩⟩⟩⟩⟩⟩⟩⟩⟩⟩⟩⟩⟩⟩⟩⟩⟩⟩⟩⟩⟩⟩⟩⟩⟩⟩⟩⟩⟩⟩⟩⟩⟩⟩⟩⟩⟩⟩⟩⟩⟩⟩⟩
abbrev sp_X11_step : np_SpX := nq_inX is_X11_step (some .int) 1 6 400
theorem C_X11_step : np_CX yX11_step cX11_step 7 (some .int) 6 100 1 6 sp_X11_step := nq_inCX 400 (by decide) (by decide) (by decide) (fun X Rt Th hX hmn hR hT => so_X11_step hX hR hT)
theorem dX11_progress_0 : decode cX11_progress 0 = .ok (.aload_n 0, 1) := by decide +kernel
theorem dX11_progress_1 : decode cX11_progress 1 = .ok (.iload_n 1, 1) := by decide +kernel
theorem dX11_progress_2 : decode cX11_progress 2 = .ok (.invokevirtual 283, 3) := by decide +kernel
theorem dX11_progress_5 : decode cX11_progress 5 = .ok (.astore_n 2, 1) := by decide +kernel
theorem dX11_progress_6 : decode cX11_progress 6 = .ok (.aload_n 2, 1) := by decide +kernel
theorem dX11_progress_7 : decode cX11_progress 7 = .ok (.ifnonnull 13, 3) := by decide +kernel
theorem dX11_progress_10 : decode cX11_progress 10 = .ok (.new 96, 3) := by decide +kernel
theorem dX11_progress_13 : decode cX11_progress 13 = .ok (.dup, 1) := by decide +kernel
theorem dX11_progress_14 : decode cX11_progress 14 = .ok (.ldc 215, 2) := by decide +kernel
theorem dX11_progress_16 : decode cX11_progress 16 = .ok (.invokespecial 100, 3) := by decide +kernel
theorem dX11_progress_19 : decode cX11_progress 19 = .ok (.athrow, 1) := by decide +kernel
theorem dX11_progress_20 : decode cX11_progress 20 = .ok (.sipush 10000, 3) := by decide +kernel
theorem dX11_progress_23 : decode cX11_progress 23 = .ok (.aload_n 2, 1) := by decide +kernel
theorem dX11_progress_24 : decode cX11_progress 24 = .ok (.getfield 317, 3) := by decide +kernel
theorem dX11_progress_27 : decode cX11_progress 27 = .ok (.imul, 1) := by decide +kernel
theorem dX11_progress_28 : decode cX11_progress 28 = .ok (.sipush 1000, 3) := by decide +kernel
theorem dX11_progress_31 : decode cX11_progress 31 = .ok (.aload_n 2, 1) := by decide +kernel
theorem dX11_progress_32 : decode cX11_progress 32 = .ok (.getfield 320, 3) := by decide +kernel
theorem dX11_progress_35 : decode cX11_progress 35 = .ok (.bipush 9, 2) := by decide +kernel
theorem dX11_progress_37 : decode cX11_progress 37 = .ok (.invokestatic 268, 3) := by decide +kernel
theorem dX11_progress_40 : decode cX11_progress 40 = .ok (.imul, 1) := by decide +kernel
theorem dX11_progress_41 : decode cX11_progress 41 = .ok (.iadd, 1) := by decide +kernel
theorem dX11_progress_42 : decode cX11_progress 42 = .ok (.aload_n 2, 1) := by decide +kernel
theorem dX11_progress_43 : decode cX11_progress 43 = .ok (.getfield 287, 3) := by decide +kernel
theorem dX11_progress_46 : decode cX11_progress 46 = .ok (.iadd, 1) := by decide +kernel
theorem dX11_progress_47 : decode cX11_progress 47 = .ok (.ireturn, 1) := by decide +kernel
def is_X11_progress (Rt : np_Rt) (Th : np_Th) : List (Nat × np_Op) := [(0, np_ald 1 0), (1, np_ild 1 1), (2, nq_callV 11 2 sp_X11_tableOf 2 0 0 1 6), (5, np_ast 1 2), (6, np_ald 1 2), (7, np_ifnonnull 20), (10, nq_throw Th 0), (20, np_push 3 (.int 10000)), (23, np_ald 1 2), (24, nq_getf 6 7), (27, np_ib (fun x y => x * y)), (28, np_push 3 (.int 1000)), (31, np_ald 1 2), (32, nq_getf 6 8), (35, np_push 2 (.int 9)), (37, nq_mm 1 6), (40, np_ib (fun x y => x * y)), (41, np_ib (fun x y => x + y)), (42, np_ald 1 2), (43, nq_getf 6 6), (46, np_ib (fun x y => x + y)), (47, np_ret Rt)]
set_option maxRecDepth 20000 in
theorem so_X11_progress {X : np_Ctx} {Rt : np_Rt} {Th : np_Th} (hX : np_ok RX11 cX11_progress 3 6 100 1 6 .ireturn X) (hR : ∀ st w ce sl, Rt st w ce sl → X.2.2.1 st w ce sl) (hT : ∀ i w ce sl, Th i w ce sl → X.2.2.2 i w ce sl) : ∀ q ∈ is_X11_progress Rt Th, np_S X q.1 q.2 :=
  List.forall_mem_cons.mpr ⟨np_s_aload_n hX dX11_progress_0 rfl, List.forall_mem_cons.mpr ⟨np_s_iload_n hX dX11_progress_1 rfl, List.forall_mem_cons.mpr ⟨np_S.mono (op := np_callV 11 2 sp_X11_tableOf 2 0 0 1 6) (np_s_callV hX C_X11_tableOf dX11_progress_2 (q := (RX11, TX11, 14)) rfl rfl gw1222 gw130 gw1219 gw1221 gw33 ⟨by decide, by decide, by decide⟩ (by decide) (by decide)) nq_callV_le, List.forall_mem_cons.mpr ⟨np_s_astore_n hX dX11_progress_5 rfl (by decide), List.forall_mem_cons.mpr ⟨np_s_aload_n hX dX11_progress_6 rfl, List.forall_mem_cons.mpr ⟨np_s_ifnonnull hX dX11_progress_7 (by decide), List.forall_mem_cons.mpr ⟨np_S.mono (op := np_throw X.2.2.2 0) (np_s_throw hX ⟨96, 215, 100, _, gw573, gw146, sw1036, twX11_100, toX11_100_96, Or.inl ⟨dX11_progress_10, dX11_progress_13, dX11_progress_14, dX11_progress_16, dX11_progress_19⟩⟩) (nq_throw_le hT), List.forall_mem_cons.mpr ⟨np_s_sipush hX dX11_progress_20 (by decide), List.forall_mem_cons.mpr ⟨np_s_aload_n hX dX11_progress_23 rfl, List.forall_mem_cons.mpr ⟨np_S.mono (op := np_getf 6 7) (np_s_getN hX dX11_progress_24 (C := RX6) (T := TX6) (N := 12) rfl guX6 (by decide) gw422) nq_getf_le, List.forall_mem_cons.mpr ⟨np_s_imul hX dX11_progress_27, List.forall_mem_cons.mpr ⟨np_s_sipush hX dX11_progress_28 (by decide), List.forall_mem_cons.mpr ⟨np_s_aload_n hX dX11_progress_31 rfl, List.forall_mem_cons.mpr ⟨np_S.mono (op := np_getf 6 8) (np_s_getN hX dX11_progress_32 (C := RX6) (T := TX6) (N := 12) rfl guX6 (by decide) gw424) nq_getf_le, List.forall_mem_cons.mpr ⟨np_s_bipush hX dX11_progress_35 (by decide), List.forall_mem_cons.mpr ⟨np_S.mono (op := np_mm 1 6) (np_s_mmin hX dX11_progress_37 gw1190 gw1191 gw150 gw1192 (by decide) (by decide)) nq_mm_le, List.forall_mem_cons.mpr ⟨np_s_imul hX dX11_progress_40, List.forall_mem_cons.mpr ⟨np_s_iadd hX dX11_progress_41, List.forall_mem_cons.mpr ⟨np_s_aload_n hX dX11_progress_42 rfl, List.forall_mem_cons.mpr ⟨np_S.mono (op := np_getf 6 6) (np_s_getN hX dX11_progress_43 (C := RX6) (T := TX6) (N := 12) rfl guX6 (by decide) gw420) nq_getf_le, List.forall_mem_cons.mpr ⟨np_s_iadd hX dX11_progress_46, List.forall_mem_cons.mpr ⟨np_S.mono (op := np_ret X.2.2.1) (np_s_ret hX dX11_progress_47) (nq_ret_le hR), fun _ h => nomatch h⟩⟩⟩⟩⟩⟩⟩⟩⟩⟩⟩⟩⟩⟩⟩⟩⟩⟩⟩⟩⟩⟩
abbrev sp_X11_progress : np_SpX := nq_inX is_X11_progress (some .int) 1 6 400
theorem C_X11_progress : np_CX yX11_progress cX11_progress 3 (some .int) 6 100 1 6 sp_X11_progress := nq_inCX 400 (by decide) (by decide) (by decide) (fun X Rt Th hX hmn hR hT => so_X11_progress hX hR hT)
theorem dX11_skipped_0 : decode cX11_skipped 0 = .ok (.aload_n 0, 1) := by decide +kernel
theorem dX11_skipped_1 : decode cX11_skipped 1 = .ok (.iload_n 1, 1) := by decide +kernel
theorem dX11_skipped_2 : decode cX11_skipped 2 = .ok (.invokevirtual 283, 3) := by decide +kernel
theorem dX11_skipped_5 : decode cX11_skipped 5 = .ok (.astore_n 3, 1) := by decide +kernel
theorem dX11_skipped_6 : decode cX11_skipped 6 = .ok (.aload_n 3, 1) := by decide +kernel
theorem dX11_skipped_7 : decode cX11_skipped 7 = .ok (.ifnonnull 13, 3) := by decide +kernel
theorem dX11_skipped_10 : decode cX11_skipped 10 = .ok (.new 96, 3) := by decide +kernel
theorem dX11_skipped_13 : decode cX11_skipped 13 = .ok (.dup, 1) := by decide +kernel
theorem dX11_skipped_14 : decode cX11_skipped 14 = .ok (.ldc 215, 2) := by decide +kernel
theorem dX11_skipped_16 : decode cX11_skipped 16 = .ok (.invokespecial 100, 3) := by decide +kernel
theorem dX11_skipped_19 : decode cX11_skipped 19 = .ok (.athrow, 1) := by decide +kernel
theorem dX11_skipped_20 : decode cX11_skipped 20 = .ok (.iload_n 2, 1) := by decide +kernel
theorem dX11_skipped_21 : decode cX11_skipped 21 = .ok (.ifCond .lt 11, 3) := by decide +kernel
theorem dX11_skipped_24 : decode cX11_skipped 24 = .ok (.iload_n 2, 1) := by decide +kernel
theorem dX11_skipped_25 : decode cX11_skipped 25 = .ok (.aload_n 3, 1) := by decide +kernel
theorem dX11_skipped_26 : decode cX11_skipped 26 = .ok (.getfield 323, 3) := by decide +kernel
theorem dX11_skipped_29 : decode cX11_skipped 29 = .ok (.if_icmp .lt 14, 3) := by decide +kernel
theorem dX11_skipped_32 : decode cX11_skipped 32 = .ok (.new 96, 3) := by decide +kernel
theorem dX11_skipped_35 : decode cX11_skipped 35 = .ok (.dup, 1) := by decide +kernel
theorem dX11_skipped_36 : decode cX11_skipped 36 = .ok (.ldc_w 326, 3) := by decide +kernel
theorem dX11_skipped_39 : decode cX11_skipped 39 = .ok (.invokespecial 100, 3) := by decide +kernel
theorem dX11_skipped_42 : decode cX11_skipped 42 = .ok (.athrow, 1) := by decide +kernel
theorem dX11_skipped_43 : decode cX11_skipped 43 = .ok (.aload_n 3, 1) := by decide +kernel
theorem dX11_skipped_44 : decode cX11_skipped 44 = .ok (.getfield 328, 3) := by decide +kernel
theorem dX11_skipped_47 : decode cX11_skipped 47 = .ok (.iload_n 2, 1) := by decide +kernel
theorem dX11_skipped_48 : decode cX11_skipped 48 = .ok (.iconst 0, 1) := by decide +kernel
theorem dX11_skipped_49 : decode cX11_skipped 49 = .ok (.invokestatic 183, 3) := by decide +kernel
theorem dX11_skipped_52 : decode cX11_skipped 52 = .ok (.ireturn, 1) := by decide +kernel
def is_X11_skipped (Rt : np_Rt) (Th : np_Th) : List (Nat × np_Op) := [(0, np_ald 1 0), (1, np_ild 1 1), (2, nq_callV 11 2 sp_X11_tableOf 2 0 0 1 6), (5, np_ast 1 3), (6, np_ald 1 3), (7, np_ifnonnull 20), (10, nq_throw Th 0), (20, np_ild 1 2), (21, nq_if (fun x => x < 0) 32), (24, np_ild 1 2), (25, np_ald 1 3), (26, nq_getf 6 9), (29, nq_ic (fun x y => x < y) 43), (32, nq_throw Th 0), (43, np_ald 1 3), (44, nq_getf 6 1), (47, np_ild 1 2), (48, np_push 1 (.int 0)), (49, nq_call 3 sp_X11_at 3 0 0 1 6), (52, np_ret Rt)]
set_option maxRecDepth 20000 in
theorem so_X11_skipped {X : np_Ctx} {Rt : np_Rt} {Th : np_Th} (hX : np_ok RX11 cX11_skipped 4 6 100 1 6 .ireturn X) (hR : ∀ st w ce sl, Rt st w ce sl → X.2.2.1 st w ce sl) (hT : ∀ i w ce sl, Th i w ce sl → X.2.2.2 i w ce sl) : ∀ q ∈ is_X11_skipped Rt Th, np_S X q.1 q.2 :=
  List.forall_mem_cons.mpr ⟨np_s_aload_n hX dX11_skipped_0 rfl, List.forall_mem_cons.mpr ⟨np_s_iload_n hX dX11_skipped_1 rfl, List.forall_mem_cons.mpr ⟨np_S.mono (op := np_callV 11 2 sp_X11_tableOf 2 0 0 1 6) (np_s_callV hX C_X11_tableOf dX11_skipped_2 (q := (RX11, TX11, 14)) rfl rfl gw1222 gw130 gw1219 gw1221 gw33 ⟨by decide, by decide, by decide⟩ (by decide) (by decide)) nq_callV_le, List.forall_mem_cons.mpr ⟨np_s_astore_n hX dX11_skipped_5 rfl (by decide), List.forall_mem_cons.mpr ⟨np_s_aload_n hX dX11_skipped_6 rfl, List.forall_mem_cons.mpr ⟨np_s_ifnonnull hX dX11_skipped_7 (by decide), List.forall_mem_cons.mpr ⟨np_S.mono (op := np_throw X.2.2.2 0) (np_s_throw hX ⟨96, 215, 100, _, gw573, gw146, sw1036, twX11_100, toX11_100_96, Or.inl ⟨dX11_skipped_10, dX11_skipped_13, dX11_skipped_14, dX11_skipped_16, dX11_skipped_19⟩⟩) (nq_throw_le hT), List.forall_mem_cons.mpr ⟨np_s_iload_n hX dX11_skipped_20 rfl, List.forall_mem_cons.mpr ⟨np_S.mono (op := np_if (fun x => x < 0) 32) (np_s_if_lt hX dX11_skipped_21 (by decide)) nq_if_le, List.forall_mem_cons.mpr ⟨np_s_iload_n hX dX11_skipped_24 rfl, List.forall_mem_cons.mpr ⟨np_s_aload_n hX dX11_skipped_25 rfl, List.forall_mem_cons.mpr ⟨np_S.mono (op := np_getf 6 9) (np_s_getN hX dX11_skipped_26 (C := RX6) (T := TX6) (N := 12) rfl guX6 (by decide) gw426) nq_getf_le, List.forall_mem_cons.mpr ⟨np_S.mono (op := np_ic (fun x y => x < y) 43) (np_s_icmp_lt hX dX11_skipped_29 (by decide)) nq_ic_le, List.forall_mem_cons.mpr ⟨np_S.mono (op := np_throw X.2.2.2 0) (np_s_throw hX ⟨96, 326, 100, _, gw573, gw146, sw1303, twX11_100, toX11_100_96, Or.inr ⟨dX11_skipped_32, dX11_skipped_35, dX11_skipped_36, dX11_skipped_39, dX11_skipped_42⟩⟩) (nq_throw_le hT), List.forall_mem_cons.mpr ⟨np_s_aload_n hX dX11_skipped_43 rfl, List.forall_mem_cons.mpr ⟨np_S.mono (op := np_getf 6 1) (np_s_getN hX dX11_skipped_44 (C := RX6) (T := TX6) (N := 12) rfl guX6 (by decide) gw413) nq_getf_le, List.forall_mem_cons.mpr ⟨np_s_iload_n hX dX11_skipped_47 rfl, List.forall_mem_cons.mpr ⟨np_s_iconst hX dX11_skipped_48 (by decide), List.forall_mem_cons.mpr ⟨np_S.mono (op := np_call 3 sp_X11_at 3 0 0 1 6) (np_s_callS hX C_X11_at dX11_skipped_49 gw712 gw130 gw815 gw711 ⟨by decide, by decide, by decide⟩ (by decide) (by decide)) nq_call_le, List.forall_mem_cons.mpr ⟨np_S.mono (op := np_ret X.2.2.1) (np_s_ret hX dX11_skipped_52) (nq_ret_le hR), fun _ h => nomatch h⟩⟩⟩⟩⟩⟩⟩⟩⟩⟩⟩⟩⟩⟩⟩⟩⟩⟩⟩⟩
abbrev sp_X11_skipped : np_SpX := nq_inX is_X11_skipped (some .int) 1 6 400
theorem C_X11_skipped : np_CX yX11_skipped cX11_skipped 4 (some .int) 6 100 1 6 sp_X11_skipped := nq_inCX 400 (by decide) (by decide) (by decide) (fun X Rt Th hX hmn hR hT => so_X11_skipped hX hR hT)
theorem dX11_cell_0 : decode cX11_cell 0 = .ok (.aload_n 0, 1) := by decide +kernel
theorem dX11_cell_1 : decode cX11_cell 1 = .ok (.iload_n 1, 1) := by decide +kernel
theorem dX11_cell_2 : decode cX11_cell 2 = .ok (.invokevirtual 283, 3) := by decide +kernel
theorem dX11_cell_5 : decode cX11_cell 5 = .ok (.astore 5, 2) := by decide +kernel
theorem dX11_cell_7 : decode cX11_cell 7 = .ok (.aload 5, 2) := by decide +kernel
theorem dX11_cell_9 : decode cX11_cell 9 = .ok (.ifnull 12, 3) := by decide +kernel
theorem dX11_cell_12 : decode cX11_cell 12 = .ok (.aload 5, 2) := by decide +kernel
theorem dX11_cell_14 : decode cX11_cell 14 = .ok (.iload_n 2, 1) := by decide +kernel
theorem dX11_cell_15 : decode cX11_cell 15 = .ok (.invokevirtual 331, 3) := by decide +kernel
theorem dX11_cell_18 : decode cX11_cell 18 = .ok (.ifCond .ne 14, 3) := by decide +kernel
theorem dX11_cell_21 : decode cX11_cell 21 = .ok (.new 96, 3) := by decide +kernel
theorem dX11_cell_24 : decode cX11_cell 24 = .ok (.dup, 1) := by decide +kernel
theorem dX11_cell_25 : decode cX11_cell 25 = .ok (.ldc_w 334, 3) := by decide +kernel
theorem dX11_cell_28 : decode cX11_cell 28 = .ok (.invokespecial 100, 3) := by decide +kernel
theorem dX11_cell_31 : decode cX11_cell 31 = .ok (.athrow, 1) := by decide +kernel
theorem dX11_cell_32 : decode cX11_cell 32 = .ok (.iload_n 3, 1) := by decide +kernel
theorem dX11_cell_33 : decode cX11_cell 33 = .ok (.iload 4, 2) := by decide +kernel
theorem dX11_cell_35 : decode cX11_cell 35 = .ok (.invokestatic 172, 3) := by decide +kernel
theorem dX11_cell_38 : decode cX11_cell 38 = .ok (.ifCond .ne 13, 3) := by decide +kernel
theorem dX11_cell_41 : decode cX11_cell 41 = .ok (.new 96, 3) := by decide +kernel
theorem dX11_cell_44 : decode cX11_cell 44 = .ok (.dup, 1) := by decide +kernel
theorem dX11_cell_45 : decode cX11_cell 45 = .ok (.ldc 176, 2) := by decide +kernel
theorem dX11_cell_47 : decode cX11_cell 47 = .ok (.invokespecial 100, 3) := by decide +kernel
theorem dX11_cell_50 : decode cX11_cell 50 = .ok (.athrow, 1) := by decide +kernel
theorem dX11_cell_51 : decode cX11_cell 51 = .ok (.aload 5, 2) := by decide +kernel
theorem dX11_cell_53 : decode cX11_cell 53 = .ok (.iload_n 2, 1) := by decide +kernel
theorem dX11_cell_54 : decode cX11_cell 54 = .ok (.iload_n 3, 1) := by decide +kernel
theorem dX11_cell_55 : decode cX11_cell 55 = .ok (.iload 4, 2) := by decide +kernel
theorem dX11_cell_57 : decode cX11_cell 57 = .ok (.invokestatic 178, 3) := by decide +kernel
theorem dX11_cell_60 : decode cX11_cell 60 = .ok (.invokevirtual 336, 3) := by decide +kernel
theorem dX11_cell_63 : decode cX11_cell 63 = .ok (.ireturn, 1) := by decide +kernel
def is_X11_cell (Rt : np_Rt) (Th : np_Th) : List (Nat × np_Op) := [(0, np_ald 1 0), (1, np_ild 1 1), (2, nq_callV 11 2 sp_X11_tableOf 2 0 0 1 6), (5, np_ast 2 5), (7, np_ald 2 5), (9, np_ifnull 21), (12, np_ald 2 5), (14, np_ild 1 2), (15, nq_callV 6 2 sp_X6_hasRow 2 0 0 1 6), (18, nq_ifne 32), (21, nq_throw Th 0), (32, np_ild 1 3), (33, np_ild 2 4), (35, nq_call 2 sp_X11_isCell 2 0 0 1 6), (38, nq_ifne 51), (41, nq_throw Th 0), (51, np_ald 2 5), (53, np_ild 1 2), (54, np_ild 1 3), (55, np_ild 2 4), (57, nq_call 2 sp_X11_cellPlace 2 0 0 1 6), (63, np_ret Rt)]
set_option maxRecDepth 20000 in
theorem so_X11_cell {X : np_Ctx} {Rt : np_Rt} {Th : np_Th} (hX : np_ok RX11 cX11_cell 6 6 100 1 6 .ireturn X) (hR : ∀ st w ce sl, Rt st w ce sl → X.2.2.1 st w ce sl) (hT : ∀ i w ce sl, Th i w ce sl → X.2.2.2 i w ce sl) : ∀ q ∈ is_X11_cell Rt Th, np_S X q.1 q.2 :=
  List.forall_mem_cons.mpr ⟨np_s_aload_n hX dX11_cell_0 rfl, List.forall_mem_cons.mpr ⟨np_s_iload_n hX dX11_cell_1 rfl, List.forall_mem_cons.mpr ⟨np_S.mono (op := np_callV 11 2 sp_X11_tableOf 2 0 0 1 6) (np_s_callV hX C_X11_tableOf dX11_cell_2 (q := (RX11, TX11, 14)) rfl rfl gw1222 gw130 gw1219 gw1221 gw33 ⟨by decide, by decide, by decide⟩ (by decide) (by decide)) nq_callV_le, List.forall_mem_cons.mpr ⟨np_s_astore hX dX11_cell_5 (by decide), List.forall_mem_cons.mpr ⟨np_s_aload hX dX11_cell_7, List.forall_mem_cons.mpr ⟨np_s_ifnull hX dX11_cell_9 (by decide), List.forall_mem_cons.mpr ⟨np_s_aload hX dX11_cell_12, List.forall_mem_cons.mpr ⟨np_s_iload_n hX dX11_cell_14 rfl, List.forall_mem_cons.mpr ⟨np_S.mono (op := np_callV 6 2 sp_X6_hasRow 2 0 0 1 6) (np_s_callV hX C_X6_hasRow dX11_cell_15 (q := (RX6, TX6, 12)) rfl rfl gw1278 gw139 gw1311 gw1276 gw1277 ⟨by decide, by decide, by decide⟩ (by decide) (by decide)) nq_callV_le, List.forall_mem_cons.mpr ⟨np_S.mono (op := np_ifne 32) (np_s_if_ne hX dX11_cell_18 (by decide)) nq_ifne_le, List.forall_mem_cons.mpr ⟨np_S.mono (op := np_throw X.2.2.2 0) (np_s_throw hX ⟨96, 334, 100, _, gw573, gw146, sw1312, twX11_100, toX11_100_96, Or.inr ⟨dX11_cell_21, dX11_cell_24, dX11_cell_25, dX11_cell_28, dX11_cell_31⟩⟩) (nq_throw_le hT), List.forall_mem_cons.mpr ⟨np_s_iload_n hX dX11_cell_32 rfl, List.forall_mem_cons.mpr ⟨np_s_iload hX dX11_cell_33, List.forall_mem_cons.mpr ⟨np_S.mono (op := np_call 2 sp_X11_isCell 2 0 0 1 6) (np_s_callS hX C_X11_isCell dX11_cell_35 gw810 gw130 gw808 gw809 ⟨by decide, by decide, by decide⟩ (by decide) (by decide)) nq_call_le, List.forall_mem_cons.mpr ⟨np_S.mono (op := np_ifne 51) (np_s_if_ne hX dX11_cell_38 (by decide)) nq_ifne_le, List.forall_mem_cons.mpr ⟨np_S.mono (op := np_throw X.2.2.2 0) (np_s_throw hX ⟨96, 176, 100, _, gw573, gw146, sw811, twX11_100, toX11_100_96, Or.inl ⟨dX11_cell_41, dX11_cell_44, dX11_cell_45, dX11_cell_47, dX11_cell_50⟩⟩) (nq_throw_le hT), List.forall_mem_cons.mpr ⟨np_s_aload hX dX11_cell_51, List.forall_mem_cons.mpr ⟨np_s_iload_n hX dX11_cell_53 rfl, List.forall_mem_cons.mpr ⟨np_s_iload_n hX dX11_cell_54 rfl, List.forall_mem_cons.mpr ⟨np_s_iload hX dX11_cell_55, List.forall_mem_cons.mpr ⟨np_S.mono (op := np_call 2 sp_X11_cellPlace 2 0 0 1 6) (np_s_callS hX C_X11_cellPlace dX11_cell_57 gw814 gw130 gw812 gw813 ⟨by decide, by decide, by decide⟩ (by decide) (by decide)) nq_call_le, List.forall_mem_cons.mpr ⟨np_S.mono (op := np_ret X.2.2.1) (np_s_ret hX dX11_cell_63) (nq_ret_le hR), fun _ h => nomatch h⟩⟩⟩⟩⟩⟩⟩⟩⟩⟩⟩⟩⟩⟩⟩⟩⟩⟩⟩⟩⟩⟩
abbrev sp_X11_cell : np_SpX := nq_inX is_X11_cell (some .int) 1 6 400
theorem C_X11_cell : np_CX yX11_cell cX11_cell 6 (some .int) 6 100 1 6 sp_X11_cell := nq_inCX 400 (by decide) (by decide) (by decide) (fun X Rt Th hX hmn hR hT => so_X11_cell hX hR hT)
theorem dX11_take_0 : decode cX11_take 0 = .ok (.aload_n 0, 1) := by decide +kernel
theorem dX11_take_1 : decode cX11_take 1 = .ok (.iload_n 1, 1) := by decide +kernel
theorem dX11_take_2 : decode cX11_take 2 = .ok (.invokevirtual 283, 3) := by decide +kernel
theorem dX11_take_5 : decode cX11_take 5 = .ok (.astore_n 3, 1) := by decide +kernel
theorem dX11_take_6 : decode cX11_take 6 = .ok (.aload_n 3, 1) := by decide +kernel
theorem dX11_take_7 : decode cX11_take 7 = .ok (.ifnull 11, 3) := by decide +kernel
theorem dX11_take_10 : decode cX11_take 10 = .ok (.aload_n 3, 1) := by decide +kernel
theorem dX11_take_11 : decode cX11_take 11 = .ok (.iload_n 2, 1) := by decide +kernel
theorem dX11_take_12 : decode cX11_take 12 = .ok (.invokevirtual 331, 3) := by decide +kernel
theorem dX11_take_15 : decode cX11_take 15 = .ok (.ifCond .ne 14, 3) := by decide +kernel
theorem dX11_take_18 : decode cX11_take 18 = .ok (.new 96, 3) := by decide +kernel
theorem dX11_take_21 : decode cX11_take 21 = .ok (.dup, 1) := by decide +kernel
theorem dX11_take_22 : decode cX11_take 22 = .ok (.ldc_w 334, 3) := by decide +kernel
theorem dX11_take_25 : decode cX11_take 25 = .ok (.invokespecial 100, 3) := by decide +kernel
theorem dX11_take_28 : decode cX11_take 28 = .ok (.athrow, 1) := by decide +kernel
theorem dX11_take_29 : decode cX11_take 29 = .ok (.aload_n 3, 1) := by decide +kernel
theorem dX11_take_30 : decode cX11_take 30 = .ok (.getfield 339, 3) := by decide +kernel
theorem dX11_take_33 : decode cX11_take 33 = .ok (.iload_n 2, 1) := by decide +kernel
theorem dX11_take_34 : decode cX11_take 34 = .ok (.bipush 24, 2) := by decide +kernel
theorem dX11_take_36 : decode cX11_take 36 = .ok (.imul, 1) := by decide +kernel
theorem dX11_take_37 : decode cX11_take 37 = .ok (.aload_n 0, 1) := by decide +kernel
theorem dX11_take_38 : decode cX11_take 38 = .ok (.getfield 28, 3) := by decide +kernel
theorem dX11_take_41 : decode cX11_take 41 = .ok (.iconst 0, 1) := by decide +kernel
theorem dX11_take_42 : decode cX11_take 42 = .ok (.bipush 24, 2) := by decide +kernel
theorem dX11_take_44 : decode cX11_take 44 = .ok (.invokestatic 207, 3) := by decide +kernel
theorem dX11_take_47 : decode cX11_take 47 = .ok (.iconst 0, 1) := by decide +kernel
theorem dX11_take_48 : decode cX11_take 48 = .ok (.istore 4, 2) := by decide +kernel
theorem dX11_take_50 : decode cX11_take 50 = .ok (.iconst 0, 1) := by decide +kernel
theorem dX11_take_51 : decode cX11_take 51 = .ok (.istore 5, 2) := by decide +kernel
theorem dX11_take_53 : decode cX11_take 53 = .ok (.iload 5, 2) := by decide +kernel
theorem dX11_take_55 : decode cX11_take 55 = .ok (.aload_n 0, 1) := by decide +kernel
theorem dX11_take_56 : decode cX11_take 56 = .ok (.getfield 28, 3) := by decide +kernel
theorem dX11_take_59 : decode cX11_take 59 = .ok (.arraylength, 1) := by decide +kernel
theorem dX11_take_60 : decode cX11_take 60 = .ok (.if_icmp .ge 24, 3) := by decide +kernel
theorem dX11_take_63 : decode cX11_take 63 = .ok (.aload_n 0, 1) := by decide +kernel
theorem dX11_take_64 : decode cX11_take 64 = .ok (.getfield 28, 3) := by decide +kernel
theorem dX11_take_67 : decode cX11_take 67 = .ok (.iload 5, 2) := by decide +kernel
theorem dX11_take_69 : decode cX11_take 69 = .ok (.iaload, 1) := by decide +kernel
theorem dX11_take_70 : decode cX11_take 70 = .ok (.ldc 182, 2) := by decide +kernel
theorem dX11_take_72 : decode cX11_take 72 = .ok (.if_icmp .eq 6, 3) := by decide +kernel
theorem dX11_take_75 : decode cX11_take 75 = .ok (.iinc 4 1, 3) := by decide +kernel
theorem dX11_take_78 : decode cX11_take 78 = .ok (.iinc 5 1, 3) := by decide +kernel
theorem dX11_take_81 : decode cX11_take 81 = .ok (.goto (-28), 3) := by decide +kernel
theorem dX11_take_84 : decode cX11_take 84 = .ok (.iload 4, 2) := by decide +kernel
theorem dX11_take_86 : decode cX11_take 86 = .ok (.ireturn, 1) := by decide +kernel
def is_X11_take (Rt : np_Rt) (Th : np_Th) : List (Nat × np_Op) := [(0, np_ald 1 0), (1, np_ild 1 1), (2, nq_callV 11 2 sp_X11_tableOf 2 0 0 1 6), (5, np_ast 1 3), (6, np_ald 1 3), (7, np_ifnull 18), (10, np_ald 1 3), (11, np_ild 1 2), (12, nq_callV 6 2 sp_X6_hasRow 2 0 0 1 6), (15, nq_ifne 29), (18, nq_throw Th 0), (29, np_ald 1 3), (30, nq_getf 6 0), (33, np_ild 1 2), (34, np_push 2 (.int 24)), (36, np_ib (fun x y => x * y)), (37, np_ald 1 0), (38, nq_getf 11 3), (41, np_push 1 (.int 0)), (42, np_push 2 (.int 24)), (47, np_push 1 (.int 0)), (48, np_ist 2 4), (50, np_push 1 (.int 0)), (51, np_ist 2 5), (53, np_ild 2 5), (55, np_ald 1 0), (56, nq_getf 11 3), (59, np_alen), (60, nq_ic (fun x y => y ≤ x) 84), (63, np_ald 1 0), (64, nq_getf 11 3), (67, np_ild 2 5), (69, nq_ialdT .int), (70, np_push 2 (.int (-2147483648))), (72, nq_ic (fun x y => x = y) 78), (75, np_iinc 4 1), (78, np_iinc 5 1), (81, np_goto 53), (84, np_ild 2 4), (86, np_ret Rt)]
set_option maxRecDepth 20000 in
theorem so_X11_take {X : np_Ctx} {Rt : np_Rt} {Th : np_Th} (hX : np_ok RX11 cX11_take 6 6 100 1 6 .ireturn X) (hR : ∀ st w ce sl, Rt st w ce sl → X.2.2.1 st w ce sl) (hT : ∀ i w ce sl, Th i w ce sl → X.2.2.2 i w ce sl) : ∀ q ∈ is_X11_take Rt Th, np_S X q.1 q.2 :=
  List.forall_mem_cons.mpr ⟨np_s_aload_n hX dX11_take_0 rfl, List.forall_mem_cons.mpr ⟨np_s_iload_n hX dX11_take_1 rfl, List.forall_mem_cons.mpr ⟨np_S.mono (op := np_callV 11 2 sp_X11_tableOf 2 0 0 1 6) (np_s_callV hX C_X11_tableOf dX11_take_2 (q := (RX11, TX11, 14)) rfl rfl gw1222 gw130 gw1219 gw1221 gw33 ⟨by decide, by decide, by decide⟩ (by decide) (by decide)) nq_callV_le, List.forall_mem_cons.mpr ⟨np_s_astore_n hX dX11_take_5 rfl (by decide), List.forall_mem_cons.mpr ⟨np_s_aload_n hX dX11_take_6 rfl, List.forall_mem_cons.mpr ⟨np_s_ifnull hX dX11_take_7 (by decide), List.forall_mem_cons.mpr ⟨np_s_aload_n hX dX11_take_10 rfl, List.forall_mem_cons.mpr ⟨np_s_iload_n hX dX11_take_11 rfl, List.forall_mem_cons.mpr ⟨np_S.mono (op := np_callV 6 2 sp_X6_hasRow 2 0 0 1 6) (np_s_callV hX C_X6_hasRow dX11_take_12 (q := (RX6, TX6, 12)) rfl rfl gw1278 gw139 gw1311 gw1276 gw1277 ⟨by decide, by decide, by decide⟩ (by decide) (by decide)) nq_callV_le, List.forall_mem_cons.mpr ⟨np_S.mono (op := np_ifne 29) (np_s_if_ne hX dX11_take_15 (by decide)) nq_ifne_le, List.forall_mem_cons.mpr ⟨np_S.mono (op := np_throw X.2.2.2 0) (np_s_throw hX ⟨96, 334, 100, _, gw573, gw146, sw1312, twX11_100, toX11_100_96, Or.inr ⟨dX11_take_18, dX11_take_21, dX11_take_22, dX11_take_25, dX11_take_28⟩⟩) (nq_throw_le hT), List.forall_mem_cons.mpr ⟨np_s_aload_n hX dX11_take_29 rfl, List.forall_mem_cons.mpr ⟨np_S.mono (op := np_getf 6 0) (np_s_getN hX dX11_take_30 (C := RX6) (T := TX6) (N := 12) rfl guX6 (by decide) gw411) nq_getf_le, List.forall_mem_cons.mpr ⟨np_s_iload_n hX dX11_take_33 rfl, List.forall_mem_cons.mpr ⟨np_s_bipush hX dX11_take_34 (by decide), List.forall_mem_cons.mpr ⟨np_s_imul hX dX11_take_36, List.forall_mem_cons.mpr ⟨np_s_aload_n hX dX11_take_37 rfl, List.forall_mem_cons.mpr ⟨np_S.mono (op := np_getf 11 3) (np_s_getf hX dX11_take_38 (C := RX11) (T := TX11) (N := 14) rfl guX11 (by decide) gw509) nq_getf_le, List.forall_mem_cons.mpr ⟨np_s_iconst hX dX11_take_41 (by decide), List.forall_mem_cons.mpr ⟨np_s_bipush hX dX11_take_42 (by decide), List.forall_mem_cons.mpr ⟨np_s_iconst hX dX11_take_47 (by decide), List.forall_mem_cons.mpr ⟨np_s_istore hX dX11_take_48 (by decide), List.forall_mem_cons.mpr ⟨np_s_iconst hX dX11_take_50 (by decide), List.forall_mem_cons.mpr ⟨np_s_istore hX dX11_take_51 (by decide), List.forall_mem_cons.mpr ⟨np_s_iload hX dX11_take_53, List.forall_mem_cons.mpr ⟨np_s_aload_n hX dX11_take_55 rfl, List.forall_mem_cons.mpr ⟨np_S.mono (op := np_getf 11 3) (np_s_getf hX dX11_take_56 (C := RX11) (T := TX11) (N := 14) rfl guX11 (by decide) gw509) nq_getf_le, List.forall_mem_cons.mpr ⟨np_s_alen hX dX11_take_59, List.forall_mem_cons.mpr ⟨np_S.mono (op := np_ic (fun x y => y ≤ x) 84) (np_s_icmp_ge hX dX11_take_60 (by decide)) nq_ic_le, List.forall_mem_cons.mpr ⟨np_s_aload_n hX dX11_take_63 rfl, List.forall_mem_cons.mpr ⟨np_S.mono (op := np_getf 11 3) (np_s_getf hX dX11_take_64 (C := RX11) (T := TX11) (N := 14) rfl guX11 (by decide) gw509) nq_getf_le, List.forall_mem_cons.mpr ⟨np_s_iload hX dX11_take_67, List.forall_mem_cons.mpr ⟨np_S.mono (op := np_ialdT .int) (np_s_iald hX dX11_take_69) nq_ialdT_le, List.forall_mem_cons.mpr ⟨np_s_ldc hX dX11_take_70 gw189, List.forall_mem_cons.mpr ⟨np_S.mono (op := np_ic (fun x y => x = y) 78) (np_s_icmp_eq hX dX11_take_72 (by decide)) nq_ic_le, List.forall_mem_cons.mpr ⟨np_s_iinc hX dX11_take_75 (by decide), List.forall_mem_cons.mpr ⟨np_s_iinc hX dX11_take_78 (by decide), List.forall_mem_cons.mpr ⟨np_s_goto hX dX11_take_81 (by decide), List.forall_mem_cons.mpr ⟨np_s_iload hX dX11_take_84, List.forall_mem_cons.mpr ⟨np_S.mono (op := np_ret X.2.2.1) (np_s_ret hX dX11_take_86) (nq_ret_le hR), fun _ h => nomatch h⟩⟩⟩⟩⟩⟩⟩⟩⟩⟩⟩⟩⟩⟩⟩⟩⟩⟩⟩⟩⟩⟩⟩⟩⟩⟩⟩⟩⟩⟩⟩⟩⟩⟩⟩⟩⟩⟩⟩⟩
abbrev sp_X11_take : np_SpX := nq_inX is_X11_take (some .int) 1 6 400
theorem C_X11_take : np_CX yX11_take cX11_take 6 (some .int) 6 100 1 6 sp_X11_take := nq_inCX 400 (by decide) (by decide) (by decide) (fun X Rt Th hX hmn hR hT => so_X11_take hX hR hT)
theorem dX11_column_0 : decode cX11_column 0 = .ok (.aload_n 0, 1) := by decide +kernel
theorem dX11_column_1 : decode cX11_column 1 = .ok (.iload_n 1, 1) := by decide +kernel
theorem dX11_column_2 : decode cX11_column 2 = .ok (.invokevirtual 283, 3) := by decide +kernel
theorem dX11_column_5 : decode cX11_column 5 = .ok (.astore 5, 2) := by decide +kernel
theorem dX11_column_7 : decode cX11_column 7 = .ok (.aload 5, 2) := by decide +kernel
theorem dX11_column_9 : decode cX11_column 9 = .ok (.ifnull 10, 3) := by decide +kernel
theorem dX11_column_12 : decode cX11_column 12 = .ok (.iload_n 3, 1) := by decide +kernel
theorem dX11_column_13 : decode cX11_column 13 = .ok (.invokestatic 93, 3) := by decide +kernel
theorem dX11_column_16 : decode cX11_column 16 = .ok (.ifCond .ne 14, 3) := by decide +kernel
theorem dX11_column_19 : decode cX11_column 19 = .ok (.new 96, 3) := by decide +kernel
theorem dX11_column_22 : decode cX11_column 22 = .ok (.dup, 1) := by decide +kernel
theorem dX11_column_23 : decode cX11_column 23 = .ok (.ldc_w 342, 3) := by decide +kernel
theorem dX11_column_26 : decode cX11_column 26 = .ok (.invokespecial 100, 3) := by decide +kernel
theorem dX11_column_29 : decode cX11_column 29 = .ok (.athrow, 1) := by decide +kernel
theorem dX11_column_30 : decode cX11_column 30 = .ok (.iload_n 2, 1) := by decide +kernel
theorem dX11_column_31 : decode cX11_column 31 = .ok (.ifCond .lt 8, 3) := by decide +kernel
theorem dX11_column_34 : decode cX11_column 34 = .ok (.iload_n 2, 1) := by decide +kernel
theorem dX11_column_35 : decode cX11_column 35 = .ok (.iconst 3, 1) := by decide +kernel
theorem dX11_column_36 : decode cX11_column 36 = .ok (.if_icmp .le 14, 3) := by decide +kernel
theorem dX11_column_39 : decode cX11_column 39 = .ok (.new 107, 3) := by decide +kernel
theorem dX11_column_42 : decode cX11_column 42 = .ok (.dup, 1) := by decide +kernel
theorem dX11_column_43 : decode cX11_column 43 = .ok (.ldc_w 344, 3) := by decide +kernel
theorem dX11_column_46 : decode cX11_column 46 = .ok (.invokespecial 111, 3) := by decide +kernel
theorem dX11_column_49 : decode cX11_column 49 = .ok (.athrow, 1) := by decide +kernel
theorem dX11_column_50 : decode cX11_column 50 = .ok (.iload 4, 2) := by decide +kernel
theorem dX11_column_52 : decode cX11_column 52 = .ok (.iconst 1, 1) := by decide +kernel
theorem dX11_column_53 : decode cX11_column 53 = .ok (.if_icmp .lt 9, 3) := by decide +kernel
theorem dX11_column_56 : decode cX11_column 56 = .ok (.iload 4, 2) := by decide +kernel
theorem dX11_column_58 : decode cX11_column 58 = .ok (.iconst 5, 1) := by decide +kernel
theorem dX11_column_59 : decode cX11_column 59 = .ok (.if_icmp .le 14, 3) := by decide +kernel
theorem dX11_column_62 : decode cX11_column 62 = .ok (.new 107, 3) := by decide +kernel
theorem dX11_column_65 : decode cX11_column 65 = .ok (.dup, 1) := by decide +kernel
theorem dX11_column_66 : decode cX11_column 66 = .ok (.ldc_w 346, 3) := by decide +kernel
theorem dX11_column_69 : decode cX11_column 69 = .ok (.invokespecial 111, 3) := by decide +kernel
theorem dX11_column_72 : decode cX11_column 72 = .ok (.athrow, 1) := by decide +kernel
theorem dX11_column_73 : decode cX11_column 73 = .ok (.aload_n 0, 1) := by decide +kernel
theorem dX11_column_74 : decode cX11_column 74 = .ok (.getfield 348, 3) := by decide +kernel
theorem dX11_column_77 : decode cX11_column 77 = .ok (.aload_n 0, 1) := by decide +kernel
theorem dX11_column_78 : decode cX11_column 78 = .ok (.getfield 67, 3) := by decide +kernel
theorem dX11_column_81 : decode cX11_column 81 = .ok (.arraylength, 1) := by decide +kernel
theorem dX11_column_82 : decode cX11_column 82 = .ok (.if_icmp .lt 14, 3) := by decide +kernel
theorem dX11_column_85 : decode cX11_column 85 = .ok (.new 116, 3) := by decide +kernel
theorem dX11_column_88 : decode cX11_column 88 = .ok (.dup, 1) := by decide +kernel
theorem dX11_column_89 : decode cX11_column 89 = .ok (.ldc_w 351, 3) := by decide +kernel
theorem dX11_column_92 : decode cX11_column 92 = .ok (.invokespecial 120, 3) := by decide +kernel
theorem dX11_column_95 : decode cX11_column 95 = .ok (.athrow, 1) := by decide +kernel
theorem dX11_column_96 : decode cX11_column 96 = .ok (.aload_n 0, 1) := by decide +kernel
theorem dX11_column_97 : decode cX11_column 97 = .ok (.getfield 67, 3) := by decide +kernel
theorem dX11_column_100 : decode cX11_column 100 = .ok (.aload_n 0, 1) := by decide +kernel
theorem dX11_column_101 : decode cX11_column 101 = .ok (.getfield 348, 3) := by decide +kernel
theorem dX11_column_104 : decode cX11_column 104 = .ok (.aaload, 1) := by decide +kernel
theorem dX11_column_105 : decode cX11_column 105 = .ok (.astore 6, 2) := by decide +kernel
theorem dX11_column_107 : decode cX11_column 107 = .ok (.aload 6, 2) := by decide +kernel
theorem dX11_column_109 : decode cX11_column 109 = .ok (.ifnonnull 14, 3) := by decide +kernel
theorem dX11_column_112 : decode cX11_column 112 = .ok (.new 116, 3) := by decide +kernel
theorem dX11_column_115 : decode cX11_column 115 = .ok (.dup, 1) := by decide +kernel
theorem dX11_column_116 : decode cX11_column 116 = .ok (.ldc_w 351, 3) := by decide +kernel
theorem dX11_column_119 : decode cX11_column 119 = .ok (.invokespecial 120, 3) := by decide +kernel
theorem dX11_column_122 : decode cX11_column 122 = .ok (.athrow, 1) := by decide +kernel
theorem dX11_column_123 : decode cX11_column 123 = .ok (.aload 6, 2) := by decide +kernel
theorem dX11_column_125 : decode cX11_column 125 = .ok (.aload 5, 2) := by decide +kernel
theorem dX11_column_127 : decode cX11_column 127 = .ok (.iload_n 2, 1) := by decide +kernel
theorem dX11_column_128 : decode cX11_column 128 = .ok (.iload_n 3, 1) := by decide +kernel
theorem dX11_column_129 : decode cX11_column 129 = .ok (.iload 4, 2) := by decide +kernel
theorem dX11_column_131 : decode cX11_column 131 = .ok (.invokevirtual 353, 3) := by decide +kernel
theorem dX11_column_134 : decode cX11_column 134 = .ok (.aload_n 0, 1) := by decide +kernel
theorem dX11_column_135 : decode cX11_column 135 = .ok (.dup, 1) := by decide +kernel
theorem dX11_column_136 : decode cX11_column 136 = .ok (.getfield 348, 3) := by decide +kernel
theorem dX11_column_139 : decode cX11_column 139 = .ok (.iconst 1, 1) := by decide +kernel
theorem dX11_column_140 : decode cX11_column 140 = .ok (.iadd, 1) := by decide +kernel
theorem dX11_column_141 : decode cX11_column 141 = .ok (.putfield 348, 3) := by decide +kernel
theorem dX11_column_144 : decode cX11_column 144 = .ok (.aload_n 0, 1) := by decide +kernel
theorem dX11_column_145 : decode cX11_column 145 = .ok (.getfield 348, 3) := by decide +kernel
theorem dX11_column_148 : decode cX11_column 148 = .ok (.iconst 1, 1) := by decide +kernel
theorem dX11_column_149 : decode cX11_column 149 = .ok (.isub, 1) := by decide +kernel
theorem dX11_column_150 : decode cX11_column 150 = .ok (.ireturn, 1) := by decide +kernel
def is_X11_column (Rt : np_Rt) (Th : np_Th) : List (Nat × np_Op) := [(0, np_ald 1 0), (1, np_ild 1 1), (2, nq_callV 11 2 sp_X11_tableOf 2 0 0 1 6), (5, np_ast 2 5), (7, np_ald 2 5), (9, np_ifnull 19), (12, np_ild 1 3), (13, nq_call 1 sp_X11_isSlot 1 0 0 1 6), (16, nq_ifne 30), (19, nq_throw Th 0), (30, np_ild 1 2), (31, nq_if (fun x => x < 0) 39), (34, np_ild 1 2), (35, np_push 1 (.int 3)), (36, nq_ic (fun x y => x ≤ y) 50), (39, nq_throw Th 1), (50, np_ild 2 4), (52, np_push 1 (.int 1)), (53, nq_ic (fun x y => x < y) 62), (56, np_ild 2 4), (58, np_push 1 (.int 5)), (59, nq_ic (fun x y => x ≤ y) 73), (62, nq_throw Th 1), (73, np_ald 1 0), (74, nq_getf 11 10), (77, np_ald 1 0), (78, nq_getf 11 9), (81, np_alen), (82, nq_ic (fun x y => x < y) 96), (85, nq_throw Th 2), (96, np_ald 1 0), (97, nq_getf 11 9), (100, np_ald 1 0), (101, nq_getf 11 10), (104, nq_aald "NotationPress$Column"), (105, np_ast 2 6), (107, np_ald 2 6), (109, np_ifnonnull 123), (112, nq_throw Th 2), (123, np_ald 2 6), (125, np_ald 2 5), (127, np_ild 1 2), (128, np_ild 1 3), (129, np_ild 2 4), (131, nq_callV 0 5 sp_X0_become 5 0 0 1 6), (134, np_ald 1 0), (135, nq_dup), (136, nq_getf 11 10), (139, np_push 1 (.int 1)), (140, np_ib (fun x y => x + y)), (141, nq_putf 11 10 (.int)), (144, np_ald 1 0), (145, nq_getf 11 10), (148, np_push 1 (.int 1)), (149, np_ib (fun x y => x - y)), (150, np_ret Rt)]
set_option maxRecDepth 20000 in
theorem so_X11_column {X : np_Ctx} {Rt : np_Rt} {Th : np_Th} (hX : np_ok RX11 cX11_column 7 6 100 1 6 .ireturn X) (hR : ∀ st w ce sl, Rt st w ce sl → X.2.2.1 st w ce sl) (hT : ∀ i w ce sl, Th i w ce sl → X.2.2.2 i w ce sl) : ∀ q ∈ is_X11_column Rt Th, np_S X q.1 q.2 :=
  List.forall_mem_cons.mpr ⟨np_s_aload_n hX dX11_column_0 rfl, List.forall_mem_cons.mpr ⟨np_s_iload_n hX dX11_column_1 rfl, List.forall_mem_cons.mpr ⟨np_S.mono (op := np_callV 11 2 sp_X11_tableOf 2 0 0 1 6) (np_s_callV hX C_X11_tableOf dX11_column_2 (q := (RX11, TX11, 14)) rfl rfl gw1222 gw130 gw1219 gw1221 gw33 ⟨by decide, by decide, by decide⟩ (by decide) (by decide)) nq_callV_le, List.forall_mem_cons.mpr ⟨np_s_astore hX dX11_column_5 (by decide), List.forall_mem_cons.mpr ⟨np_s_aload hX dX11_column_7, List.forall_mem_cons.mpr ⟨np_s_ifnull hX dX11_column_9 (by decide), List.forall_mem_cons.mpr ⟨np_s_iload_n hX dX11_column_12 rfl, List.forall_mem_cons.mpr ⟨np_S.mono (op := np_call 1 sp_X11_isSlot 1 0 0 1 6) (np_s_callS hX C_X11_isSlot dX11_column_13 gw572 gw130 gw570 gw571 ⟨by decide, by decide, by decide⟩ (by decide) (by decide)) nq_call_le, List.forall_mem_cons.mpr ⟨np_S.mono (op := np_ifne 30) (np_s_if_ne hX dX11_column_16 (by decide)) nq_ifne_le, List.forall_mem_cons.mpr ⟨np_S.mono (op := np_throw X.2.2.2 0) (np_s_throw hX ⟨96, 342, 100, _, gw573, gw146, sw1328, twX11_100, toX11_100_96, Or.inr ⟨dX11_column_19, dX11_column_22, dX11_column_23, dX11_column_26, dX11_column_29⟩⟩) (nq_throw_le hT), List.forall_mem_cons.mpr ⟨np_s_iload_n hX dX11_column_30 rfl, List.forall_mem_cons.mpr ⟨np_S.mono (op := np_if (fun x => x < 0) 39) (np_s_if_lt hX dX11_column_31 (by decide)) nq_if_le, List.forall_mem_cons.mpr ⟨np_s_iload_n hX dX11_column_34 rfl, List.forall_mem_cons.mpr ⟨np_s_iconst hX dX11_column_35 (by decide), List.forall_mem_cons.mpr ⟨np_S.mono (op := np_ic (fun x y => x ≤ y) 50) (np_s_icmp_le hX dX11_column_36 (by decide)) nq_ic_le, List.forall_mem_cons.mpr ⟨np_S.mono (op := np_throw X.2.2.2 1) (np_s_throw hX ⟨107, 344, 111, _, gw647, gw147, sw1329, twX11_111, toX11_111_107, Or.inr ⟨dX11_column_39, dX11_column_42, dX11_column_43, dX11_column_46, dX11_column_49⟩⟩) (nq_throw_le hT), List.forall_mem_cons.mpr ⟨np_s_iload hX dX11_column_50, List.forall_mem_cons.mpr ⟨np_s_iconst hX dX11_column_52 (by decide), List.forall_mem_cons.mpr ⟨np_S.mono (op := np_ic (fun x y => x < y) 62) (np_s_icmp_lt hX dX11_column_53 (by decide)) nq_ic_le, List.forall_mem_cons.mpr ⟨np_s_iload hX dX11_column_56, List.forall_mem_cons.mpr ⟨np_s_iconst hX dX11_column_58 (by decide), List.forall_mem_cons.mpr ⟨np_S.mono (op := np_ic (fun x y => x ≤ y) 73) (np_s_icmp_le hX dX11_column_59 (by decide)) nq_ic_le, List.forall_mem_cons.mpr ⟨np_S.mono (op := np_throw X.2.2.2 1) (np_s_throw hX ⟨107, 346, 111, _, gw647, gw147, sw1330, twX11_111, toX11_111_107, Or.inr ⟨dX11_column_62, dX11_column_65, dX11_column_66, dX11_column_69, dX11_column_72⟩⟩) (nq_throw_le hT), List.forall_mem_cons.mpr ⟨np_s_aload_n hX dX11_column_73 rfl, List.forall_mem_cons.mpr ⟨np_S.mono (op := np_getf 11 10) (np_s_getf hX dX11_column_74 (C := RX11) (T := TX11) (N := 14) rfl guX11 (by decide) gw516) nq_getf_le, List.forall_mem_cons.mpr ⟨np_s_aload_n hX dX11_column_77 rfl, List.forall_mem_cons.mpr ⟨np_S.mono (op := np_getf 11 9) (np_s_getf hX dX11_column_78 (C := RX11) (T := TX11) (N := 14) rfl guX11 (by decide) gw515) nq_getf_le, List.forall_mem_cons.mpr ⟨np_s_alen hX dX11_column_81, List.forall_mem_cons.mpr ⟨np_S.mono (op := np_ic (fun x y => x < y) 96) (np_s_icmp_lt hX dX11_column_82 (by decide)) nq_ic_le, List.forall_mem_cons.mpr ⟨np_S.mono (op := np_throw X.2.2.2 2) (np_s_throw hX ⟨116, 351, 120, _, gw667, gw148, sw1331, twX11_120, toX11_120_116, Or.inr ⟨dX11_column_85, dX11_column_88, dX11_column_89, dX11_column_92, dX11_column_95⟩⟩) (nq_throw_le hT), List.forall_mem_cons.mpr ⟨np_s_aload_n hX dX11_column_96 rfl, List.forall_mem_cons.mpr ⟨np_S.mono (op := np_getf 11 9) (np_s_getf hX dX11_column_97 (C := RX11) (T := TX11) (N := 14) rfl guX11 (by decide) gw515) nq_getf_le, List.forall_mem_cons.mpr ⟨np_s_aload_n hX dX11_column_100 rfl, List.forall_mem_cons.mpr ⟨np_S.mono (op := np_getf 11 10) (np_s_getf hX dX11_column_101 (C := RX11) (T := TX11) (N := 14) rfl guX11 (by decide) gw516) nq_getf_le, List.forall_mem_cons.mpr ⟨np_S.mono (op := np_aald "NotationPress$Column") (np_s_aald hX dX11_column_104) nq_aald_le, List.forall_mem_cons.mpr ⟨np_s_astore hX dX11_column_105 (by decide), List.forall_mem_cons.mpr ⟨np_s_aload hX dX11_column_107, List.forall_mem_cons.mpr ⟨np_s_ifnonnull hX dX11_column_109 (by decide), List.forall_mem_cons.mpr ⟨np_S.mono (op := np_throw X.2.2.2 2) (np_s_throw hX ⟨116, 351, 120, _, gw667, gw148, sw1331, twX11_120, toX11_120_116, Or.inr ⟨dX11_column_112, dX11_column_115, dX11_column_116, dX11_column_119, dX11_column_122⟩⟩) (nq_throw_le hT), List.forall_mem_cons.mpr ⟨np_s_aload hX dX11_column_123, List.forall_mem_cons.mpr ⟨np_s_aload hX dX11_column_125, List.forall_mem_cons.mpr ⟨np_s_iload_n hX dX11_column_127 rfl, List.forall_mem_cons.mpr ⟨np_s_iload_n hX dX11_column_128 rfl, List.forall_mem_cons.mpr ⟨np_s_iload hX dX11_column_129, List.forall_mem_cons.mpr ⟨np_S.mono (op := np_callV 0 5 sp_X0_become 5 0 0 1 6) (np_s_callV hX C_X0_become dX11_column_131 (q := (RX0, TX0, 6)) rfl rfl gw1335 gw140 gw1332 gw1333 gw1334 ⟨by decide, by decide, by decide⟩ (by decide) (by decide)) nq_callV_le, List.forall_mem_cons.mpr ⟨np_s_aload_n hX dX11_column_134 rfl, List.forall_mem_cons.mpr ⟨np_S.mono (op := np_dup) (np_s_dup hX dX11_column_135) nq_dup_le, List.forall_mem_cons.mpr ⟨np_S.mono (op := np_getf 11 10) (np_s_getf hX dX11_column_136 (C := RX11) (T := TX11) (N := 14) rfl guX11 (by decide) gw516) nq_getf_le, List.forall_mem_cons.mpr ⟨np_s_iconst hX dX11_column_139 (by decide), List.forall_mem_cons.mpr ⟨np_s_iadd hX dX11_column_140, List.forall_mem_cons.mpr ⟨np_S.mono (op := np_putf 11 10 (.int)) (np_s_putf hX dX11_column_141 (C := RX11) (T := TX11) (N := 14) (ty0 := tyX11) rfl guX11 tyX11_ok nmX11 (by decide) gw516 rfl rfl) nq_putf_le, List.forall_mem_cons.mpr ⟨np_s_aload_n hX dX11_column_144 rfl, List.forall_mem_cons.mpr ⟨np_S.mono (op := np_getf 11 10) (np_s_getf hX dX11_column_145 (C := RX11) (T := TX11) (N := 14) rfl guX11 (by decide) gw516) nq_getf_le, List.forall_mem_cons.mpr ⟨np_s_iconst hX dX11_column_148 (by decide), List.forall_mem_cons.mpr ⟨np_s_isub hX dX11_column_149, List.forall_mem_cons.mpr ⟨np_S.mono (op := np_ret X.2.2.1) (np_s_ret hX dX11_column_150) (nq_ret_le hR), fun _ h => nomatch h⟩⟩⟩⟩⟩⟩⟩⟩⟩⟩⟩⟩⟩⟩⟩⟩⟩⟩⟩⟩⟩⟩⟩⟩⟩⟩⟩⟩⟩⟩⟩⟩⟩⟩⟩⟩⟩⟩⟩⟩⟩⟩⟩⟩⟩⟩⟩⟩⟩⟩⟩⟩⟩⟩⟩⟩
abbrev sp_X11_column : np_SpX := nq_inX is_X11_column (some .int) 1 6 400
theorem C_X11_column : np_CX yX11_column cX11_column 7 (some .int) 6 100 1 6 sp_X11_column := nq_inCX 400 (by decide) (by decide) (by decide) (fun X Rt Th hX hmn hR hT => so_X11_column hX hR hT)
theorem dX11_derived_0 : decode cX11_derived 0 = .ok (.aload_n 0, 1) := by decide +kernel
theorem dX11_derived_1 : decode cX11_derived 1 = .ok (.iload_n 1, 1) := by decide +kernel
theorem dX11_derived_2 : decode cX11_derived 2 = .ok (.invokevirtual 357, 3) := by decide +kernel
theorem dX11_derived_5 : decode cX11_derived 5 = .ok (.astore_n 3, 1) := by decide +kernel
theorem dX11_derived_6 : decode cX11_derived 6 = .ok (.aload_n 3, 1) := by decide +kernel
theorem dX11_derived_7 : decode cX11_derived 7 = .ok (.ifnull 11, 3) := by decide +kernel
theorem dX11_derived_10 : decode cX11_derived 10 = .ok (.aload_n 3, 1) := by decide +kernel
theorem dX11_derived_11 : decode cX11_derived 11 = .ok (.iload_n 2, 1) := by decide +kernel
theorem dX11_derived_12 : decode cX11_derived 12 = .ok (.invokevirtual 361, 3) := by decide +kernel
theorem dX11_derived_15 : decode cX11_derived 15 = .ok (.ifCond .ne 14, 3) := by decide +kernel
theorem dX11_derived_18 : decode cX11_derived 18 = .ok (.new 96, 3) := by decide +kernel
theorem dX11_derived_21 : decode cX11_derived 21 = .ok (.dup, 1) := by decide +kernel
theorem dX11_derived_22 : decode cX11_derived 22 = .ok (.ldc_w 362, 3) := by decide +kernel
theorem dX11_derived_25 : decode cX11_derived 25 = .ok (.invokespecial 100, 3) := by decide +kernel
theorem dX11_derived_28 : decode cX11_derived 28 = .ok (.athrow, 1) := by decide +kernel
theorem dX11_derived_29 : decode cX11_derived 29 = .ok (.aload_n 3, 1) := by decide +kernel
theorem dX11_derived_30 : decode cX11_derived 30 = .ok (.iload_n 2, 1) := by decide +kernel
theorem dX11_derived_31 : decode cX11_derived 31 = .ok (.invokevirtual 364, 3) := by decide +kernel
theorem dX11_derived_34 : decode cX11_derived 34 = .ok (.ireturn, 1) := by decide +kernel
def is_X11_derived (Rt : np_Rt) (Th : np_Th) : List (Nat × np_Op) := [(0, np_ald 1 0), (1, np_ild 1 1), (2, nq_callV 11 2 sp_X11_columnOf 2 0 0 1 6), (5, np_ast 1 3), (6, np_ald 1 3), (7, np_ifnull 18), (10, np_ald 1 3), (11, np_ild 1 2), (15, nq_ifne 29), (18, nq_throw Th 0), (29, np_ald 1 3), (30, np_ild 1 2), (34, np_ret Rt)]
set_option maxRecDepth 20000 in
theorem so_X11_derived {X : np_Ctx} {Rt : np_Rt} {Th : np_Th} (hX : np_ok RX11 cX11_derived 4 6 100 1 6 .ireturn X) (hR : ∀ st w ce sl, Rt st w ce sl → X.2.2.1 st w ce sl) (hT : ∀ i w ce sl, Th i w ce sl → X.2.2.2 i w ce sl) : ∀ q ∈ is_X11_derived Rt Th, np_S X q.1 q.2 :=
  List.forall_mem_cons.mpr ⟨np_s_aload_n hX dX11_derived_0 rfl, List.forall_mem_cons.mpr ⟨np_s_iload_n hX dX11_derived_1 rfl, List.forall_mem_cons.mpr ⟨np_S.mono (op := np_callV 11 2 sp_X11_columnOf 2 0 0 1 6) (np_s_callV hX C_X11_columnOf dX11_derived_2 (q := (RX11, TX11, 14)) rfl rfl gw1346 gw130 gw1343 gw1345 gw35 ⟨by decide, by decide, by decide⟩ (by decide) (by decide)) nq_callV_le, List.forall_mem_cons.mpr ⟨np_s_astore_n hX dX11_derived_5 rfl (by decide), List.forall_mem_cons.mpr ⟨np_s_aload_n hX dX11_derived_6 rfl, List.forall_mem_cons.mpr ⟨np_s_ifnull hX dX11_derived_7 (by decide), List.forall_mem_cons.mpr ⟨np_s_aload_n hX dX11_derived_10 rfl, List.forall_mem_cons.mpr ⟨np_s_iload_n hX dX11_derived_11 rfl, List.forall_mem_cons.mpr ⟨np_S.mono (op := np_ifne 29) (np_s_if_ne hX dX11_derived_15 (by decide)) nq_ifne_le, List.forall_mem_cons.mpr ⟨np_S.mono (op := np_throw X.2.2.2 0) (np_s_throw hX ⟨96, 362, 100, _, gw573, gw146, sw1352, twX11_100, toX11_100_96, Or.inr ⟨dX11_derived_18, dX11_derived_21, dX11_derived_22, dX11_derived_25, dX11_derived_28⟩⟩) (nq_throw_le hT), List.forall_mem_cons.mpr ⟨np_s_aload_n hX dX11_derived_29 rfl, List.forall_mem_cons.mpr ⟨np_s_iload_n hX dX11_derived_30 rfl, List.forall_mem_cons.mpr ⟨np_S.mono (op := np_ret X.2.2.1) (np_s_ret hX dX11_derived_34) (nq_ret_le hR), fun _ h => nomatch h⟩⟩⟩⟩⟩⟩⟩⟩⟩⟩⟩⟩⟩
abbrev sp_X11_derived : np_SpX := nq_inX is_X11_derived (some .int) 1 6 400
theorem C_X11_derived : np_CX yX11_derived cX11_derived 4 (some .int) 6 100 1 6 sp_X11_derived := nq_inCX 400 (by decide) (by decide) (by decide) (fun X Rt Th hX hmn hR hT => so_X11_derived hX hR hT)
theorem dX11_derivedByBatch_0 : decode cX11_derivedByBatch 0 = .ok (.aload_n 0, 1) := by decide +kernel
theorem dX11_derivedByBatch_1 : decode cX11_derivedByBatch 1 = .ok (.iload_n 1, 1) := by decide +kernel
theorem dX11_derivedByBatch_2 : decode cX11_derivedByBatch 2 = .ok (.invokevirtual 357, 3) := by decide +kernel
theorem dX11_derivedByBatch_5 : decode cX11_derivedByBatch 5 = .ok (.astore_n 3, 1) := by decide +kernel
theorem dX11_derivedByBatch_6 : decode cX11_derivedByBatch 6 = .ok (.aload_n 3, 1) := by decide +kernel
theorem dX11_derivedByBatch_7 : decode cX11_derivedByBatch 7 = .ok (.ifnull 11, 3) := by decide +kernel
theorem dX11_derivedByBatch_10 : decode cX11_derivedByBatch 10 = .ok (.aload_n 3, 1) := by decide +kernel
theorem dX11_derivedByBatch_11 : decode cX11_derivedByBatch 11 = .ok (.iload_n 2, 1) := by decide +kernel
theorem dX11_derivedByBatch_12 : decode cX11_derivedByBatch 12 = .ok (.invokevirtual 361, 3) := by decide +kernel
theorem dX11_derivedByBatch_15 : decode cX11_derivedByBatch 15 = .ok (.ifCond .ne 14, 3) := by decide +kernel
theorem dX11_derivedByBatch_18 : decode cX11_derivedByBatch 18 = .ok (.new 96, 3) := by decide +kernel
theorem dX11_derivedByBatch_21 : decode cX11_derivedByBatch 21 = .ok (.dup, 1) := by decide +kernel
theorem dX11_derivedByBatch_22 : decode cX11_derivedByBatch 22 = .ok (.ldc_w 362, 3) := by decide +kernel
theorem dX11_derivedByBatch_25 : decode cX11_derivedByBatch 25 = .ok (.invokespecial 100, 3) := by decide +kernel
theorem dX11_derivedByBatch_28 : decode cX11_derivedByBatch 28 = .ok (.athrow, 1) := by decide +kernel
theorem dX11_derivedByBatch_29 : decode cX11_derivedByBatch 29 = .ok (.aload_n 3, 1) := by decide +kernel
theorem dX11_derivedByBatch_30 : decode cX11_derivedByBatch 30 = .ok (.iload_n 2, 1) := by decide +kernel
theorem dX11_derivedByBatch_31 : decode cX11_derivedByBatch 31 = .ok (.invokevirtual 367, 3) := by decide +kernel
theorem dX11_derivedByBatch_34 : decode cX11_derivedByBatch 34 = .ok (.ireturn, 1) := by decide +kernel
def is_X11_derivedByBatch (Rt : np_Rt) (Th : np_Th) : List (Nat × np_Op) := [(0, np_ald 1 0), (1, np_ild 1 1), (2, nq_callV 11 2 sp_X11_columnOf 2 0 0 1 6), (5, np_ast 1 3), (6, np_ald 1 3), (7, np_ifnull 18), (10, np_ald 1 3), (11, np_ild 1 2), (15, nq_ifne 29), (18, nq_throw Th 0), (29, np_ald 1 3), (30, np_ild 1 2), (34, np_ret Rt)]
set_option maxRecDepth 20000 in
theorem so_X11_derivedByBatch {X : np_Ctx} {Rt : np_Rt} {Th : np_Th} (hX : np_ok RX11 cX11_derivedByBatch 4 6 100 1 6 .ireturn X) (hR : ∀ st w ce sl, Rt st w ce sl → X.2.2.1 st w ce sl) (hT : ∀ i w ce sl, Th i w ce sl → X.2.2.2 i w ce sl) : ∀ q ∈ is_X11_derivedByBatch Rt Th, np_S X q.1 q.2 :=
  List.forall_mem_cons.mpr ⟨np_s_aload_n hX dX11_derivedByBatch_0 rfl, List.forall_mem_cons.mpr ⟨np_s_iload_n hX dX11_derivedByBatch_1 rfl, List.forall_mem_cons.mpr ⟨np_S.mono (op := np_callV 11 2 sp_X11_columnOf 2 0 0 1 6) (np_s_callV hX C_X11_columnOf dX11_derivedByBatch_2 (q := (RX11, TX11, 14)) rfl rfl gw1346 gw130 gw1343 gw1345 gw35 ⟨by decide, by decide, by decide⟩ (by decide) (by decide)) nq_callV_le, List.forall_mem_cons.mpr ⟨np_s_astore_n hX dX11_derivedByBatch_5 rfl (by decide), List.forall_mem_cons.mpr ⟨np_s_aload_n hX dX11_derivedByBatch_6 rfl, List.forall_mem_cons.mpr ⟨np_s_ifnull hX dX11_derivedByBatch_7 (by decide), List.forall_mem_cons.mpr ⟨np_s_aload_n hX dX11_derivedByBatch_10 rfl, List.forall_mem_cons.mpr ⟨np_s_iload_n hX dX11_derivedByBatch_11 rfl, List.forall_mem_cons.mpr ⟨np_S.mono (op := np_ifne 29) (np_s_if_ne hX dX11_derivedByBatch_15 (by decide)) nq_ifne_le, List.forall_mem_cons.mpr ⟨np_S.mono (op := np_throw X.2.2.2 0) (np_s_throw hX ⟨96, 362, 100, _, gw573, gw146, sw1352, twX11_100, toX11_100_96, Or.inr ⟨dX11_derivedByBatch_18, dX11_derivedByBatch_21, dX11_derivedByBatch_22, dX11_derivedByBatch_25, dX11_derivedByBatch_28⟩⟩) (nq_throw_le hT), List.forall_mem_cons.mpr ⟨np_s_aload_n hX dX11_derivedByBatch_29 rfl, List.forall_mem_cons.mpr ⟨np_s_iload_n hX dX11_derivedByBatch_30 rfl, List.forall_mem_cons.mpr ⟨np_S.mono (op := np_ret X.2.2.1) (np_s_ret hX dX11_derivedByBatch_34) (nq_ret_le hR), fun _ h => nomatch h⟩⟩⟩⟩⟩⟩⟩⟩⟩⟩⟩⟩⟩
abbrev sp_X11_derivedByBatch : np_SpX := nq_inX is_X11_derivedByBatch (some .int) 1 6 400
theorem C_X11_derivedByBatch : np_CX yX11_derivedByBatch cX11_derivedByBatch 4 (some .int) 6 100 1 6 sp_X11_derivedByBatch := nq_inCX 400 (by decide) (by decide) (by decide) (fun X Rt Th hX hmn hR hT => so_X11_derivedByBatch hX hR hT)
theorem dX11_change_0 : decode cX11_change 0 = .ok (.iload_n 2, 1) := by decide +kernel
theorem dX11_change_1 : decode cX11_change 1 = .ok (.invokestatic 93, 3) := by decide +kernel
theorem dX11_change_4 : decode cX11_change 4 = .ok (.ifCond .eq 32, 3) := by decide +kernel
theorem dX11_change_7 : decode cX11_change 7 = .ok (.iload_n 1, 1) := by decide +kernel
theorem dX11_change_8 : decode cX11_change 8 = .ok (.iconst 1, 1) := by decide +kernel
theorem dX11_change_9 : decode cX11_change 9 = .ok (.if_icmp .eq 10, 3) := by decide +kernel
theorem dX11_change_12 : decode cX11_change 12 = .ok (.iload_n 3, 1) := by decide +kernel
theorem dX11_change_13 : decode cX11_change 13 = .ok (.invokestatic 93, 3) := by decide +kernel
theorem dX11_change_16 : decode cX11_change 16 = .ok (.ifCond .eq 20, 3) := by decide +kernel
theorem dX11_change_19 : decode cX11_change 19 = .ok (.iload_n 1, 1) := by decide +kernel
theorem dX11_change_20 : decode cX11_change 20 = .ok (.iconst 4, 1) := by decide +kernel
theorem dX11_change_21 : decode cX11_change 21 = .ok (.if_icmp .ne 11, 3) := by decide +kernel
theorem dX11_change_24 : decode cX11_change 24 = .ok (.iload 4, 2) := by decide +kernel
theorem dX11_change_26 : decode cX11_change 26 = .ok (.invokestatic 93, 3) := by decide +kernel
theorem dX11_change_29 : decode cX11_change 29 = .ok (.ifCond .eq 7, 3) := by decide +kernel
theorem dX11_change_32 : decode cX11_change 32 = .ok (.iconst 1, 1) := by decide +kernel
theorem dX11_change_33 : decode cX11_change 33 = .ok (.goto 4, 3) := by decide +kernel
theorem dX11_change_36 : decode cX11_change 36 = .ok (.iconst 0, 1) := by decide +kernel
theorem dX11_change_37 : decode cX11_change 37 = .ok (.istore 5, 2) := by decide +kernel
theorem dX11_change_39 : decode cX11_change 39 = .ok (.iload 5, 2) := by decide +kernel
theorem dX11_change_41 : decode cX11_change 41 = .ok (.ifCond .ne 13, 3) := by decide +kernel
theorem dX11_change_44 : decode cX11_change 44 = .ok (.new 96, 3) := by decide +kernel
theorem dX11_change_47 : decode cX11_change 47 = .ok (.dup, 1) := by decide +kernel
theorem dX11_change_48 : decode cX11_change 48 = .ok (.ldc 98, 2) := by decide +kernel
theorem dX11_change_50 : decode cX11_change 50 = .ok (.invokespecial 100, 3) := by decide +kernel
theorem dX11_change_53 : decode cX11_change 53 = .ok (.athrow, 1) := by decide +kernel
theorem dX11_change_54 : decode cX11_change 54 = .ok (.iload_n 1, 1) := by decide +kernel
theorem dX11_change_55 : decode cX11_change 55 = .ok (.iload_n 3, 1) := by decide +kernel
theorem dX11_change_56 : decode cX11_change 56 = .ok (.iload 4, 2) := by decide +kernel
theorem dX11_change_58 : decode cX11_change 58 = .ok (.invokestatic 370, 3) := by decide +kernel
theorem dX11_change_61 : decode cX11_change 61 = .ok (.ifCond .ne 14, 3) := by decide +kernel
theorem dX11_change_64 : decode cX11_change 64 = .ok (.new 107, 3) := by decide +kernel
theorem dX11_change_67 : decode cX11_change 67 = .ok (.dup, 1) := by decide +kernel
theorem dX11_change_68 : decode cX11_change 68 = .ok (.ldc_w 373, 3) := by decide +kernel
theorem dX11_change_71 : decode cX11_change 71 = .ok (.invokespecial 111, 3) := by decide +kernel
theorem dX11_change_74 : decode cX11_change 74 = .ok (.athrow, 1) := by decide +kernel
theorem dX11_change_75 : decode cX11_change 75 = .ok (.aload_n 0, 1) := by decide +kernel
theorem dX11_change_76 : decode cX11_change 76 = .ok (.getfield 74, 3) := by decide +kernel
theorem dX11_change_79 : decode cX11_change 79 = .ok (.iload_n 1, 1) := by decide +kernel
theorem dX11_change_80 : decode cX11_change 80 = .ok (.iload_n 2, 1) := by decide +kernel
theorem dX11_change_81 : decode cX11_change 81 = .ok (.iload_n 3, 1) := by decide +kernel
theorem dX11_change_82 : decode cX11_change 82 = .ok (.iload 4, 2) := by decide +kernel
theorem dX11_change_84 : decode cX11_change 84 = .ok (.invokevirtual 375, 3) := by decide +kernel
theorem dX11_change_87 : decode cX11_change 87 = .ok (.aload_n 0, 1) := by decide +kernel
theorem dX11_change_88 : decode cX11_change 88 = .ok (.getfield 74, 3) := by decide +kernel
theorem dX11_change_91 : decode cX11_change 91 = .ok (.invokevirtual 376, 3) := by decide +kernel
theorem dX11_change_94 : decode cX11_change 94 = .ok (.ireturn, 1) := by decide +kernel
def is_X11_change (Rt : np_Rt) (Th : np_Th) : List (Nat × np_Op) := [(0, np_ild 1 2), (1, nq_call 1 sp_X11_isSlot 1 0 0 1 6), (4, nq_if (fun x => x = 0) 36), (7, np_ild 1 1), (8, np_push 1 (.int 1)), (9, nq_ic (fun x y => x = y) 19), (12, np_ild 1 3), (13, nq_call 1 sp_X11_isSlot 1 0 0 1 6), (16, nq_if (fun x => x = 0) 36), (19, np_ild 1 1), (20, np_push 1 (.int 4)), (21, nq_icne 32), (24, np_ild 2 4), (26, nq_call 1 sp_X11_isSlot 1 0 0 1 6), (29, nq_if (fun x => x = 0) 36), (32, np_push 1 (.int 1)), (33, np_goto 37), (36, np_push 1 (.int 0)), (37, np_ist 2 5), (39, np_ild 2 5), (41, nq_ifne 54), (44, nq_throw Th 0), (54, np_ild 1 1), (55, np_ild 1 3), (56, np_ild 2 4), (58, nq_call 3 sp_X10_inRange 3 0 0 1 6), (61, nq_ifne 75), (64, nq_throw Th 1), (75, np_ald 1 0), (76, nq_getf 11 11), (79, np_ild 1 1), (80, np_ild 1 2), (81, np_ild 1 3), (82, np_ild 2 4), (84, nq_callV 10 5 sp_X10_add 5 0 0 1 6), (87, np_ald 1 0), (88, nq_getf 11 11), (91, nq_callV 10 1 sp_X10_size 3 0 0 1 6), (94, np_ret Rt)]
set_option maxRecDepth 20000 in
theorem so_X11_change {X : np_Ctx} {Rt : np_Rt} {Th : np_Th} (hX : np_ok RX11 cX11_change 6 6 100 1 6 .ireturn X) (hR : ∀ st w ce sl, Rt st w ce sl → X.2.2.1 st w ce sl) (hT : ∀ i w ce sl, Th i w ce sl → X.2.2.2 i w ce sl) : ∀ q ∈ is_X11_change Rt Th, np_S X q.1 q.2 :=
  List.forall_mem_cons.mpr ⟨np_s_iload_n hX dX11_change_0 rfl, List.forall_mem_cons.mpr ⟨np_S.mono (op := np_call 1 sp_X11_isSlot 1 0 0 1 6) (np_s_callS hX C_X11_isSlot dX11_change_1 gw572 gw130 gw570 gw571 ⟨by decide, by decide, by decide⟩ (by decide) (by decide)) nq_call_le, List.forall_mem_cons.mpr ⟨np_S.mono (op := np_if (fun x => x = 0) 36) (np_s_if_eq hX dX11_change_4 (by decide)) nq_if_le, List.forall_mem_cons.mpr ⟨np_s_iload_n hX dX11_change_7 rfl, List.forall_mem_cons.mpr ⟨np_s_iconst hX dX11_change_8 (by decide), List.forall_mem_cons.mpr ⟨np_S.mono (op := np_ic (fun x y => x = y) 19) (np_s_icmp_eq hX dX11_change_9 (by decide)) nq_ic_le, List.forall_mem_cons.mpr ⟨np_s_iload_n hX dX11_change_12 rfl, List.forall_mem_cons.mpr ⟨np_S.mono (op := np_call 1 sp_X11_isSlot 1 0 0 1 6) (np_s_callS hX C_X11_isSlot dX11_change_13 gw572 gw130 gw570 gw571 ⟨by decide, by decide, by decide⟩ (by decide) (by decide)) nq_call_le, List.forall_mem_cons.mpr ⟨np_S.mono (op := np_if (fun x => x = 0) 36) (np_s_if_eq hX dX11_change_16 (by decide)) nq_if_le, List.forall_mem_cons.mpr ⟨np_s_iload_n hX dX11_change_19 rfl, List.forall_mem_cons.mpr ⟨np_s_iconst hX dX11_change_20 (by decide), List.forall_mem_cons.mpr ⟨np_S.mono (op := np_icne 32) (np_s_icmp_ne hX dX11_change_21 (by decide)) nq_icne_le, List.forall_mem_cons.mpr ⟨np_s_iload hX dX11_change_24, List.forall_mem_cons.mpr ⟨np_S.mono (op := np_call 1 sp_X11_isSlot 1 0 0 1 6) (np_s_callS hX C_X11_isSlot dX11_change_26 gw572 gw130 gw570 gw571 ⟨by decide, by decide, by decide⟩ (by decide) (by decide)) nq_call_le, List.forall_mem_cons.mpr ⟨np_S.mono (op := np_if (fun x => x = 0) 36) (np_s_if_eq hX dX11_change_29 (by decide)) nq_if_le, List.forall_mem_cons.mpr ⟨np_s_iconst hX dX11_change_32 (by decide), List.forall_mem_cons.mpr ⟨np_s_goto hX dX11_change_33 (by decide), List.forall_mem_cons.mpr ⟨np_s_iconst hX dX11_change_36 (by decide), List.forall_mem_cons.mpr ⟨np_s_istore hX dX11_change_37 (by decide), List.forall_mem_cons.mpr ⟨np_s_iload hX dX11_change_39, List.forall_mem_cons.mpr ⟨np_S.mono (op := np_ifne 54) (np_s_if_ne hX dX11_change_41 (by decide)) nq_ifne_le, List.forall_mem_cons.mpr ⟨np_S.mono (op := np_throw X.2.2.2 0) (np_s_throw hX ⟨96, 98, 100, _, gw573, gw146, sw614, twX11_100, toX11_100_96, Or.inl ⟨dX11_change_44, dX11_change_47, dX11_change_48, dX11_change_50, dX11_change_53⟩⟩) (nq_throw_le hT), List.forall_mem_cons.mpr ⟨np_s_iload_n hX dX11_change_54 rfl, List.forall_mem_cons.mpr ⟨np_s_iload_n hX dX11_change_55 rfl, List.forall_mem_cons.mpr ⟨np_s_iload hX dX11_change_56, List.forall_mem_cons.mpr ⟨np_S.mono (op := np_call 3 sp_X10_inRange 3 0 0 1 6) (np_s_callS hX C_X10_inRange dX11_change_58 gw1416 gw137 gw1414 gw1415 ⟨by decide, by decide, by decide⟩ (by decide) (by decide)) nq_call_le, List.forall_mem_cons.mpr ⟨np_S.mono (op := np_ifne 75) (np_s_if_ne hX dX11_change_61 (by decide)) nq_ifne_le, List.forall_mem_cons.mpr ⟨np_S.mono (op := np_throw X.2.2.2 1) (np_s_throw hX ⟨107, 373, 111, _, gw647, gw147, sw1419, twX11_111, toX11_111_107, Or.inr ⟨dX11_change_64, dX11_change_67, dX11_change_68, dX11_change_71, dX11_change_74⟩⟩) (nq_throw_le hT), List.forall_mem_cons.mpr ⟨np_s_aload_n hX dX11_change_75 rfl, List.forall_mem_cons.mpr ⟨np_S.mono (op := np_getf 11 11) (np_s_getf hX dX11_change_76 (C := RX11) (T := TX11) (N := 14) rfl guX11 (by decide) gw517) nq_getf_le, List.forall_mem_cons.mpr ⟨np_s_iload_n hX dX11_change_79 rfl, List.forall_mem_cons.mpr ⟨np_s_iload_n hX dX11_change_80 rfl, List.forall_mem_cons.mpr ⟨np_s_iload_n hX dX11_change_81 rfl, List.forall_mem_cons.mpr ⟨np_s_iload hX dX11_change_82, List.forall_mem_cons.mpr ⟨np_S.mono (op := np_callV 10 5 sp_X10_add 5 0 0 1 6) (np_s_callV hX C_X10_add dX11_change_84 (q := (RX10, TX10, 3)) rfl rfl gw1423 gw137 gw1420 gw1421 gw1422 ⟨by decide, by decide, by decide⟩ (by decide) (by decide)) nq_callV_le, List.forall_mem_cons.mpr ⟨np_s_aload_n hX dX11_change_87 rfl, List.forall_mem_cons.mpr ⟨np_S.mono (op := np_getf 11 11) (np_s_getf hX dX11_change_88 (C := RX11) (T := TX11) (N := 14) rfl guX11 (by decide) gw517) nq_getf_le, List.forall_mem_cons.mpr ⟨np_S.mono (op := np_callV 10 1 sp_X10_size 3 0 0 1 6) (np_s_callV hX C_X10_size dX11_change_91 (q := (RX10, TX10, 3)) rfl rfl gw1428 gw137 gw1425 gw1426 gw1427 ⟨by decide, by decide, by decide⟩ (by decide) (by decide)) nq_callV_le, List.forall_mem_cons.mpr ⟨np_S.mono (op := np_ret X.2.2.1) (np_s_ret hX dX11_change_94) (nq_ret_le hR), fun _ h => nomatch h⟩⟩⟩⟩⟩⟩⟩⟩⟩⟩⟩⟩⟩⟩⟩⟩⟩⟩⟩⟩⟩⟩⟩⟩⟩⟩⟩⟩⟩⟩⟩⟩⟩⟩⟩⟩⟩⟩⟩
abbrev sp_X11_change : np_SpX := nq_inX is_X11_change (some .int) 1 6 400
theorem C_X11_change : np_CX yX11_change cX11_change 6 (some .int) 6 100 1 6 sp_X11_change := nq_inCX 400 (by decide) (by decide) (by decide) (fun X Rt Th hX hmn hR hT => so_X11_change hX hR hT)
theorem dX11_upgrade_0 : decode cX11_upgrade 0 = .ok (.aload_n 0, 1) := by decide +kernel
theorem dX11_upgrade_1 : decode cX11_upgrade 1 = .ok (.invokevirtual 379, 3) := by decide +kernel
theorem dX11_upgrade_4 : decode cX11_upgrade 4 = .ok (.astore_n 1, 1) := by decide +kernel
theorem dX11_upgrade_5 : decode cX11_upgrade 5 = .ok (.aload_n 1, 1) := by decide +kernel
theorem dX11_upgrade_6 : decode cX11_upgrade 6 = .ok (.ifnonnull 14, 3) := by decide +kernel
theorem dX11_upgrade_9 : decode cX11_upgrade 9 = .ok (.new 116, 3) := by decide +kernel
theorem dX11_upgrade_12 : decode cX11_upgrade 12 = .ok (.dup, 1) := by decide +kernel
theorem dX11_upgrade_13 : decode cX11_upgrade 13 = .ok (.ldc_w 383, 3) := by decide +kernel
theorem dX11_upgrade_16 : decode cX11_upgrade 16 = .ok (.invokespecial 120, 3) := by decide +kernel
theorem dX11_upgrade_19 : decode cX11_upgrade 19 = .ok (.athrow, 1) := by decide +kernel
theorem dX11_upgrade_20 : decode cX11_upgrade 20 = .ok (.aload_n 1, 1) := by decide +kernel
theorem dX11_upgrade_21 : decode cX11_upgrade 21 = .ok (.aload_n 0, 1) := by decide +kernel
theorem dX11_upgrade_22 : decode cX11_upgrade 22 = .ok (.getfield 74, 3) := by decide +kernel
theorem dX11_upgrade_25 : decode cX11_upgrade 25 = .ok (.invokevirtual 385, 3) := by decide +kernel
theorem dX11_upgrade_28 : decode cX11_upgrade 28 = .ok (.aload_n 0, 1) := by decide +kernel
theorem dX11_upgrade_29 : decode cX11_upgrade 29 = .ok (.getfield 74, 3) := by decide +kernel
theorem dX11_upgrade_32 : decode cX11_upgrade 32 = .ok (.invokevirtual 389, 3) := by decide +kernel
theorem dX11_upgrade_35 : decode cX11_upgrade 35 = .ok (.aload_n 0, 1) := by decide +kernel
theorem dX11_upgrade_36 : decode cX11_upgrade 36 = .ok (.dup, 1) := by decide +kernel
theorem dX11_upgrade_37 : decode cX11_upgrade 37 = .ok (.getfield 390, 3) := by decide +kernel
theorem dX11_upgrade_40 : decode cX11_upgrade 40 = .ok (.iconst 1, 1) := by decide +kernel
theorem dX11_upgrade_41 : decode cX11_upgrade 41 = .ok (.iadd, 1) := by decide +kernel
theorem dX11_upgrade_42 : decode cX11_upgrade 42 = .ok (.putfield 390, 3) := by decide +kernel
theorem dX11_upgrade_45 : decode cX11_upgrade 45 = .ok (.aload_n 0, 1) := by decide +kernel
theorem dX11_upgrade_46 : decode cX11_upgrade 46 = .ok (.getfield 390, 3) := by decide +kernel
theorem dX11_upgrade_49 : decode cX11_upgrade 49 = .ok (.iconst 1, 1) := by decide +kernel
theorem dX11_upgrade_50 : decode cX11_upgrade 50 = .ok (.isub, 1) := by decide +kernel
theorem dX11_upgrade_51 : decode cX11_upgrade 51 = .ok (.ireturn, 1) := by decide +kernel
def is_X11_upgrade (Rt : np_Rt) (Th : np_Th) : List (Nat × np_Op) := [(0, np_ald 1 0), (1, nq_callV 11 1 sp_X11_nextUpgrade 1 0 0 1 6), (4, np_ast 1 1), (5, np_ald 1 1), (6, np_ifnonnull 20), (9, nq_throw Th 2), (20, np_ald 1 1), (21, np_ald 1 0), (22, nq_getf 11 11), (25, nq_callV 9 2 sp_X9_buildFrom 3 0 0 1 6), (28, np_ald 1 0), (29, nq_getf 11 11), (32, nq_callV 10 1 sp_X10_clear 1 0 0 1 6), (35, np_ald 1 0), (36, nq_dup), (37, nq_getf 11 13), (40, np_push 1 (.int 1)), (41, np_ib (fun x y => x + y)), (42, nq_putf 11 13 (.int)), (45, np_ald 1 0), (46, nq_getf 11 13), (49, np_push 1 (.int 1)), (50, np_ib (fun x y => x - y)), (51, np_ret Rt)]
set_option maxRecDepth 20000 in
theorem so_X11_upgrade {X : np_Ctx} {Rt : np_Rt} {Th : np_Th} (hX : np_ok RX11 cX11_upgrade 2 6 100 1 6 .ireturn X) (hR : ∀ st w ce sl, Rt st w ce sl → X.2.2.1 st w ce sl) (hT : ∀ i w ce sl, Th i w ce sl → X.2.2.2 i w ce sl) : ∀ q ∈ is_X11_upgrade Rt Th, np_S X q.1 q.2 :=
  List.forall_mem_cons.mpr ⟨np_s_aload_n hX dX11_upgrade_0 rfl, List.forall_mem_cons.mpr ⟨np_S.mono (op := np_callV 11 1 sp_X11_nextUpgrade 1 0 0 1 6) (np_s_callV hX C_X11_nextUpgrade dX11_upgrade_1 (q := (RX11, TX11, 14)) rfl rfl gw1439 gw130 gw1436 gw1438 gw43 ⟨by decide, by decide, by decide⟩ (by decide) (by decide)) nq_callV_le, List.forall_mem_cons.mpr ⟨np_s_astore_n hX dX11_upgrade_4 rfl (by decide), List.forall_mem_cons.mpr ⟨np_s_aload_n hX dX11_upgrade_5 rfl, List.forall_mem_cons.mpr ⟨np_s_ifnonnull hX dX11_upgrade_6 (by decide), List.forall_mem_cons.mpr ⟨np_S.mono (op := np_throw X.2.2.2 2) (np_s_throw hX ⟨116, 383, 120, _, gw667, gw148, sw1440, twX11_120, toX11_120_116, Or.inr ⟨dX11_upgrade_9, dX11_upgrade_12, dX11_upgrade_13, dX11_upgrade_16, dX11_upgrade_19⟩⟩) (nq_throw_le hT), List.forall_mem_cons.mpr ⟨np_s_aload_n hX dX11_upgrade_20 rfl, List.forall_mem_cons.mpr ⟨np_s_aload_n hX dX11_upgrade_21 rfl, List.forall_mem_cons.mpr ⟨np_S.mono (op := np_getf 11 11) (np_s_getf hX dX11_upgrade_22 (C := RX11) (T := TX11) (N := 14) rfl guX11 (by decide) gw517) nq_getf_le, List.forall_mem_cons.mpr ⟨np_S.mono (op := np_callV 9 2 sp_X9_buildFrom 3 0 0 1 6) (np_s_callV hX C_X9_buildFrom dX11_upgrade_25 (q := (RX9, TX9, 7)) rfl rfl gw1444 gw141 gw1441 gw1442 gw1443 ⟨by decide, by decide, by decide⟩ (by decide) (by decide)) nq_callV_le, List.forall_mem_cons.mpr ⟨np_s_aload_n hX dX11_upgrade_28 rfl, List.forall_mem_cons.mpr ⟨np_S.mono (op := np_getf 11 11) (np_s_getf hX dX11_upgrade_29 (C := RX11) (T := TX11) (N := 14) rfl guX11 (by decide) gw517) nq_getf_le, List.forall_mem_cons.mpr ⟨np_S.mono (op := np_callV 10 1 sp_X10_clear 1 0 0 1 6) (np_s_callV hX C_X10_clear dX11_upgrade_32 (q := (RX10, TX10, 3)) rfl rfl gw1458 gw137 gw1455 gw1456 gw1457 ⟨by decide, by decide, by decide⟩ (by decide) (by decide)) nq_callV_le, List.forall_mem_cons.mpr ⟨np_s_aload_n hX dX11_upgrade_35 rfl, List.forall_mem_cons.mpr ⟨np_S.mono (op := np_dup) (np_s_dup hX dX11_upgrade_36) nq_dup_le, List.forall_mem_cons.mpr ⟨np_S.mono (op := np_getf 11 13) (np_s_getf hX dX11_upgrade_37 (C := RX11) (T := TX11) (N := 14) rfl guX11 (by decide) gw519) nq_getf_le, List.forall_mem_cons.mpr ⟨np_s_iconst hX dX11_upgrade_40 (by decide), List.forall_mem_cons.mpr ⟨np_s_iadd hX dX11_upgrade_41, List.forall_mem_cons.mpr ⟨np_S.mono (op := np_putf 11 13 (.int)) (np_s_putf hX dX11_upgrade_42 (C := RX11) (T := TX11) (N := 14) (ty0 := tyX11) rfl guX11 tyX11_ok nmX11 (by decide) gw519 rfl rfl) nq_putf_le, List.forall_mem_cons.mpr ⟨np_s_aload_n hX dX11_upgrade_45 rfl, List.forall_mem_cons.mpr ⟨np_S.mono (op := np_getf 11 13) (np_s_getf hX dX11_upgrade_46 (C := RX11) (T := TX11) (N := 14) rfl guX11 (by decide) gw519) nq_getf_le, List.forall_mem_cons.mpr ⟨np_s_iconst hX dX11_upgrade_49 (by decide), List.forall_mem_cons.mpr ⟨np_s_isub hX dX11_upgrade_50, List.forall_mem_cons.mpr ⟨np_S.mono (op := np_ret X.2.2.1) (np_s_ret hX dX11_upgrade_51) (nq_ret_le hR), fun _ h => nomatch h⟩⟩⟩⟩⟩⟩⟩⟩⟩⟩⟩⟩⟩⟩⟩⟩⟩⟩⟩⟩⟩⟩⟩⟩
abbrev sp_X11_upgrade : np_SpX := nq_inX is_X11_upgrade (some .int) 1 6 400
theorem C_X11_upgrade : np_CX yX11_upgrade cX11_upgrade 2 (some .int) 6 100 1 6 sp_X11_upgrade := nq_inCX 400 (by decide) (by decide) (by decide) (fun X Rt Th hX hmn hR hT => so_X11_upgrade hX hR hT)
theorem dX11_compose_0 : decode cX11_compose 0 = .ok (.aload_n 0, 1) := by decide +kernel
theorem dX11_compose_1 : decode cX11_compose 1 = .ok (.iload_n 1, 1) := by decide +kernel
theorem dX11_compose_2 : decode cX11_compose 2 = .ok (.invokevirtual 393, 3) := by decide +kernel
theorem dX11_compose_5 : decode cX11_compose 5 = .ok (.astore_n 3, 1) := by decide +kernel
theorem dX11_compose_6 : decode cX11_compose 6 = .ok (.aload_n 0, 1) := by decide +kernel
theorem dX11_compose_7 : decode cX11_compose 7 = .ok (.iload_n 2, 1) := by decide +kernel
theorem dX11_compose_8 : decode cX11_compose 8 = .ok (.invokevirtual 393, 3) := by decide +kernel
theorem dX11_compose_11 : decode cX11_compose 11 = .ok (.astore 4, 2) := by decide +kernel
theorem dX11_compose_13 : decode cX11_compose 13 = .ok (.aload_n 3, 1) := by decide +kernel
theorem dX11_compose_14 : decode cX11_compose 14 = .ok (.ifnull 8, 3) := by decide +kernel
theorem dX11_compose_17 : decode cX11_compose 17 = .ok (.aload 4, 2) := by decide +kernel
theorem dX11_compose_19 : decode cX11_compose 19 = .ok (.ifnonnull 14, 3) := by decide +kernel
theorem dX11_compose_22 : decode cX11_compose 22 = .ok (.new 96, 3) := by decide +kernel
theorem dX11_compose_25 : decode cX11_compose 25 = .ok (.dup, 1) := by decide +kernel
theorem dX11_compose_26 : decode cX11_compose 26 = .ok (.ldc_w 397, 3) := by decide +kernel
theorem dX11_compose_29 : decode cX11_compose 29 = .ok (.invokespecial 100, 3) := by decide +kernel
theorem dX11_compose_32 : decode cX11_compose 32 = .ok (.athrow, 1) := by decide +kernel
theorem dX11_compose_33 : decode cX11_compose 33 = .ok (.aload_n 0, 1) := by decide +kernel
theorem dX11_compose_34 : decode cX11_compose 34 = .ok (.invokevirtual 379, 3) := by decide +kernel
theorem dX11_compose_37 : decode cX11_compose 37 = .ok (.astore 5, 2) := by decide +kernel
theorem dX11_compose_39 : decode cX11_compose 39 = .ok (.aload 5, 2) := by decide +kernel
theorem dX11_compose_41 : decode cX11_compose 41 = .ok (.ifnonnull 14, 3) := by decide +kernel
theorem dX11_compose_44 : decode cX11_compose 44 = .ok (.new 116, 3) := by decide +kernel
theorem dX11_compose_47 : decode cX11_compose 47 = .ok (.dup, 1) := by decide +kernel
theorem dX11_compose_48 : decode cX11_compose 48 = .ok (.ldc_w 383, 3) := by decide +kernel
theorem dX11_compose_51 : decode cX11_compose 51 = .ok (.invokespecial 120, 3) := by decide +kernel
theorem dX11_compose_54 : decode cX11_compose 54 = .ok (.athrow, 1) := by decide +kernel
theorem dX11_compose_55 : decode cX11_compose 55 = .ok (.aload 5, 2) := by decide +kernel
theorem dX11_compose_57 : decode cX11_compose 57 = .ok (.aload_n 3, 1) := by decide +kernel
theorem dX11_compose_58 : decode cX11_compose 58 = .ok (.aload 4, 2) := by decide +kernel
theorem dX11_compose_60 : decode cX11_compose 60 = .ok (.invokevirtual 399, 3) := by decide +kernel
theorem dX11_compose_63 : decode cX11_compose 63 = .ok (.ifCond .ne 5, 3) := by decide +kernel
theorem dX11_compose_66 : decode cX11_compose 66 = .ok (.iconst (-1), 1) := by decide +kernel
theorem dX11_compose_67 : decode cX11_compose 67 = .ok (.ireturn, 1) := by decide +kernel
theorem dX11_compose_68 : decode cX11_compose 68 = .ok (.aload_n 0, 1) := by decide +kernel
theorem dX11_compose_69 : decode cX11_compose 69 = .ok (.dup, 1) := by decide +kernel
theorem dX11_compose_70 : decode cX11_compose 70 = .ok (.getfield 390, 3) := by decide +kernel
theorem dX11_compose_73 : decode cX11_compose 73 = .ok (.iconst 1, 1) := by decide +kernel
theorem dX11_compose_74 : decode cX11_compose 74 = .ok (.iadd, 1) := by decide +kernel
theorem dX11_compose_75 : decode cX11_compose 75 = .ok (.putfield 390, 3) := by decide +kernel
theorem dX11_compose_78 : decode cX11_compose 78 = .ok (.aload_n 0, 1) := by decide +kernel
theorem dX11_compose_79 : decode cX11_compose 79 = .ok (.getfield 390, 3) := by decide +kernel
theorem dX11_compose_82 : decode cX11_compose 82 = .ok (.iconst 1, 1) := by decide +kernel
theorem dX11_compose_83 : decode cX11_compose 83 = .ok (.isub, 1) := by decide +kernel
theorem dX11_compose_84 : decode cX11_compose 84 = .ok (.ireturn, 1) := by decide +kernel
def is_X11_compose (Rt : np_Rt) (Th : np_Th) : List (Nat × np_Op) := [(0, np_ald 1 0), (1, np_ild 1 1), (2, nq_callV 11 2 sp_X11_upgradeOf 2 0 0 1 6), (5, np_ast 1 3), (6, np_ald 1 0), (7, np_ild 1 2), (8, nq_callV 11 2 sp_X11_upgradeOf 2 0 0 1 6), (11, np_ast 2 4), (13, np_ald 1 3), (14, np_ifnull 22), (17, np_ald 2 4), (19, np_ifnonnull 33), (22, nq_throw Th 0), (33, np_ald 1 0), (34, nq_callV 11 1 sp_X11_nextUpgrade 1 0 0 1 6), (37, np_ast 2 5), (39, np_ald 2 5), (41, np_ifnonnull 55), (44, nq_throw Th 2), (55, np_ald 2 5), (57, np_ald 1 3), (58, np_ald 2 4), (63, nq_ifne 68), (66, np_push 1 (.int (-1))), (67, np_ret Rt), (68, np_ald 1 0), (69, nq_dup), (70, nq_getf 11 13), (73, np_push 1 (.int 1)), (74, np_ib (fun x y => x + y)), (75, nq_putf 11 13 (.int)), (78, np_ald 1 0), (79, nq_getf 11 13), (82, np_push 1 (.int 1)), (83, np_ib (fun x y => x - y)), (84, np_ret Rt)]
set_option maxRecDepth 20000 in
theorem so_X11_compose {X : np_Ctx} {Rt : np_Rt} {Th : np_Th} (hX : np_ok RX11 cX11_compose 6 6 100 1 6 .ireturn X) (hR : ∀ st w ce sl, Rt st w ce sl → X.2.2.1 st w ce sl) (hT : ∀ i w ce sl, Th i w ce sl → X.2.2.2 i w ce sl) : ∀ q ∈ is_X11_compose Rt Th, np_S X q.1 q.2 :=
  List.forall_mem_cons.mpr ⟨np_s_aload_n hX dX11_compose_0 rfl, List.forall_mem_cons.mpr ⟨np_s_iload_n hX dX11_compose_1 rfl, List.forall_mem_cons.mpr ⟨np_S.mono (op := np_callV 11 2 sp_X11_upgradeOf 2 0 0 1 6) (np_s_callV hX C_X11_upgradeOf dX11_compose_2 (q := (RX11, TX11, 14)) rfl rfl gw1469 gw130 gw1466 gw1468 gw46 ⟨by decide, by decide, by decide⟩ (by decide) (by decide)) nq_callV_le, List.forall_mem_cons.mpr ⟨np_s_astore_n hX dX11_compose_5 rfl (by decide), List.forall_mem_cons.mpr ⟨np_s_aload_n hX dX11_compose_6 rfl, List.forall_mem_cons.mpr ⟨np_s_iload_n hX dX11_compose_7 rfl, List.forall_mem_cons.mpr ⟨np_S.mono (op := np_callV 11 2 sp_X11_upgradeOf 2 0 0 1 6) (np_s_callV hX C_X11_upgradeOf dX11_compose_8 (q := (RX11, TX11, 14)) rfl rfl gw1469 gw130 gw1466 gw1468 gw46 ⟨by decide, by decide, by decide⟩ (by decide) (by decide)) nq_callV_le, List.forall_mem_cons.mpr ⟨np_s_astore hX dX11_compose_11 (by decide), List.forall_mem_cons.mpr ⟨np_s_aload_n hX dX11_compose_13 rfl, List.forall_mem_cons.mpr ⟨np_s_ifnull hX dX11_compose_14 (by decide), List.forall_mem_cons.mpr ⟨np_s_aload hX dX11_compose_17, List.forall_mem_cons.mpr ⟨np_s_ifnonnull hX dX11_compose_19 (by decide), List.forall_mem_cons.mpr ⟨np_S.mono (op := np_throw X.2.2.2 0) (np_s_throw hX ⟨96, 397, 100, _, gw573, gw146, sw1470, twX11_100, toX11_100_96, Or.inr ⟨dX11_compose_22, dX11_compose_25, dX11_compose_26, dX11_compose_29, dX11_compose_32⟩⟩) (nq_throw_le hT), List.forall_mem_cons.mpr ⟨np_s_aload_n hX dX11_compose_33 rfl, List.forall_mem_cons.mpr ⟨np_S.mono (op := np_callV 11 1 sp_X11_nextUpgrade 1 0 0 1 6) (np_s_callV hX C_X11_nextUpgrade dX11_compose_34 (q := (RX11, TX11, 14)) rfl rfl gw1439 gw130 gw1436 gw1438 gw43 ⟨by decide, by decide, by decide⟩ (by decide) (by decide)) nq_callV_le, List.forall_mem_cons.mpr ⟨np_s_astore hX dX11_compose_37 (by decide), List.forall_mem_cons.mpr ⟨np_s_aload hX dX11_compose_39, List.forall_mem_cons.mpr ⟨np_s_ifnonnull hX dX11_compose_41 (by decide), List.forall_mem_cons.mpr ⟨np_S.mono (op := np_throw X.2.2.2 2) (np_s_throw hX ⟨116, 383, 120, _, gw667, gw148, sw1440, twX11_120, toX11_120_116, Or.inr ⟨dX11_compose_44, dX11_compose_47, dX11_compose_48, dX11_compose_51, dX11_compose_54⟩⟩) (nq_throw_le hT), List.forall_mem_cons.mpr ⟨np_s_aload hX dX11_compose_55, List.forall_mem_cons.mpr ⟨np_s_aload_n hX dX11_compose_57 rfl, List.forall_mem_cons.mpr ⟨np_s_aload hX dX11_compose_58, List.forall_mem_cons.mpr ⟨np_S.mono (op := np_ifne 68) (np_s_if_ne hX dX11_compose_63 (by decide)) nq_ifne_le, List.forall_mem_cons.mpr ⟨np_s_iconst hX dX11_compose_66 (by decide), List.forall_mem_cons.mpr ⟨np_S.mono (op := np_ret X.2.2.1) (np_s_ret hX dX11_compose_67) (nq_ret_le hR), List.forall_mem_cons.mpr ⟨np_s_aload_n hX dX11_compose_68 rfl, List.forall_mem_cons.mpr ⟨np_S.mono (op := np_dup) (np_s_dup hX dX11_compose_69) nq_dup_le, List.forall_mem_cons.mpr ⟨np_S.mono (op := np_getf 11 13) (np_s_getf hX dX11_compose_70 (C := RX11) (T := TX11) (N := 14) rfl guX11 (by decide) gw519) nq_getf_le, List.forall_mem_cons.mpr ⟨np_s_iconst hX dX11_compose_73 (by decide), List.forall_mem_cons.mpr ⟨np_s_iadd hX dX11_compose_74, List.forall_mem_cons.mpr ⟨np_S.mono (op := np_putf 11 13 (.int)) (np_s_putf hX dX11_compose_75 (C := RX11) (T := TX11) (N := 14) (ty0 := tyX11) rfl guX11 tyX11_ok nmX11 (by decide) gw519 rfl rfl) nq_putf_le, List.forall_mem_cons.mpr ⟨np_s_aload_n hX dX11_compose_78 rfl, List.forall_mem_cons.mpr ⟨np_S.mono (op := np_getf 11 13) (np_s_getf hX dX11_compose_79 (C := RX11) (T := TX11) (N := 14) rfl guX11 (by decide) gw519) nq_getf_le, List.forall_mem_cons.mpr ⟨np_s_iconst hX dX11_compose_82 (by decide), List.forall_mem_cons.mpr ⟨np_s_isub hX dX11_compose_83, List.forall_mem_cons.mpr ⟨np_S.mono (op := np_ret X.2.2.1) (np_s_ret hX dX11_compose_84) (nq_ret_le hR), fun _ h => nomatch h⟩⟩⟩⟩⟩⟩⟩⟩⟩⟩⟩⟩⟩⟩⟩⟩⟩⟩⟩⟩⟩⟩⟩⟩⟩⟩⟩⟩⟩⟩⟩⟩⟩⟩⟩⟩
abbrev sp_X11_compose : np_SpX := nq_inX is_X11_compose (some .int) 1 6 400
theorem C_X11_compose : np_CX yX11_compose cX11_compose 6 (some .int) 6 100 1 6 sp_X11_compose := nq_inCX 400 (by decide) (by decide) (by decide) (fun X Rt Th hX hmn hR hT => so_X11_compose hX hR hT)
theorem dX11_reverse_0 : decode cX11_reverse 0 = .ok (.aload_n 0, 1) := by decide +kernel
theorem dX11_reverse_1 : decode cX11_reverse 1 = .ok (.iload_n 1, 1) := by decide +kernel
theorem dX11_reverse_2 : decode cX11_reverse 2 = .ok (.invokevirtual 393, 3) := by decide +kernel
theorem dX11_reverse_5 : decode cX11_reverse 5 = .ok (.astore_n 2, 1) := by decide +kernel
theorem dX11_reverse_6 : decode cX11_reverse 6 = .ok (.aload_n 2, 1) := by decide +kernel
theorem dX11_reverse_7 : decode cX11_reverse 7 = .ok (.ifnonnull 14, 3) := by decide +kernel
theorem dX11_reverse_10 : decode cX11_reverse 10 = .ok (.new 96, 3) := by decide +kernel
theorem dX11_reverse_13 : decode cX11_reverse 13 = .ok (.dup, 1) := by decide +kernel
theorem dX11_reverse_14 : decode cX11_reverse 14 = .ok (.ldc_w 397, 3) := by decide +kernel
theorem dX11_reverse_17 : decode cX11_reverse 17 = .ok (.invokespecial 100, 3) := by decide +kernel
theorem dX11_reverse_20 : decode cX11_reverse 20 = .ok (.athrow, 1) := by decide +kernel
theorem dX11_reverse_21 : decode cX11_reverse 21 = .ok (.aload_n 0, 1) := by decide +kernel
theorem dX11_reverse_22 : decode cX11_reverse 22 = .ok (.invokevirtual 379, 3) := by decide +kernel
theorem dX11_reverse_25 : decode cX11_reverse 25 = .ok (.astore_n 3, 1) := by decide +kernel
theorem dX11_reverse_26 : decode cX11_reverse 26 = .ok (.aload_n 3, 1) := by decide +kernel
theorem dX11_reverse_27 : decode cX11_reverse 27 = .ok (.ifnonnull 14, 3) := by decide +kernel
theorem dX11_reverse_30 : decode cX11_reverse 30 = .ok (.new 116, 3) := by decide +kernel
theorem dX11_reverse_33 : decode cX11_reverse 33 = .ok (.dup, 1) := by decide +kernel
theorem dX11_reverse_34 : decode cX11_reverse 34 = .ok (.ldc_w 383, 3) := by decide +kernel
theorem dX11_reverse_37 : decode cX11_reverse 37 = .ok (.invokespecial 120, 3) := by decide +kernel
theorem dX11_reverse_40 : decode cX11_reverse 40 = .ok (.athrow, 1) := by decide +kernel
theorem dX11_reverse_41 : decode cX11_reverse 41 = .ok (.aload_n 3, 1) := by decide +kernel
theorem dX11_reverse_42 : decode cX11_reverse 42 = .ok (.aload_n 2, 1) := by decide +kernel
theorem dX11_reverse_43 : decode cX11_reverse 43 = .ok (.invokevirtual 403, 3) := by decide +kernel
theorem dX11_reverse_46 : decode cX11_reverse 46 = .ok (.ifCond .ne 5, 3) := by decide +kernel
theorem dX11_reverse_49 : decode cX11_reverse 49 = .ok (.iconst (-1), 1) := by decide +kernel
theorem dX11_reverse_50 : decode cX11_reverse 50 = .ok (.ireturn, 1) := by decide +kernel
theorem dX11_reverse_51 : decode cX11_reverse 51 = .ok (.aload_n 0, 1) := by decide +kernel
theorem dX11_reverse_52 : decode cX11_reverse 52 = .ok (.dup, 1) := by decide +kernel
theorem dX11_reverse_53 : decode cX11_reverse 53 = .ok (.getfield 390, 3) := by decide +kernel
theorem dX11_reverse_56 : decode cX11_reverse 56 = .ok (.iconst 1, 1) := by decide +kernel
theorem dX11_reverse_57 : decode cX11_reverse 57 = .ok (.iadd, 1) := by decide +kernel
theorem dX11_reverse_58 : decode cX11_reverse 58 = .ok (.putfield 390, 3) := by decide +kernel
theorem dX11_reverse_61 : decode cX11_reverse 61 = .ok (.aload_n 0, 1) := by decide +kernel
theorem dX11_reverse_62 : decode cX11_reverse 62 = .ok (.getfield 390, 3) := by decide +kernel
theorem dX11_reverse_65 : decode cX11_reverse 65 = .ok (.iconst 1, 1) := by decide +kernel
theorem dX11_reverse_66 : decode cX11_reverse 66 = .ok (.isub, 1) := by decide +kernel
theorem dX11_reverse_67 : decode cX11_reverse 67 = .ok (.ireturn, 1) := by decide +kernel
def is_X11_reverse (Rt : np_Rt) (Th : np_Th) : List (Nat × np_Op) := [(0, np_ald 1 0), (1, np_ild 1 1), (2, nq_callV 11 2 sp_X11_upgradeOf 2 0 0 1 6), (5, np_ast 1 2), (6, np_ald 1 2), (7, np_ifnonnull 21), (10, nq_throw Th 0), (21, np_ald 1 0), (22, nq_callV 11 1 sp_X11_nextUpgrade 1 0 0 1 6), (25, np_ast 1 3), (26, np_ald 1 3), (27, np_ifnonnull 41), (30, nq_throw Th 2), (41, np_ald 1 3), (42, np_ald 1 2), (46, nq_ifne 51), (49, np_push 1 (.int (-1))), (50, np_ret Rt), (51, np_ald 1 0), (52, nq_dup), (53, nq_getf 11 13), (56, np_push 1 (.int 1)), (57, np_ib (fun x y => x + y)), (58, nq_putf 11 13 (.int)), (61, np_ald 1 0), (62, nq_getf 11 13), (65, np_push 1 (.int 1)), (66, np_ib (fun x y => x - y)), (67, np_ret Rt)]
set_option maxRecDepth 20000 in
theorem so_X11_reverse {X : np_Ctx} {Rt : np_Rt} {Th : np_Th} (hX : np_ok RX11 cX11_reverse 4 6 100 1 6 .ireturn X) (hR : ∀ st w ce sl, Rt st w ce sl → X.2.2.1 st w ce sl) (hT : ∀ i w ce sl, Th i w ce sl → X.2.2.2 i w ce sl) : ∀ q ∈ is_X11_reverse Rt Th, np_S X q.1 q.2 :=
  List.forall_mem_cons.mpr ⟨np_s_aload_n hX dX11_reverse_0 rfl, List.forall_mem_cons.mpr ⟨np_s_iload_n hX dX11_reverse_1 rfl, List.forall_mem_cons.mpr ⟨np_S.mono (op := np_callV 11 2 sp_X11_upgradeOf 2 0 0 1 6) (np_s_callV hX C_X11_upgradeOf dX11_reverse_2 (q := (RX11, TX11, 14)) rfl rfl gw1469 gw130 gw1466 gw1468 gw46 ⟨by decide, by decide, by decide⟩ (by decide) (by decide)) nq_callV_le, List.forall_mem_cons.mpr ⟨np_s_astore_n hX dX11_reverse_5 rfl (by decide), List.forall_mem_cons.mpr ⟨np_s_aload_n hX dX11_reverse_6 rfl, List.forall_mem_cons.mpr ⟨np_s_ifnonnull hX dX11_reverse_7 (by decide), List.forall_mem_cons.mpr ⟨np_S.mono (op := np_throw X.2.2.2 0) (np_s_throw hX ⟨96, 397, 100, _, gw573, gw146, sw1470, twX11_100, toX11_100_96, Or.inr ⟨dX11_reverse_10, dX11_reverse_13, dX11_reverse_14, dX11_reverse_17, dX11_reverse_20⟩⟩) (nq_throw_le hT), List.forall_mem_cons.mpr ⟨np_s_aload_n hX dX11_reverse_21 rfl, List.forall_mem_cons.mpr ⟨np_S.mono (op := np_callV 11 1 sp_X11_nextUpgrade 1 0 0 1 6) (np_s_callV hX C_X11_nextUpgrade dX11_reverse_22 (q := (RX11, TX11, 14)) rfl rfl gw1439 gw130 gw1436 gw1438 gw43 ⟨by decide, by decide, by decide⟩ (by decide) (by decide)) nq_callV_le, List.forall_mem_cons.mpr ⟨np_s_astore_n hX dX11_reverse_25 rfl (by decide), List.forall_mem_cons.mpr ⟨np_s_aload_n hX dX11_reverse_26 rfl, List.forall_mem_cons.mpr ⟨np_s_ifnonnull hX dX11_reverse_27 (by decide), List.forall_mem_cons.mpr ⟨np_S.mono (op := np_throw X.2.2.2 2) (np_s_throw hX ⟨116, 383, 120, _, gw667, gw148, sw1440, twX11_120, toX11_120_116, Or.inr ⟨dX11_reverse_30, dX11_reverse_33, dX11_reverse_34, dX11_reverse_37, dX11_reverse_40⟩⟩) (nq_throw_le hT), List.forall_mem_cons.mpr ⟨np_s_aload_n hX dX11_reverse_41 rfl, List.forall_mem_cons.mpr ⟨np_s_aload_n hX dX11_reverse_42 rfl, List.forall_mem_cons.mpr ⟨np_S.mono (op := np_ifne 51) (np_s_if_ne hX dX11_reverse_46 (by decide)) nq_ifne_le, List.forall_mem_cons.mpr ⟨np_s_iconst hX dX11_reverse_49 (by decide), List.forall_mem_cons.mpr ⟨np_S.mono (op := np_ret X.2.2.1) (np_s_ret hX dX11_reverse_50) (nq_ret_le hR), List.forall_mem_cons.mpr ⟨np_s_aload_n hX dX11_reverse_51 rfl, List.forall_mem_cons.mpr ⟨np_S.mono (op := np_dup) (np_s_dup hX dX11_reverse_52) nq_dup_le, List.forall_mem_cons.mpr ⟨np_S.mono (op := np_getf 11 13) (np_s_getf hX dX11_reverse_53 (C := RX11) (T := TX11) (N := 14) rfl guX11 (by decide) gw519) nq_getf_le, List.forall_mem_cons.mpr ⟨np_s_iconst hX dX11_reverse_56 (by decide), List.forall_mem_cons.mpr ⟨np_s_iadd hX dX11_reverse_57, List.forall_mem_cons.mpr ⟨np_S.mono (op := np_putf 11 13 (.int)) (np_s_putf hX dX11_reverse_58 (C := RX11) (T := TX11) (N := 14) (ty0 := tyX11) rfl guX11 tyX11_ok nmX11 (by decide) gw519 rfl rfl) nq_putf_le, List.forall_mem_cons.mpr ⟨np_s_aload_n hX dX11_reverse_61 rfl, List.forall_mem_cons.mpr ⟨np_S.mono (op := np_getf 11 13) (np_s_getf hX dX11_reverse_62 (C := RX11) (T := TX11) (N := 14) rfl guX11 (by decide) gw519) nq_getf_le, List.forall_mem_cons.mpr ⟨np_s_iconst hX dX11_reverse_65 (by decide), List.forall_mem_cons.mpr ⟨np_s_isub hX dX11_reverse_66, List.forall_mem_cons.mpr ⟨np_S.mono (op := np_ret X.2.2.1) (np_s_ret hX dX11_reverse_67) (nq_ret_le hR), fun _ h => nomatch h⟩⟩⟩⟩⟩⟩⟩⟩⟩⟩⟩⟩⟩⟩⟩⟩⟩⟩⟩⟩⟩⟩⟩⟩⟩⟩⟩⟩⟩
abbrev sp_X11_reverse : np_SpX := nq_inX is_X11_reverse (some .int) 1 6 400
theorem C_X11_reverse : np_CX yX11_reverse cX11_reverse 4 (some .int) 6 100 1 6 sp_X11_reverse := nq_inCX 400 (by decide) (by decide) (by decide) (fun X Rt Th hX hmn hR hT => so_X11_reverse hX hR hT)
theorem dX11_upgraded_0 : decode cX11_upgraded 0 = .ok (.aload_n 0, 1) := by decide +kernel
theorem dX11_upgraded_1 : decode cX11_upgraded 1 = .ok (.iload_n 1, 1) := by decide +kernel
theorem dX11_upgraded_2 : decode cX11_upgraded 2 = .ok (.invokevirtual 393, 3) := by decide +kernel
theorem dX11_upgraded_5 : decode cX11_upgraded 5 = .ok (.astore_n 3, 1) := by decide +kernel
theorem dX11_upgraded_6 : decode cX11_upgraded 6 = .ok (.aload_n 3, 1) := by decide +kernel
theorem dX11_upgraded_7 : decode cX11_upgraded 7 = .ok (.ifnull 10, 3) := by decide +kernel
theorem dX11_upgraded_10 : decode cX11_upgraded 10 = .ok (.iload_n 2, 1) := by decide +kernel
theorem dX11_upgraded_11 : decode cX11_upgraded 11 = .ok (.invokestatic 93, 3) := by decide +kernel
theorem dX11_upgraded_14 : decode cX11_upgraded 14 = .ok (.ifCond .ne 14, 3) := by decide +kernel
theorem dX11_upgraded_17 : decode cX11_upgraded 17 = .ok (.new 96, 3) := by decide +kernel
theorem dX11_upgraded_20 : decode cX11_upgraded 20 = .ok (.dup, 1) := by decide +kernel
theorem dX11_upgraded_21 : decode cX11_upgraded 21 = .ok (.ldc_w 407, 3) := by decide +kernel
theorem dX11_upgraded_24 : decode cX11_upgraded 24 = .ok (.invokespecial 100, 3) := by decide +kernel
theorem dX11_upgraded_27 : decode cX11_upgraded 27 = .ok (.athrow, 1) := by decide +kernel
theorem dX11_upgraded_28 : decode cX11_upgraded 28 = .ok (.aload_n 3, 1) := by decide +kernel
theorem dX11_upgraded_29 : decode cX11_upgraded 29 = .ok (.iload_n 2, 1) := by decide +kernel
theorem dX11_upgraded_30 : decode cX11_upgraded 30 = .ok (.aload_n 0, 1) := by decide +kernel
theorem dX11_upgraded_31 : decode cX11_upgraded 31 = .ok (.getfield 28, 3) := by decide +kernel
theorem dX11_upgraded_34 : decode cX11_upgraded 34 = .ok (.invokevirtual 409, 3) := by decide +kernel
theorem dX11_upgraded_37 : decode cX11_upgraded 37 = .ok (.ireturn, 1) := by decide +kernel
def is_X11_upgraded (Rt : np_Rt) (Th : np_Th) : List (Nat × np_Op) := [(0, np_ald 1 0), (1, np_ild 1 1), (2, nq_callV 11 2 sp_X11_upgradeOf 2 0 0 1 6), (5, np_ast 1 3), (6, np_ald 1 3), (7, np_ifnull 17), (10, np_ild 1 2), (11, nq_call 1 sp_X11_isSlot 1 0 0 1 6), (14, nq_ifne 28), (17, nq_throw Th 0), (28, np_ald 1 3), (29, np_ild 1 2), (30, np_ald 1 0), (31, nq_getf 11 3), (37, np_ret Rt)]
set_option maxRecDepth 20000 in
theorem so_X11_upgraded {X : np_Ctx} {Rt : np_Rt} {Th : np_Th} (hX : np_ok RX11 cX11_upgraded 4 6 100 1 6 .ireturn X) (hR : ∀ st w ce sl, Rt st w ce sl → X.2.2.1 st w ce sl) (hT : ∀ i w ce sl, Th i w ce sl → X.2.2.2 i w ce sl) : ∀ q ∈ is_X11_upgraded Rt Th, np_S X q.1 q.2 :=
  List.forall_mem_cons.mpr ⟨np_s_aload_n hX dX11_upgraded_0 rfl, List.forall_mem_cons.mpr ⟨np_s_iload_n hX dX11_upgraded_1 rfl, List.forall_mem_cons.mpr ⟨np_S.mono (op := np_callV 11 2 sp_X11_upgradeOf 2 0 0 1 6) (np_s_callV hX C_X11_upgradeOf dX11_upgraded_2 (q := (RX11, TX11, 14)) rfl rfl gw1469 gw130 gw1466 gw1468 gw46 ⟨by decide, by decide, by decide⟩ (by decide) (by decide)) nq_callV_le, List.forall_mem_cons.mpr ⟨np_s_astore_n hX dX11_upgraded_5 rfl (by decide), List.forall_mem_cons.mpr ⟨np_s_aload_n hX dX11_upgraded_6 rfl, List.forall_mem_cons.mpr ⟨np_s_ifnull hX dX11_upgraded_7 (by decide), List.forall_mem_cons.mpr ⟨np_s_iload_n hX dX11_upgraded_10 rfl, List.forall_mem_cons.mpr ⟨np_S.mono (op := np_call 1 sp_X11_isSlot 1 0 0 1 6) (np_s_callS hX C_X11_isSlot dX11_upgraded_11 gw572 gw130 gw570 gw571 ⟨by decide, by decide, by decide⟩ (by decide) (by decide)) nq_call_le, List.forall_mem_cons.mpr ⟨np_S.mono (op := np_ifne 28) (np_s_if_ne hX dX11_upgraded_14 (by decide)) nq_ifne_le, List.forall_mem_cons.mpr ⟨np_S.mono (op := np_throw X.2.2.2 0) (np_s_throw hX ⟨96, 407, 100, _, gw573, gw146, sw1544, twX11_100, toX11_100_96, Or.inr ⟨dX11_upgraded_17, dX11_upgraded_20, dX11_upgraded_21, dX11_upgraded_24, dX11_upgraded_27⟩⟩) (nq_throw_le hT), List.forall_mem_cons.mpr ⟨np_s_aload_n hX dX11_upgraded_28 rfl, List.forall_mem_cons.mpr ⟨np_s_iload_n hX dX11_upgraded_29 rfl, List.forall_mem_cons.mpr ⟨np_s_aload_n hX dX11_upgraded_30 rfl, List.forall_mem_cons.mpr ⟨np_S.mono (op := np_getf 11 3) (np_s_getf hX dX11_upgraded_31 (C := RX11) (T := TX11) (N := 14) rfl guX11 (by decide) gw509) nq_getf_le, List.forall_mem_cons.mpr ⟨np_S.mono (op := np_ret X.2.2.1) (np_s_ret hX dX11_upgraded_37) (nq_ret_le hR), fun _ h => nomatch h⟩⟩⟩⟩⟩⟩⟩⟩⟩⟩⟩⟩⟩⟩⟩
abbrev sp_X11_upgraded : np_SpX := nq_inX is_X11_upgraded (some .int) 1 6 400
theorem C_X11_upgraded : np_CX yX11_upgraded cX11_upgraded 4 (some .int) 6 100 1 6 sp_X11_upgraded := nq_inCX 400 (by decide) (by decide) (by decide) (fun X Rt Th hX hmn hR hT => so_X11_upgraded hX hR hT)
theorem dX11_parts_0 : decode cX11_parts 0 = .ok (.aload_n 0, 1) := by decide +kernel
theorem dX11_parts_1 : decode cX11_parts 1 = .ok (.iload_n 1, 1) := by decide +kernel
theorem dX11_parts_2 : decode cX11_parts 2 = .ok (.invokevirtual 393, 3) := by decide +kernel
theorem dX11_parts_5 : decode cX11_parts 5 = .ok (.astore_n 2, 1) := by decide +kernel
theorem dX11_parts_6 : decode cX11_parts 6 = .ok (.aload_n 2, 1) := by decide +kernel
theorem dX11_parts_7 : decode cX11_parts 7 = .ok (.ifnonnull 14, 3) := by decide +kernel
theorem dX11_parts_10 : decode cX11_parts 10 = .ok (.new 96, 3) := by decide +kernel
theorem dX11_parts_13 : decode cX11_parts 13 = .ok (.dup, 1) := by decide +kernel
theorem dX11_parts_14 : decode cX11_parts 14 = .ok (.ldc_w 397, 3) := by decide +kernel
theorem dX11_parts_17 : decode cX11_parts 17 = .ok (.invokespecial 100, 3) := by decide +kernel
theorem dX11_parts_20 : decode cX11_parts 20 = .ok (.athrow, 1) := by decide +kernel
theorem dX11_parts_21 : decode cX11_parts 21 = .ok (.aload_n 2, 1) := by decide +kernel
theorem dX11_parts_22 : decode cX11_parts 22 = .ok (.getfield 413, 3) := by decide +kernel
theorem dX11_parts_25 : decode cX11_parts 25 = .ok (.ireturn, 1) := by decide +kernel
def is_X11_parts (Rt : np_Rt) (Th : np_Th) : List (Nat × np_Op) := [(0, np_ald 1 0), (1, np_ild 1 1), (2, nq_callV 11 2 sp_X11_upgradeOf 2 0 0 1 6), (5, np_ast 1 2), (6, np_ald 1 2), (7, np_ifnonnull 21), (10, nq_throw Th 0), (21, np_ald 1 2), (22, nq_getf 9 6), (25, np_ret Rt)]
set_option maxRecDepth 20000 in
theorem so_X11_parts {X : np_Ctx} {Rt : np_Rt} {Th : np_Th} (hX : np_ok RX11 cX11_parts 3 6 100 1 6 .ireturn X) (hR : ∀ st w ce sl, Rt st w ce sl → X.2.2.1 st w ce sl) (hT : ∀ i w ce sl, Th i w ce sl → X.2.2.2 i w ce sl) : ∀ q ∈ is_X11_parts Rt Th, np_S X q.1 q.2 :=
  List.forall_mem_cons.mpr ⟨np_s_aload_n hX dX11_parts_0 rfl, List.forall_mem_cons.mpr ⟨np_s_iload_n hX dX11_parts_1 rfl, List.forall_mem_cons.mpr ⟨np_S.mono (op := np_callV 11 2 sp_X11_upgradeOf 2 0 0 1 6) (np_s_callV hX C_X11_upgradeOf dX11_parts_2 (q := (RX11, TX11, 14)) rfl rfl gw1469 gw130 gw1466 gw1468 gw46 ⟨by decide, by decide, by decide⟩ (by decide) (by decide)) nq_callV_le, List.forall_mem_cons.mpr ⟨np_s_astore_n hX dX11_parts_5 rfl (by decide), List.forall_mem_cons.mpr ⟨np_s_aload_n hX dX11_parts_6 rfl, List.forall_mem_cons.mpr ⟨np_s_ifnonnull hX dX11_parts_7 (by decide), List.forall_mem_cons.mpr ⟨np_S.mono (op := np_throw X.2.2.2 0) (np_s_throw hX ⟨96, 397, 100, _, gw573, gw146, sw1470, twX11_100, toX11_100_96, Or.inr ⟨dX11_parts_10, dX11_parts_13, dX11_parts_14, dX11_parts_17, dX11_parts_20⟩⟩) (nq_throw_le hT), List.forall_mem_cons.mpr ⟨np_s_aload_n hX dX11_parts_21 rfl, List.forall_mem_cons.mpr ⟨np_S.mono (op := np_getf 9 6) (np_s_getN hX dX11_parts_22 (C := RX9) (T := TX9) (N := 7) rfl guX9 (by decide) gw490) nq_getf_le, List.forall_mem_cons.mpr ⟨np_S.mono (op := np_ret X.2.2.1) (np_s_ret hX dX11_parts_25) (nq_ret_le hR), fun _ h => nomatch h⟩⟩⟩⟩⟩⟩⟩⟩⟩⟩
abbrev sp_X11_parts : np_SpX := nq_inX is_X11_parts (some .int) 1 6 400
theorem C_X11_parts : np_CX yX11_parts cX11_parts 3 (some .int) 6 100 1 6 sp_X11_parts := nq_inCX 400 (by decide) (by decide) (by decide) (fun X Rt Th hX hmn hR hT => so_X11_parts hX hR hT)
theorem dX11_compare_0 : decode cX11_compare 0 = .ok (.aload_n 0, 1) := by decide +kernel
theorem dX11_compare_1 : decode cX11_compare 1 = .ok (.iconst 0, 1) := by decide +kernel
theorem dX11_compare_2 : decode cX11_compare 2 = .ok (.invokevirtual 283, 3) := by decide +kernel
theorem dX11_compare_5 : decode cX11_compare 5 = .ok (.astore_n 2, 1) := by decide +kernel
theorem dX11_compare_6 : decode cX11_compare 6 = .ok (.aload_n 0, 1) := by decide +kernel
theorem dX11_compare_7 : decode cX11_compare 7 = .ok (.iconst 1, 1) := by decide +kernel
theorem dX11_compare_8 : decode cX11_compare 8 = .ok (.invokevirtual 283, 3) := by decide +kernel
theorem dX11_compare_11 : decode cX11_compare 11 = .ok (.astore_n 3, 1) := by decide +kernel
theorem dX11_compare_12 : decode cX11_compare 12 = .ok (.aload_n 2, 1) := by decide +kernel
theorem dX11_compare_13 : decode cX11_compare 13 = .ok (.ifnull 14, 3) := by decide +kernel
theorem dX11_compare_16 : decode cX11_compare 16 = .ok (.aload_n 3, 1) := by decide +kernel
theorem dX11_compare_17 : decode cX11_compare 17 = .ok (.ifnull 10, 3) := by decide +kernel
theorem dX11_compare_20 : decode cX11_compare 20 = .ok (.iload_n 1, 1) := by decide +kernel
theorem dX11_compare_21 : decode cX11_compare 21 = .ok (.invokestatic 93, 3) := by decide +kernel
theorem dX11_compare_24 : decode cX11_compare 24 = .ok (.ifCond .ne 13, 3) := by decide +kernel
theorem dX11_compare_27 : decode cX11_compare 27 = .ok (.new 96, 3) := by decide +kernel
theorem dX11_compare_30 : decode cX11_compare 30 = .ok (.dup, 1) := by decide +kernel
theorem dX11_compare_31 : decode cX11_compare 31 = .ok (.ldc 98, 2) := by decide +kernel
theorem dX11_compare_33 : decode cX11_compare 33 = .ok (.invokespecial 100, 3) := by decide +kernel
theorem dX11_compare_36 : decode cX11_compare 36 = .ok (.athrow, 1) := by decide +kernel
theorem dX11_compare_37 : decode cX11_compare 37 = .ok (.sipush 10000, 3) := by decide +kernel
theorem dX11_compare_40 : decode cX11_compare 40 = .ok (.aload_n 3, 1) := by decide +kernel
theorem dX11_compare_41 : decode cX11_compare 41 = .ok (.aload_n 2, 1) := by decide +kernel
theorem dX11_compare_42 : decode cX11_compare 42 = .ok (.iload_n 1, 1) := by decide +kernel
theorem dX11_compare_43 : decode cX11_compare 43 = .ok (.invokevirtual 414, 3) := by decide +kernel
theorem dX11_compare_46 : decode cX11_compare 46 = .ok (.imul, 1) := by decide +kernel
theorem dX11_compare_47 : decode cX11_compare 47 = .ok (.bipush 100, 2) := by decide +kernel
theorem dX11_compare_49 : decode cX11_compare 49 = .ok (.aload_n 2, 1) := by decide +kernel
theorem dX11_compare_50 : decode cX11_compare 50 = .ok (.aload_n 3, 1) := by decide +kernel
theorem dX11_compare_51 : decode cX11_compare 51 = .ok (.iload_n 1, 1) := by decide +kernel
theorem dX11_compare_52 : decode cX11_compare 52 = .ok (.invokevirtual 414, 3) := by decide +kernel
theorem dX11_compare_55 : decode cX11_compare 55 = .ok (.imul, 1) := by decide +kernel
theorem dX11_compare_56 : decode cX11_compare 56 = .ok (.iadd, 1) := by decide +kernel
theorem dX11_compare_57 : decode cX11_compare 57 = .ok (.aload_n 2, 1) := by decide +kernel
theorem dX11_compare_58 : decode cX11_compare 58 = .ok (.aload_n 3, 1) := by decide +kernel
theorem dX11_compare_59 : decode cX11_compare 59 = .ok (.iload_n 1, 1) := by decide +kernel
theorem dX11_compare_60 : decode cX11_compare 60 = .ok (.invokevirtual 418, 3) := by decide +kernel
theorem dX11_compare_63 : decode cX11_compare 63 = .ok (.iadd, 1) := by decide +kernel
theorem dX11_compare_64 : decode cX11_compare 64 = .ok (.ireturn, 1) := by decide +kernel
def is_X11_compare (Rt : np_Rt) (Th : np_Th) : List (Nat × np_Op) := [(0, np_ald 1 0), (1, np_push 1 (.int 0)), (2, nq_callV 11 2 sp_X11_tableOf 2 0 0 1 6), (5, np_ast 1 2), (6, np_ald 1 0), (7, np_push 1 (.int 1)), (8, nq_callV 11 2 sp_X11_tableOf 2 0 0 1 6), (11, np_ast 1 3), (12, np_ald 1 2), (13, np_ifnull 27), (16, np_ald 1 3), (17, np_ifnull 27), (20, np_ild 1 1), (21, nq_call 1 sp_X11_isSlot 1 0 0 1 6), (24, nq_ifne 37), (27, nq_throw Th 0), (37, np_push 3 (.int 10000)), (40, np_ald 1 3), (41, np_ald 1 2), (42, np_ild 1 1), (43, nq_callV 6 3 sp_X6_keysNotIn 5 0 0 1 6), (46, np_ib (fun x y => x * y)), (47, np_push 2 (.int 100)), (49, np_ald 1 2), (50, np_ald 1 3), (51, np_ild 1 1), (52, nq_callV 6 3 sp_X6_keysNotIn 5 0 0 1 6), (55, np_ib (fun x y => x * y)), (56, np_ib (fun x y => x + y)), (57, np_ald 1 2), (58, np_ald 1 3), (59, np_ild 1 1), (60, nq_callV 6 3 sp_X6_keysThatDiffer 6 0 0 1 6), (63, np_ib (fun x y => x + y)), (64, np_ret Rt)]
set_option maxRecDepth 20000 in
theorem so_X11_compare {X : np_Ctx} {Rt : np_Rt} {Th : np_Th} (hX : np_ok RX11 cX11_compare 4 6 100 1 6 .ireturn X) (hR : ∀ st w ce sl, Rt st w ce sl → X.2.2.1 st w ce sl) (hT : ∀ i w ce sl, Th i w ce sl → X.2.2.2 i w ce sl) : ∀ q ∈ is_X11_compare Rt Th, np_S X q.1 q.2 :=
  List.forall_mem_cons.mpr ⟨np_s_aload_n hX dX11_compare_0 rfl, List.forall_mem_cons.mpr ⟨np_s_iconst hX dX11_compare_1 (by decide), List.forall_mem_cons.mpr ⟨np_S.mono (op := np_callV 11 2 sp_X11_tableOf 2 0 0 1 6) (np_s_callV hX C_X11_tableOf dX11_compare_2 (q := (RX11, TX11, 14)) rfl rfl gw1222 gw130 gw1219 gw1221 gw33 ⟨by decide, by decide, by decide⟩ (by decide) (by decide)) nq_callV_le, List.forall_mem_cons.mpr ⟨np_s_astore_n hX dX11_compare_5 rfl (by decide), List.forall_mem_cons.mpr ⟨np_s_aload_n hX dX11_compare_6 rfl, List.forall_mem_cons.mpr ⟨np_s_iconst hX dX11_compare_7 (by decide), List.forall_mem_cons.mpr ⟨np_S.mono (op := np_callV 11 2 sp_X11_tableOf 2 0 0 1 6) (np_s_callV hX C_X11_tableOf dX11_compare_8 (q := (RX11, TX11, 14)) rfl rfl gw1222 gw130 gw1219 gw1221 gw33 ⟨by decide, by decide, by decide⟩ (by decide) (by decide)) nq_callV_le, List.forall_mem_cons.mpr ⟨np_s_astore_n hX dX11_compare_11 rfl (by decide), List.forall_mem_cons.mpr ⟨np_s_aload_n hX dX11_compare_12 rfl, List.forall_mem_cons.mpr ⟨np_s_ifnull hX dX11_compare_13 (by decide), List.forall_mem_cons.mpr ⟨np_s_aload_n hX dX11_compare_16 rfl, List.forall_mem_cons.mpr ⟨np_s_ifnull hX dX11_compare_17 (by decide), List.forall_mem_cons.mpr ⟨np_s_iload_n hX dX11_compare_20 rfl, List.forall_mem_cons.mpr ⟨np_S.mono (op := np_call 1 sp_X11_isSlot 1 0 0 1 6) (np_s_callS hX C_X11_isSlot dX11_compare_21 gw572 gw130 gw570 gw571 ⟨by decide, by decide, by decide⟩ (by decide) (by decide)) nq_call_le, List.forall_mem_cons.mpr ⟨np_S.mono (op := np_ifne 37) (np_s_if_ne hX dX11_compare_24 (by decide)) nq_ifne_le, List.forall_mem_cons.mpr ⟨np_S.mono (op := np_throw X.2.2.2 0) (np_s_throw hX ⟨96, 98, 100, _, gw573, gw146, sw614, twX11_100, toX11_100_96, Or.inl ⟨dX11_compare_27, dX11_compare_30, dX11_compare_31, dX11_compare_33, dX11_compare_36⟩⟩) (nq_throw_le hT), List.forall_mem_cons.mpr ⟨np_s_sipush hX dX11_compare_37 (by decide), List.forall_mem_cons.mpr ⟨np_s_aload_n hX dX11_compare_40 rfl, List.forall_mem_cons.mpr ⟨np_s_aload_n hX dX11_compare_41 rfl, List.forall_mem_cons.mpr ⟨np_s_iload_n hX dX11_compare_42 rfl, List.forall_mem_cons.mpr ⟨np_S.mono (op := np_callV 6 3 sp_X6_keysNotIn 5 0 0 1 6) (np_s_callV hX C_X6_keysNotIn dX11_compare_43 (q := (RX6, TX6, 12)) rfl rfl gw1586 gw139 gw1583 gw1584 gw1585 ⟨by decide, by decide, by decide⟩ (by decide) (by decide)) nq_callV_le, List.forall_mem_cons.mpr ⟨np_s_imul hX dX11_compare_46, List.forall_mem_cons.mpr ⟨np_s_bipush hX dX11_compare_47 (by decide), List.forall_mem_cons.mpr ⟨np_s_aload_n hX dX11_compare_49 rfl, List.forall_mem_cons.mpr ⟨np_s_aload_n hX dX11_compare_50 rfl, List.forall_mem_cons.mpr ⟨np_s_iload_n hX dX11_compare_51 rfl, List.forall_mem_cons.mpr ⟨np_S.mono (op := np_callV 6 3 sp_X6_keysNotIn 5 0 0 1 6) (np_s_callV hX C_X6_keysNotIn dX11_compare_52 (q := (RX6, TX6, 12)) rfl rfl gw1586 gw139 gw1583 gw1584 gw1585 ⟨by decide, by decide, by decide⟩ (by decide) (by decide)) nq_callV_le, List.forall_mem_cons.mpr ⟨np_s_imul hX dX11_compare_55, List.forall_mem_cons.mpr ⟨np_s_iadd hX dX11_compare_56, List.forall_mem_cons.mpr ⟨np_s_aload_n hX dX11_compare_57 rfl, List.forall_mem_cons.mpr ⟨np_s_aload_n hX dX11_compare_58 rfl, List.forall_mem_cons.mpr ⟨np_s_iload_n hX dX11_compare_59 rfl, List.forall_mem_cons.mpr ⟨np_S.mono (op := np_callV 6 3 sp_X6_keysThatDiffer 6 0 0 1 6) (np_s_callV hX C_X6_keysThatDiffer dX11_compare_60 (q := (RX6, TX6, 12)) rfl rfl gw1598 gw139 gw1595 gw1596 gw1597 ⟨by decide, by decide, by decide⟩ (by decide) (by decide)) nq_callV_le, List.forall_mem_cons.mpr ⟨np_s_iadd hX dX11_compare_63, List.forall_mem_cons.mpr ⟨np_S.mono (op := np_ret X.2.2.1) (np_s_ret hX dX11_compare_64) (nq_ret_le hR), fun _ h => nomatch h⟩⟩⟩⟩⟩⟩⟩⟩⟩⟩⟩⟩⟩⟩⟩⟩⟩⟩⟩⟩⟩⟩⟩⟩⟩⟩⟩⟩⟩⟩⟩⟩⟩⟩⟩
abbrev sp_X11_compare : np_SpX := nq_inX is_X11_compare (some .int) 1 6 400
theorem C_X11_compare : np_CX yX11_compare cX11_compare 4 (some .int) 6 100 1 6 sp_X11_compare := nq_inCX 400 (by decide) (by decide) (by decide) (fun X Rt Th hX hmn hR hT => so_X11_compare hX hR hT)
theorem dX11_find_0 : decode cX11_find 0 = .ok (.aload_n 0, 1) := by decide +kernel
theorem dX11_find_1 : decode cX11_find 1 = .ok (.iload_n 1, 1) := by decide +kernel
theorem dX11_find_2 : decode cX11_find 2 = .ok (.invokevirtual 283, 3) := by decide +kernel
theorem dX11_find_5 : decode cX11_find 5 = .ok (.astore 5, 2) := by decide +kernel
theorem dX11_find_7 : decode cX11_find 7 = .ok (.aload 5, 2) := by decide +kernel
theorem dX11_find_9 : decode cX11_find 9 = .ok (.ifnull 10, 3) := by decide +kernel
theorem dX11_find_12 : decode cX11_find 12 = .ok (.iload_n 2, 1) := by decide +kernel
theorem dX11_find_13 : decode cX11_find 13 = .ok (.invokestatic 93, 3) := by decide +kernel
theorem dX11_find_16 : decode cX11_find 16 = .ok (.ifCond .ne 14, 3) := by decide +kernel
theorem dX11_find_19 : decode cX11_find 19 = .ok (.new 96, 3) := by decide +kernel
theorem dX11_find_22 : decode cX11_find 22 = .ok (.dup, 1) := by decide +kernel
theorem dX11_find_23 : decode cX11_find 23 = .ok (.ldc_w 342, 3) := by decide +kernel
theorem dX11_find_26 : decode cX11_find 26 = .ok (.invokespecial 100, 3) := by decide +kernel
theorem dX11_find_29 : decode cX11_find 29 = .ok (.athrow, 1) := by decide +kernel
theorem dX11_find_30 : decode cX11_find 30 = .ok (.iload 4, 2) := by decide +kernel
theorem dX11_find_32 : decode cX11_find 32 = .ok (.ifCond .ge 14, 3) := by decide +kernel
theorem dX11_find_35 : decode cX11_find 35 = .ok (.new 96, 3) := by decide +kernel
theorem dX11_find_38 : decode cX11_find 38 = .ok (.dup, 1) := by decide +kernel
theorem dX11_find_39 : decode cX11_find 39 = .ok (.ldc_w 421, 3) := by decide +kernel
theorem dX11_find_42 : decode cX11_find 42 = .ok (.invokespecial 100, 3) := by decide +kernel
theorem dX11_find_45 : decode cX11_find 45 = .ok (.athrow, 1) := by decide +kernel
theorem dX11_find_46 : decode cX11_find 46 = .ok (.aload 5, 2) := by decide +kernel
theorem dX11_find_48 : decode cX11_find 48 = .ok (.iload_n 2, 1) := by decide +kernel
theorem dX11_find_49 : decode cX11_find 49 = .ok (.iload_n 3, 1) := by decide +kernel
theorem dX11_find_50 : decode cX11_find 50 = .ok (.iload 4, 2) := by decide +kernel
theorem dX11_find_52 : decode cX11_find 52 = .ok (.invokevirtual 423, 3) := by decide +kernel
theorem dX11_find_55 : decode cX11_find 55 = .ok (.ireturn, 1) := by decide +kernel
def is_X11_find (Rt : np_Rt) (Th : np_Th) : List (Nat × np_Op) := [(0, np_ald 1 0), (1, np_ild 1 1), (2, nq_callV 11 2 sp_X11_tableOf 2 0 0 1 6), (5, np_ast 2 5), (7, np_ald 2 5), (9, np_ifnull 19), (12, np_ild 1 2), (13, nq_call 1 sp_X11_isSlot 1 0 0 1 6), (16, nq_ifne 30), (19, nq_throw Th 0), (30, np_ild 2 4), (32, nq_if (fun x => 0 ≤ x) 46), (35, nq_throw Th 0), (46, np_ald 2 5), (48, np_ild 1 2), (49, np_ild 1 3), (50, np_ild 2 4), (52, nq_callV 6 4 sp_X6_rowByIndex 7 0 0 1 6), (55, np_ret Rt)]
set_option maxRecDepth 20000 in
theorem so_X11_find {X : np_Ctx} {Rt : np_Rt} {Th : np_Th} (hX : np_ok RX11 cX11_find 6 6 100 1 6 .ireturn X) (hR : ∀ st w ce sl, Rt st w ce sl → X.2.2.1 st w ce sl) (hT : ∀ i w ce sl, Th i w ce sl → X.2.2.2 i w ce sl) : ∀ q ∈ is_X11_find Rt Th, np_S X q.1 q.2 :=
  List.forall_mem_cons.mpr ⟨np_s_aload_n hX dX11_find_0 rfl, List.forall_mem_cons.mpr ⟨np_s_iload_n hX dX11_find_1 rfl, List.forall_mem_cons.mpr ⟨np_S.mono (op := np_callV 11 2 sp_X11_tableOf 2 0 0 1 6) (np_s_callV hX C_X11_tableOf dX11_find_2 (q := (RX11, TX11, 14)) rfl rfl gw1222 gw130 gw1219 gw1221 gw33 ⟨by decide, by decide, by decide⟩ (by decide) (by decide)) nq_callV_le, List.forall_mem_cons.mpr ⟨np_s_astore hX dX11_find_5 (by decide), List.forall_mem_cons.mpr ⟨np_s_aload hX dX11_find_7, List.forall_mem_cons.mpr ⟨np_s_ifnull hX dX11_find_9 (by decide), List.forall_mem_cons.mpr ⟨np_s_iload_n hX dX11_find_12 rfl, List.forall_mem_cons.mpr ⟨np_S.mono (op := np_call 1 sp_X11_isSlot 1 0 0 1 6) (np_s_callS hX C_X11_isSlot dX11_find_13 gw572 gw130 gw570 gw571 ⟨by decide, by decide, by decide⟩ (by decide) (by decide)) nq_call_le, List.forall_mem_cons.mpr ⟨np_S.mono (op := np_ifne 30) (np_s_if_ne hX dX11_find_16 (by decide)) nq_ifne_le, List.forall_mem_cons.mpr ⟨np_S.mono (op := np_throw X.2.2.2 0) (np_s_throw hX ⟨96, 342, 100, _, gw573, gw146, sw1328, twX11_100, toX11_100_96, Or.inr ⟨dX11_find_19, dX11_find_22, dX11_find_23, dX11_find_26, dX11_find_29⟩⟩) (nq_throw_le hT), List.forall_mem_cons.mpr ⟨np_s_iload hX dX11_find_30, List.forall_mem_cons.mpr ⟨np_S.mono (op := np_if (fun x => 0 ≤ x) 46) (np_s_if_ge hX dX11_find_32 (by decide)) nq_if_le, List.forall_mem_cons.mpr ⟨np_S.mono (op := np_throw X.2.2.2 0) (np_s_throw hX ⟨96, 421, 100, _, gw573, gw146, sw1610, twX11_100, toX11_100_96, Or.inr ⟨dX11_find_35, dX11_find_38, dX11_find_39, dX11_find_42, dX11_find_45⟩⟩) (nq_throw_le hT), List.forall_mem_cons.mpr ⟨np_s_aload hX dX11_find_46, List.forall_mem_cons.mpr ⟨np_s_iload_n hX dX11_find_48 rfl, List.forall_mem_cons.mpr ⟨np_s_iload_n hX dX11_find_49 rfl, List.forall_mem_cons.mpr ⟨np_s_iload hX dX11_find_50, List.forall_mem_cons.mpr ⟨np_S.mono (op := np_callV 6 4 sp_X6_rowByIndex 7 0 0 1 6) (np_s_callV hX C_X6_rowByIndex dX11_find_52 (q := (RX6, TX6, 12)) rfl rfl gw1614 gw139 gw1611 gw1612 gw1613 ⟨by decide, by decide, by decide⟩ (by decide) (by decide)) nq_callV_le, List.forall_mem_cons.mpr ⟨np_S.mono (op := np_ret X.2.2.1) (np_s_ret hX dX11_find_55) (nq_ret_le hR), fun _ h => nomatch h⟩⟩⟩⟩⟩⟩⟩⟩⟩⟩⟩⟩⟩⟩⟩⟩⟩⟩⟩
abbrev sp_X11_find : np_SpX := nq_inX is_X11_find (some .int) 1 6 400
theorem C_X11_find : np_CX yX11_find cX11_find 6 (some .int) 6 100 1 6 sp_X11_find := nq_inCX 400 (by decide) (by decide) (by decide) (fun X Rt Th hX hmn hR hT => so_X11_find hX hR hT)
theorem dX11_findAnew_0 : decode cX11_findAnew 0 = .ok (.aload_n 0, 1) := by decide +kernel
theorem dX11_findAnew_1 : decode cX11_findAnew 1 = .ok (.iload_n 1, 1) := by decide +kernel
theorem dX11_findAnew_2 : decode cX11_findAnew 2 = .ok (.invokevirtual 283, 3) := by decide +kernel
theorem dX11_findAnew_5 : decode cX11_findAnew 5 = .ok (.astore 5, 2) := by decide +kernel
theorem dX11_findAnew_7 : decode cX11_findAnew 7 = .ok (.aload 5, 2) := by decide +kernel
theorem dX11_findAnew_9 : decode cX11_findAnew 9 = .ok (.ifnull 10, 3) := by decide +kernel
theorem dX11_findAnew_12 : decode cX11_findAnew 12 = .ok (.iload_n 2, 1) := by decide +kernel
theorem dX11_findAnew_13 : decode cX11_findAnew 13 = .ok (.invokestatic 93, 3) := by decide +kernel
theorem dX11_findAnew_16 : decode cX11_findAnew 16 = .ok (.ifCond .ne 14, 3) := by decide +kernel
theorem dX11_findAnew_19 : decode cX11_findAnew 19 = .ok (.new 96, 3) := by decide +kernel
theorem dX11_findAnew_22 : decode cX11_findAnew 22 = .ok (.dup, 1) := by decide +kernel
theorem dX11_findAnew_23 : decode cX11_findAnew 23 = .ok (.ldc_w 342, 3) := by decide +kernel
theorem dX11_findAnew_26 : decode cX11_findAnew 26 = .ok (.invokespecial 100, 3) := by decide +kernel
theorem dX11_findAnew_29 : decode cX11_findAnew 29 = .ok (.athrow, 1) := by decide +kernel
theorem dX11_findAnew_30 : decode cX11_findAnew 30 = .ok (.iload 4, 2) := by decide +kernel
theorem dX11_findAnew_32 : decode cX11_findAnew 32 = .ok (.ifCond .ge 14, 3) := by decide +kernel
theorem dX11_findAnew_35 : decode cX11_findAnew 35 = .ok (.new 96, 3) := by decide +kernel
theorem dX11_findAnew_38 : decode cX11_findAnew 38 = .ok (.dup, 1) := by decide +kernel
theorem dX11_findAnew_39 : decode cX11_findAnew 39 = .ok (.ldc_w 421, 3) := by decide +kernel
theorem dX11_findAnew_42 : decode cX11_findAnew 42 = .ok (.invokespecial 100, 3) := by decide +kernel
theorem dX11_findAnew_45 : decode cX11_findAnew 45 = .ok (.athrow, 1) := by decide +kernel
theorem dX11_findAnew_46 : decode cX11_findAnew 46 = .ok (.aload 5, 2) := by decide +kernel
theorem dX11_findAnew_48 : decode cX11_findAnew 48 = .ok (.iload_n 2, 1) := by decide +kernel
theorem dX11_findAnew_49 : decode cX11_findAnew 49 = .ok (.iload_n 3, 1) := by decide +kernel
theorem dX11_findAnew_50 : decode cX11_findAnew 50 = .ok (.iload 4, 2) := by decide +kernel
theorem dX11_findAnew_52 : decode cX11_findAnew 52 = .ok (.invokevirtual 427, 3) := by decide +kernel
theorem dX11_findAnew_55 : decode cX11_findAnew 55 = .ok (.ireturn, 1) := by decide +kernel
def is_X11_findAnew (Rt : np_Rt) (Th : np_Th) : List (Nat × np_Op) := [(0, np_ald 1 0), (1, np_ild 1 1), (2, nq_callV 11 2 sp_X11_tableOf 2 0 0 1 6), (5, np_ast 2 5), (7, np_ald 2 5), (9, np_ifnull 19), (12, np_ild 1 2), (13, nq_call 1 sp_X11_isSlot 1 0 0 1 6), (16, nq_ifne 30), (19, nq_throw Th 0), (30, np_ild 2 4), (32, nq_if (fun x => 0 ≤ x) 46), (35, nq_throw Th 0), (46, np_ald 2 5), (48, np_ild 1 2), (49, np_ild 1 3), (50, np_ild 2 4), (52, nq_callV 6 4 sp_X6_rowByLooking 6 0 0 1 6), (55, np_ret Rt)]
set_option maxRecDepth 20000 in
theorem so_X11_findAnew {X : np_Ctx} {Rt : np_Rt} {Th : np_Th} (hX : np_ok RX11 cX11_findAnew 6 6 100 1 6 .ireturn X) (hR : ∀ st w ce sl, Rt st w ce sl → X.2.2.1 st w ce sl) (hT : ∀ i w ce sl, Th i w ce sl → X.2.2.2 i w ce sl) : ∀ q ∈ is_X11_findAnew Rt Th, np_S X q.1 q.2 :=
  List.forall_mem_cons.mpr ⟨np_s_aload_n hX dX11_findAnew_0 rfl, List.forall_mem_cons.mpr ⟨np_s_iload_n hX dX11_findAnew_1 rfl, List.forall_mem_cons.mpr ⟨np_S.mono (op := np_callV 11 2 sp_X11_tableOf 2 0 0 1 6) (np_s_callV hX C_X11_tableOf dX11_findAnew_2 (q := (RX11, TX11, 14)) rfl rfl gw1222 gw130 gw1219 gw1221 gw33 ⟨by decide, by decide, by decide⟩ (by decide) (by decide)) nq_callV_le, List.forall_mem_cons.mpr ⟨np_s_astore hX dX11_findAnew_5 (by decide), List.forall_mem_cons.mpr ⟨np_s_aload hX dX11_findAnew_7, List.forall_mem_cons.mpr ⟨np_s_ifnull hX dX11_findAnew_9 (by decide), List.forall_mem_cons.mpr ⟨np_s_iload_n hX dX11_findAnew_12 rfl, List.forall_mem_cons.mpr ⟨np_S.mono (op := np_call 1 sp_X11_isSlot 1 0 0 1 6) (np_s_callS hX C_X11_isSlot dX11_findAnew_13 gw572 gw130 gw570 gw571 ⟨by decide, by decide, by decide⟩ (by decide) (by decide)) nq_call_le, List.forall_mem_cons.mpr ⟨np_S.mono (op := np_ifne 30) (np_s_if_ne hX dX11_findAnew_16 (by decide)) nq_ifne_le, List.forall_mem_cons.mpr ⟨np_S.mono (op := np_throw X.2.2.2 0) (np_s_throw hX ⟨96, 342, 100, _, gw573, gw146, sw1328, twX11_100, toX11_100_96, Or.inr ⟨dX11_findAnew_19, dX11_findAnew_22, dX11_findAnew_23, dX11_findAnew_26, dX11_findAnew_29⟩⟩) (nq_throw_le hT), List.forall_mem_cons.mpr ⟨np_s_iload hX dX11_findAnew_30, List.forall_mem_cons.mpr ⟨np_S.mono (op := np_if (fun x => 0 ≤ x) 46) (np_s_if_ge hX dX11_findAnew_32 (by decide)) nq_if_le, List.forall_mem_cons.mpr ⟨np_S.mono (op := np_throw X.2.2.2 0) (np_s_throw hX ⟨96, 421, 100, _, gw573, gw146, sw1610, twX11_100, toX11_100_96, Or.inr ⟨dX11_findAnew_35, dX11_findAnew_38, dX11_findAnew_39, dX11_findAnew_42, dX11_findAnew_45⟩⟩) (nq_throw_le hT), List.forall_mem_cons.mpr ⟨np_s_aload hX dX11_findAnew_46, List.forall_mem_cons.mpr ⟨np_s_iload_n hX dX11_findAnew_48 rfl, List.forall_mem_cons.mpr ⟨np_s_iload_n hX dX11_findAnew_49 rfl, List.forall_mem_cons.mpr ⟨np_s_iload hX dX11_findAnew_50, List.forall_mem_cons.mpr ⟨np_S.mono (op := np_callV 6 4 sp_X6_rowByLooking 6 0 0 1 6) (np_s_callV hX C_X6_rowByLooking dX11_findAnew_52 (q := (RX6, TX6, 12)) rfl rfl gw1625 gw139 gw1622 gw1623 gw1624 ⟨by decide, by decide, by decide⟩ (by decide) (by decide)) nq_callV_le, List.forall_mem_cons.mpr ⟨np_S.mono (op := np_ret X.2.2.1) (np_s_ret hX dX11_findAnew_55) (nq_ret_le hR), fun _ h => nomatch h⟩⟩⟩⟩⟩⟩⟩⟩⟩⟩⟩⟩⟩⟩⟩⟩⟩⟩⟩
abbrev sp_X11_findAnew : np_SpX := nq_inX is_X11_findAnew (some .int) 1 6 400
theorem C_X11_findAnew : np_CX yX11_findAnew cX11_findAnew 6 (some .int) 6 100 1 6 sp_X11_findAnew := nq_inCX 400 (by decide) (by decide) (by decide) (fun X Rt Th hX hmn hR hT => so_X11_findAnew hX hR hT)
