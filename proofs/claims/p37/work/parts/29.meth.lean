theorem gw3 : (Jvm.Cond.selects "NotationPress" ({ cls := "NotationPress", name := "descriptionOf", desc := "(I)LNotationPress$Description;" } : Jvm.MethodName) ({ cls := "NotationPress", name := "descriptionOf", desc := "(I)LNotationPress$Description;" } : Jvm.MethodName)) ∈ np_gw := np_gwi 3 (by decide +kernel) rfl
theorem gw78 : (Jvm.Cond.initialized "java/lang/IndexOutOfBoundsException") ∈ np_gw := np_gwi 78 (by decide +kernel) rfl
theorem gw79 : (Jvm.Cond.initialized "java/lang/IllegalArgumentException") ∈ np_gw := np_gwi 79 (by decide +kernel) rfl
theorem gw80 : (Jvm.Cond.initialized "java/lang/IllegalStateException") ∈ np_gw := np_gwi 80 (by decide +kernel) rfl
theorem gw104 : (Jvm.Cond.fieldLinkNest "NotationPress" (125 : Nat) "NotationPress$Items" "count" "I" "NotationPress") ∈ np_nw := np_nwi 104 (by decide +kernel) rfl
theorem gw290 : (Jvm.Cond.methodLinkNest "NotationPress$UpgradeDraft" (21 : Nat) ({ cls := "NotationPress", name := "fillAll", desc := "([II)V" } : Jvm.MethodName) "NotationPress") ∈ np_nw := np_nwi 290 (by decide +kernel) rfl
theorem gw291 : (Jvm.Cond.fieldLink "NotationPress$UpgradeDraft" (9 : Nat) "NotationPress$UpgradeDraft" "kinds" "[I") ∈ np_gw := np_gwi 291 (by decide +kernel) rfl
theorem gw293 : (Jvm.Cond.fieldLink "NotationPress$UpgradeDraft" (15 : Nat) "NotationPress$UpgradeDraft" "firsts" "[I") ∈ np_gw := np_gwi 293 (by decide +kernel) rfl
theorem gw295 : (Jvm.Cond.fieldLink "NotationPress$UpgradeDraft" (18 : Nat) "NotationPress$UpgradeDraft" "seconds" "[I") ∈ np_gw := np_gwi 295 (by decide +kernel) rfl
theorem gw315 : (Jvm.Cond.fieldLinkNest "NotationPress" (140 : Nat) "NotationPress$Description" "items" "LNotationPress$Items;" "NotationPress") ∈ np_nw := np_nwi 315 (by decide +kernel) rfl
theorem gw322 : (Jvm.Cond.fieldLinkNest "NotationPress" (171 : Nat) "NotationPress$Description" "count" "I" "NotationPress") ∈ np_nw := np_nwi 322 (by decide +kernel) rfl
theorem gw421 : (Jvm.Cond.fieldLink "NotationPress$Upgrade" (21 : Nat) "NotationPress$Upgrade" "stack" "[I") ∈ np_gw := np_gwi 421 (by decide +kernel) rfl
theorem gw441 : (Jvm.Cond.fieldLink "NotationPress" (14 : Nat) "NotationPress" "draft" "LNotationPress$Items;") ∈ np_gw := np_gwi 441 (by decide +kernel) rfl
theorem gw442 : (Jvm.Cond.fieldLink "NotationPress" (20 : Nat) "NotationPress" "descriptions" "[LNotationPress$Description;") ∈ np_gw := np_gwi 442 (by decide +kernel) rfl
theorem gw443 : (Jvm.Cond.fieldLink "NotationPress" (132 : Nat) "NotationPress" "descriptionCount" "I") ∈ np_gw := np_gwi 443 (by decide +kernel) rfl
theorem gw455 : (Jvm.Cond.laysFinal "NotationPress" "NotationPress" "draft" "LNotationPress$Items;") ∈ np_gw := np_gwi 455 (by decide +kernel) rfl
theorem gw457 : (Jvm.Cond.laysFinal "NotationPress" "NotationPress" "descriptions" "[LNotationPress$Description;") ∈ np_gw := np_gwi 457 (by decide +kernel) rfl
theorem gw459 : (Jvm.Cond.lays "NotationPress" "NotationPress" "descriptionCount" "I") ∈ np_gw := np_gwi 459 (by decide +kernel) rfl
theorem gw461 : (Jvm.Cond.laysFinal "NotationPress" "NotationPress" "record" "[I") ∈ np_gw := np_gwi 461 (by decide +kernel) rfl
theorem gw463 : (Jvm.Cond.laysFinal "NotationPress" "NotationPress" "files" "[LNotationPress$Text;") ∈ np_gw := np_gwi 463 (by decide +kernel) rfl
theorem gw465 : (Jvm.Cond.laysFinal "NotationPress" "NotationPress" "tables" "[LNotationPress$Table;") ∈ np_gw := np_gwi 465 (by decide +kernel) rfl
theorem gw467 : (Jvm.Cond.laysFinal "NotationPress" "NotationPress" "printer" "LNotationPress$Printer;") ∈ np_gw := np_gwi 467 (by decide +kernel) rfl
theorem gw469 : (Jvm.Cond.laysFinal "NotationPress" "NotationPress" "reader" "LNotationPress$Reader;") ∈ np_gw := np_gwi 469 (by decide +kernel) rfl
theorem gw471 : (Jvm.Cond.laysFinal "NotationPress" "NotationPress" "sampler" "LNotationPress$Sampler;") ∈ np_gw := np_gwi 471 (by decide +kernel) rfl
theorem gw473 : (Jvm.Cond.laysFinal "NotationPress" "NotationPress" "columns" "[LNotationPress$Column;") ∈ np_gw := np_gwi 473 (by decide +kernel) rfl
theorem gw475 : (Jvm.Cond.lays "NotationPress" "NotationPress" "columnCount" "I") ∈ np_gw := np_gwi 475 (by decide +kernel) rfl
theorem gw477 : (Jvm.Cond.laysFinal "NotationPress" "NotationPress" "upgradeDraft" "LNotationPress$UpgradeDraft;") ∈ np_gw := np_gwi 477 (by decide +kernel) rfl
theorem gw479 : (Jvm.Cond.laysFinal "NotationPress" "NotationPress" "upgrades" "[LNotationPress$Upgrade;") ∈ np_gw := np_gwi 479 (by decide +kernel) rfl
theorem gw481 : (Jvm.Cond.lays "NotationPress" "NotationPress" "upgradeCount" "I") ∈ np_gw := np_gwi 481 (by decide +kernel) rfl
theorem gw498 : (Jvm.Cond.methodLink "NotationPress" (129 : Nat) ({ cls := "NotationPress$Items", name := "clear", desc := "()V" } : Jvm.MethodName)) ∈ np_gw := np_gwi 498 (by decide +kernel) rfl
theorem gw510 : (Jvm.Cond.methodLink "NotationPress" (89 : Nat) ({ cls := "NotationPress$Items", name := "tellsSlot", desc := "(I)Z" } : Jvm.MethodName)) ∈ np_gw := np_gwi 510 (by decide +kernel) rfl
theorem gw511 : (Jvm.Cond.static ({ cls := "NotationPress$Items", name := "tellsSlot", desc := "(I)Z" } : Jvm.MethodName)) ∈ np_gw := np_gwi 511 (by decide +kernel) rfl
theorem gw512 : (Jvm.Cond.code ({ cls := "NotationPress$Items", name := "tellsSlot", desc := "(I)Z" } : Jvm.MethodName) prog_4_method_2_code (1 : Nat) (Option.some Jvm.ClassFile.FieldType.boolean)) ∈ np_gw := np_gwi 512 (by decide +kernel) rfl
theorem gw516 : (Jvm.Cond.classLink "NotationPress" (96 : Nat) "java/lang/IndexOutOfBoundsException") ∈ np_gw := np_gwi 516 (by decide +kernel) rfl
theorem gw584 : (Jvm.Cond.methodLink "NotationPress" (103 : Nat) ({ cls := "NotationPress$Items", name := "inRange", desc := "(IIII)Z" } : Jvm.MethodName)) ∈ np_gw := np_gwi 584 (by decide +kernel) rfl
theorem gw585 : (Jvm.Cond.static ({ cls := "NotationPress$Items", name := "inRange", desc := "(IIII)Z" } : Jvm.MethodName)) ∈ np_gw := np_gwi 585 (by decide +kernel) rfl
theorem gw586 : (Jvm.Cond.code ({ cls := "NotationPress$Items", name := "inRange", desc := "(IIII)Z" } : Jvm.MethodName) prog_4_method_3_code (4 : Nat) (Option.some Jvm.ClassFile.FieldType.boolean)) ∈ np_gw := np_gwi 586 (by decide +kernel) rfl
theorem gw590 : (Jvm.Cond.classLink "NotationPress" (107 : Nat) "java/lang/IllegalArgumentException") ∈ np_gw := np_gwi 590 (by decide +kernel) rfl
theorem gw606 : (Jvm.Cond.methodLink "NotationPress" (112 : Nat) ({ cls := "NotationPress$Items", name := "isFull", desc := "()Z" } : Jvm.MethodName)) ∈ np_gw := np_gwi 606 (by decide +kernel) rfl
theorem gw607 : (Jvm.Cond.instanceMethod ({ cls := "NotationPress$Items", name := "isFull", desc := "()Z" } : Jvm.MethodName)) ∈ np_gw := np_gwi 607 (by decide +kernel) rfl
theorem gw608 : (Jvm.Cond.selects "NotationPress$Items" ({ cls := "NotationPress$Items", name := "isFull", desc := "()Z" } : Jvm.MethodName) ({ cls := "NotationPress$Items", name := "isFull", desc := "()Z" } : Jvm.MethodName)) ∈ np_gw := np_gwi 608 (by decide +kernel) rfl
theorem gw609 : (Jvm.Cond.code ({ cls := "NotationPress$Items", name := "isFull", desc := "()Z" } : Jvm.MethodName) prog_4_method_4_code (1 : Nat) (Option.some Jvm.ClassFile.FieldType.boolean)) ∈ np_gw := np_gwi 609 (by decide +kernel) rfl
theorem gw610 : (Jvm.Cond.classLink "NotationPress" (116 : Nat) "java/lang/IllegalStateException") ∈ np_gw := np_gwi 610 (by decide +kernel) rfl
theorem gw626 : (Jvm.Cond.methodLink "NotationPress" (121 : Nat) ({ cls := "NotationPress$Items", name := "add", desc := "(IIII)V" } : Jvm.MethodName)) ∈ np_gw := np_gwi 626 (by decide +kernel) rfl
theorem gw639 : (Jvm.Cond.methodLink "NotationPress" (137 : Nat) ({ cls := "NotationPress$Items", name := "isDescription", desc := "()Z" } : Jvm.MethodName)) ∈ np_gw := np_gwi 639 (by decide +kernel) rfl
theorem gw640 : (Jvm.Cond.instanceMethod ({ cls := "NotationPress$Items", name := "isDescription", desc := "()Z" } : Jvm.MethodName)) ∈ np_gw := np_gwi 640 (by decide +kernel) rfl
theorem gw641 : (Jvm.Cond.selects "NotationPress$Items" ({ cls := "NotationPress$Items", name := "isDescription", desc := "()Z" } : Jvm.MethodName) ({ cls := "NotationPress$Items", name := "isDescription", desc := "()Z" } : Jvm.MethodName)) ∈ np_gw := np_gwi 641 (by decide +kernel) rfl
theorem gw642 : (Jvm.Cond.code ({ cls := "NotationPress$Items", name := "isDescription", desc := "()Z" } : Jvm.MethodName) prog_4_method_16_code (2 : Nat) (Option.some Jvm.ClassFile.FieldType.boolean)) ∈ np_gw := np_gwi 642 (by decide +kernel) rfl
theorem gw682 : (Jvm.Cond.methodLink "NotationPress" (143 : Nat) ({ cls := "NotationPress$Items", name := "copyFrom", desc := "(LNotationPress$Items;)V" } : Jvm.MethodName)) ∈ np_gw := np_gwi 682 (by decide +kernel) rfl
theorem gw683 : (Jvm.Cond.instanceMethod ({ cls := "NotationPress$Items", name := "copyFrom", desc := "(LNotationPress$Items;)V" } : Jvm.MethodName)) ∈ np_gw := np_gwi 683 (by decide +kernel) rfl
theorem gw684 : (Jvm.Cond.selects "NotationPress$Items" ({ cls := "NotationPress$Items", name := "copyFrom", desc := "(LNotationPress$Items;)V" } : Jvm.MethodName) ({ cls := "NotationPress$Items", name := "copyFrom", desc := "(LNotationPress$Items;)V" } : Jvm.MethodName)) ∈ np_gw := np_gwi 684 (by decide +kernel) rfl
theorem gw685 : (Jvm.Cond.code ({ cls := "NotationPress$Items", name := "copyFrom", desc := "(LNotationPress$Items;)V" } : Jvm.MethodName) prog_4_method_7_code (3 : Nat) (Option.none : Option Jvm.ClassFile.FieldType)) ∈ np_gw := np_gwi 685 (by decide +kernel) rfl
theorem gw696 : (Jvm.Cond.methodLink "NotationPress" (147 : Nat) ({ cls := "NotationPress", name := "descriptionOf", desc := "(I)LNotationPress$Description;" } : Jvm.MethodName)) ∈ np_gw := np_gwi 696 (by decide +kernel) rfl
theorem gw698 : (Jvm.Cond.instanceMethod ({ cls := "NotationPress", name := "descriptionOf", desc := "(I)LNotationPress$Description;" } : Jvm.MethodName)) ∈ np_gw := np_gwi 698 (by decide +kernel) rfl
theorem gw699 : (Jvm.Cond.code ({ cls := "NotationPress", name := "descriptionOf", desc := "(I)LNotationPress$Description;" } : Jvm.MethodName) prog_1_method_36_code (3 : Nat) (Option.some (Jvm.ClassFile.FieldType.object "NotationPress$Description"))) ∈ np_gw := np_gwi 699 (by decide +kernel) rfl
theorem gw701 : (Jvm.Cond.methodLink "NotationPress" (153 : Nat) ({ cls := "NotationPress$Items", name := "firstUnsure", desc := "()I" } : Jvm.MethodName)) ∈ np_gw := np_gwi 701 (by decide +kernel) rfl
theorem gw702 : (Jvm.Cond.instanceMethod ({ cls := "NotationPress$Items", name := "firstUnsure", desc := "()I" } : Jvm.MethodName)) ∈ np_gw := np_gwi 702 (by decide +kernel) rfl
theorem gw703 : (Jvm.Cond.selects "NotationPress$Items" ({ cls := "NotationPress$Items", name := "firstUnsure", desc := "()I" } : Jvm.MethodName) ({ cls := "NotationPress$Items", name := "firstUnsure", desc := "()I" } : Jvm.MethodName)) ∈ np_gw := np_gwi 703 (by decide +kernel) rfl
theorem gw704 : (Jvm.Cond.code ({ cls := "NotationPress$Items", name := "firstUnsure", desc := "()I" } : Jvm.MethodName) prog_4_method_19_code (2 : Nat) (Option.some Jvm.ClassFile.FieldType.int)) ∈ np_gw := np_gwi 704 (by decide +kernel) rfl
theorem gw1214 : (Jvm.Cond.methodLink "NotationPress" (157 : Nat) ({ cls := "NotationPress$Description", name := "tellsSlots", desc := "(IIII)Z" } : Jvm.MethodName)) ∈ np_gw := np_gwi 1214 (by decide +kernel) rfl
theorem gw1215 : (Jvm.Cond.static ({ cls := "NotationPress$Description", name := "tellsSlots", desc := "(IIII)Z" } : Jvm.MethodName)) ∈ np_gw := np_gwi 1215 (by decide +kernel) rfl
theorem gw1216 : (Jvm.Cond.code ({ cls := "NotationPress$Description", name := "tellsSlots", desc := "(IIII)Z" } : Jvm.MethodName) prog_3_method_2_code (5 : Nat) (Option.some Jvm.ClassFile.FieldType.boolean)) ∈ np_gw := np_gwi 1216 (by decide +kernel) rfl
theorem gw1217 : (Jvm.Cond.methodLink "NotationPress" (160 : Nat) ({ cls := "NotationPress$Description", name := "allows", desc := "(IIII)Z" } : Jvm.MethodName)) ∈ np_gw := np_gwi 1217 (by decide +kernel) rfl
theorem gw1218 : (Jvm.Cond.instanceMethod ({ cls := "NotationPress$Description", name := "allows", desc := "(IIII)Z" } : Jvm.MethodName)) ∈ np_gw := np_gwi 1218 (by decide +kernel) rfl
theorem gw1219 : (Jvm.Cond.selects "NotationPress$Description" ({ cls := "NotationPress$Description", name := "allows", desc := "(IIII)Z" } : Jvm.MethodName) ({ cls := "NotationPress$Description", name := "allows", desc := "(IIII)Z" } : Jvm.MethodName)) ∈ np_gw := np_gwi 1219 (by decide +kernel) rfl
theorem gw1220 : (Jvm.Cond.code ({ cls := "NotationPress$Description", name := "allows", desc := "(IIII)Z" } : Jvm.MethodName) prog_3_method_3_code (5 : Nat) (Option.some Jvm.ClassFile.FieldType.boolean)) ∈ np_gw := np_gwi 1220 (by decide +kernel) rfl
theorem gw1227 : (Jvm.Cond.methodLink "NotationPress" (165 : Nat) ({ cls := "NotationPress$Description", name := "isFull", desc := "()Z" } : Jvm.MethodName)) ∈ np_gw := np_gwi 1227 (by decide +kernel) rfl
theorem gw1228 : (Jvm.Cond.instanceMethod ({ cls := "NotationPress$Description", name := "isFull", desc := "()Z" } : Jvm.MethodName)) ∈ np_gw := np_gwi 1228 (by decide +kernel) rfl
theorem gw1229 : (Jvm.Cond.selects "NotationPress$Description" ({ cls := "NotationPress$Description", name := "isFull", desc := "()Z" } : Jvm.MethodName) ({ cls := "NotationPress$Description", name := "isFull", desc := "()Z" } : Jvm.MethodName)) ∈ np_gw := np_gwi 1229 (by decide +kernel) rfl
theorem gw1230 : (Jvm.Cond.code ({ cls := "NotationPress$Description", name := "isFull", desc := "()Z" } : Jvm.MethodName) prog_3_method_4_code (1 : Nat) (Option.some Jvm.ClassFile.FieldType.boolean)) ∈ np_gw := np_gwi 1230 (by decide +kernel) rfl
theorem gw1232 : (Jvm.Cond.methodLink "NotationPress" (168 : Nat) ({ cls := "NotationPress$Description", name := "add", desc := "(IIIII)V" } : Jvm.MethodName)) ∈ np_gw := np_gwi 1232 (by decide +kernel) rfl
theorem gw1233 : (Jvm.Cond.instanceMethod ({ cls := "NotationPress$Description", name := "add", desc := "(IIIII)V" } : Jvm.MethodName)) ∈ np_gw := np_gwi 1233 (by decide +kernel) rfl
theorem gw1234 : (Jvm.Cond.selects "NotationPress$Description" ({ cls := "NotationPress$Description", name := "add", desc := "(IIIII)V" } : Jvm.MethodName) ({ cls := "NotationPress$Description", name := "add", desc := "(IIIII)V" } : Jvm.MethodName)) ∈ np_gw := np_gwi 1234 (by decide +kernel) rfl
theorem gw1235 : (Jvm.Cond.code ({ cls := "NotationPress$Description", name := "add", desc := "(IIIII)V" } : Jvm.MethodName) prog_3_method_5_code (6 : Nat) (Option.none : Option Jvm.ClassFile.FieldType)) ∈ np_gw := np_gwi 1235 (by decide +kernel) rfl
theorem gw1294 : (Jvm.Cond.methodLinkNest "NotationPress$UpgradeDraft" (25 : Nat) ({ cls := "NotationPress", name := "isBetween", desc := "(III)Z" } : Jvm.MethodName) "NotationPress") ∈ np_nw := np_nwi 1294 (by decide +kernel) rfl
theorem gw1295 : (Jvm.Cond.methodLinkNest "NotationPress$UpgradeDraft" (29 : Nat) ({ cls := "NotationPress", name := "isSlot", desc := "(I)Z" } : Jvm.MethodName) "NotationPress") ∈ np_nw := np_nwi 1295 (by decide +kernel) rfl
theorem gw1301 : (Jvm.Cond.methodLinkNest "NotationPress$UpgradeDraft" (33 : Nat) ({ cls := "NotationPress", name := "put", desc := "([III)V" } : Jvm.MethodName) "NotationPress") ∈ np_nw := np_nwi 1301 (by decide +kernel) rfl
theorem gw1400 : (Jvm.Cond.constant "NotationPress$Upgrade" (105 : Nat) (-2147483648 : Int32)) ∈ np_gw := np_gwi 1400 (by decide +kernel) rfl
theorem gw1401 : (Jvm.Cond.methodLinkNest "NotationPress$Upgrade" (106 : Nat) ({ cls := "NotationPress", name := "cellPlace", desc := "(II)I" } : Jvm.MethodName) "NotationPress") ∈ np_nw := np_nwi 1401 (by decide +kernel) rfl
theorem gw1402 : (Jvm.Cond.methodLink "NotationPress$Upgrade" (110 : Nat) ({ cls := "NotationPress$Upgrade", name := "joined", desc := "(II)I" } : Jvm.MethodName)) ∈ np_gw := np_gwi 1402 (by decide +kernel) rfl
theorem gw1403 : (Jvm.Cond.static ({ cls := "NotationPress$Upgrade", name := "joined", desc := "(II)I" } : Jvm.MethodName)) ∈ np_gw := np_gwi 1403 (by decide +kernel) rfl
theorem gw1404 : (Jvm.Cond.code ({ cls := "NotationPress$Upgrade", name := "joined", desc := "(II)I" } : Jvm.MethodName) prog_11_method_21_code (2 : Nat) (Option.some Jvm.ClassFile.FieldType.int)) ∈ np_gw := np_gwi 1404 (by decide +kernel) rfl
theorem gw1405 : (Jvm.Cond.constantLong "NotationPress$Upgrade" (117 : Nat) (100 : Int64)) ∈ np_gw := np_gwi 1405 (by decide +kernel) rfl
theorem gw1406 : (Jvm.Cond.methodLink "NotationPress$Upgrade" (119 : Nat) ({ cls := "NotationPress$Upgrade", name := "fitted", desc := "(J)I" } : Jvm.MethodName)) ∈ np_gw := np_gwi 1406 (by decide +kernel) rfl
theorem gw1407 : (Jvm.Cond.static ({ cls := "NotationPress$Upgrade", name := "fitted", desc := "(J)I" } : Jvm.MethodName)) ∈ np_gw := np_gwi 1407 (by decide +kernel) rfl
theorem gw1408 : (Jvm.Cond.code ({ cls := "NotationPress$Upgrade", name := "fitted", desc := "(J)I" } : Jvm.MethodName) prog_11_method_23_code (2 : Nat) (Option.some Jvm.ClassFile.FieldType.int)) ∈ np_gw := np_gwi 1408 (by decide +kernel) rfl
theorem gw1409 : (Jvm.Cond.constantLong "NotationPress$Upgrade" (133 : Nat) (-2147483648 : Int64)) ∈ np_gw := np_gwi 1409 (by decide +kernel) rfl
theorem gw1410 : (Jvm.Cond.constantLong "NotationPress$Upgrade" (135 : Nat) (2147483647 : Int64)) ∈ np_gw := np_gwi 1410 (by decide +kernel) rfl
theorem gw1411 : (Jvm.Cond.methodLink "NotationPress$Upgrade" (113 : Nat) ({ cls := "NotationPress$Upgrade", name := "worked", desc := "(III)I" } : Jvm.MethodName)) ∈ np_gw := np_gwi 1411 (by decide +kernel) rfl
theorem gw1412 : (Jvm.Cond.static ({ cls := "NotationPress$Upgrade", name := "worked", desc := "(III)I" } : Jvm.MethodName)) ∈ np_gw := np_gwi 1412 (by decide +kernel) rfl
theorem gw1413 : (Jvm.Cond.code ({ cls := "NotationPress$Upgrade", name := "worked", desc := "(III)I" } : Jvm.MethodName) prog_11_method_22_code (3 : Nat) (Option.some Jvm.ClassFile.FieldType.int)) ∈ np_gw := np_gwi 1413 (by decide +kernel) rfl
theorem gw1414 : (Jvm.Cond.methodLink "NotationPress$Upgrade" (123 : Nat) ({ cls := "java/lang/Math", name := "floorDiv", desc := "(II)I" } : Jvm.MethodName)) ∈ np_gw := np_gwi 1414 (by decide +kernel) rfl
theorem gw1415 : (Jvm.Cond.static ({ cls := "java/lang/Math", name := "floorDiv", desc := "(II)I" } : Jvm.MethodName)) ∈ np_gw := np_gwi 1415 (by decide +kernel) rfl
theorem gw1416 : (Jvm.Cond.code ({ cls := "java/lang/Math", name := "floorDiv", desc := "(II)I" } : Jvm.MethodName) prog_19_method_47_code (3 : Nat) (Option.some Jvm.ClassFile.FieldType.int)) ∈ np_gw := np_gwi 1416 (by decide +kernel) rfl
theorem gw1417 : (Jvm.Cond.methodLink "NotationPress$Upgrade" (128 : Nat) ({ cls := "java/lang/Math", name := "floorMod", desc := "(II)I" } : Jvm.MethodName)) ∈ np_gw := np_gwi 1417 (by decide +kernel) rfl
theorem gw1418 : (Jvm.Cond.static ({ cls := "java/lang/Math", name := "floorMod", desc := "(II)I" } : Jvm.MethodName)) ∈ np_gw := np_gwi 1418 (by decide +kernel) rfl
theorem gw1419 : (Jvm.Cond.code ({ cls := "java/lang/Math", name := "floorMod", desc := "(II)I" } : Jvm.MethodName) prog_19_method_50_code (3 : Nat) (Option.some Jvm.ClassFile.FieldType.int)) ∈ np_gw := np_gwi 1419 (by decide +kernel) rfl
set_option maxRecDepth 20000 in
theorem guX11 : ∀ w ∈ u_ws RX11 TX11 14, w ∈ np_gw := by
  show ∀ w ∈ [(Jvm.Cond.laysFinal "NotationPress" "NotationPress" "draft" "LNotationPress$Items;"), (Jvm.Cond.laysFinal "NotationPress" "NotationPress" "descriptions" "[LNotationPress$Description;"), (Jvm.Cond.lays "NotationPress" "NotationPress" "descriptionCount" "I"), (Jvm.Cond.laysFinal "NotationPress" "NotationPress" "record" "[I"), (Jvm.Cond.laysFinal "NotationPress" "NotationPress" "files" "[LNotationPress$Text;"), (Jvm.Cond.laysFinal "NotationPress" "NotationPress" "tables" "[LNotationPress$Table;"), (Jvm.Cond.laysFinal "NotationPress" "NotationPress" "printer" "LNotationPress$Printer;"), (Jvm.Cond.laysFinal "NotationPress" "NotationPress" "reader" "LNotationPress$Reader;"), (Jvm.Cond.laysFinal "NotationPress" "NotationPress" "sampler" "LNotationPress$Sampler;"), (Jvm.Cond.laysFinal "NotationPress" "NotationPress" "columns" "[LNotationPress$Column;"), (Jvm.Cond.lays "NotationPress" "NotationPress" "columnCount" "I"), (Jvm.Cond.laysFinal "NotationPress" "NotationPress" "upgradeDraft" "LNotationPress$UpgradeDraft;"), (Jvm.Cond.laysFinal "NotationPress" "NotationPress" "upgrades" "[LNotationPress$Upgrade;"), (Jvm.Cond.lays "NotationPress" "NotationPress" "upgradeCount" "I")], w ∈ np_gw
  exact List.forall_mem_cons.mpr ⟨gw455, List.forall_mem_cons.mpr ⟨gw457, List.forall_mem_cons.mpr ⟨gw459, List.forall_mem_cons.mpr ⟨gw461, List.forall_mem_cons.mpr ⟨gw463, List.forall_mem_cons.mpr ⟨gw465, List.forall_mem_cons.mpr ⟨gw467, List.forall_mem_cons.mpr ⟨gw469, List.forall_mem_cons.mpr ⟨gw471, List.forall_mem_cons.mpr ⟨gw473, List.forall_mem_cons.mpr ⟨gw475, List.forall_mem_cons.mpr ⟨gw477, List.forall_mem_cons.mpr ⟨gw479, List.forall_mem_cons.mpr ⟨gw481, fun _ h => nomatch h⟩⟩⟩⟩⟩⟩⟩⟩⟩⟩⟩⟩⟩⟩
theorem ndX11 : ∀ j, j < 14 → defaultValue (tyX11 j) = vp_V [.null, .null, .int 0, .null, .null, .null, .null, .null, .null, .null, .int 0, .null, .null, .int 0] j := by decide +kernel
theorem nfX11 : ∀ v ∈ ([.null, .null, .int 0, .null, .null, .null, .null, .null, .null, .null, .int 0, .null, .null, .int 0] : List Value), ∀ ad : Nat → Nat, np_v ad v = v := by
  intro v hv ad
  simp only [List.mem_cons, List.not_mem_nil, or_false] at hv
  rcases hv with rfl | rfl | rfl | rfl | rfl | rfl | rfl | rfl | rfl | rfl | rfl | rfl | rfl | rfl <;> rfl
theorem sw557 : (Jvm.Cond.stringRef "NotationPress" (98 : Nat) "no such slot") ∈ lw_tbl := List.mem_of_getElem? (i := 557) (by decide +kernel)
theorem sw599 : (Jvm.Cond.stringRef "NotationPress" (109 : Nat) "no such item") ∈ lw_tbl := List.mem_of_getElem? (i := 599) (by decide +kernel)
theorem sw619 : (Jvm.Cond.stringRef "NotationPress" (118 : Nat) "the draft is full") ∈ lw_tbl := List.mem_of_getElem? (i := 619) (by decide +kernel)
theorem sw638 : (Jvm.Cond.stringRef "NotationPress" (135 : Nat) "no more descriptions") ∈ lw_tbl := List.mem_of_getElem? (i := 638) (by decide +kernel)
theorem sw700 : (Jvm.Cond.stringRef "NotationPress" (151 : Nat) "no such description") ∈ lw_tbl := List.mem_of_getElem? (i := 700) (by decide +kernel)
theorem sw1226 : (Jvm.Cond.stringRef "NotationPress" (163 : Nat) "no such constraint") ∈ lw_tbl := List.mem_of_getElem? (i := 1226) (by decide +kernel)
theorem sw1231 : (Jvm.Cond.stringRef "NotationPress" (166 : Nat) "no more constraints") ∈ lw_tbl := List.mem_of_getElem? (i := 1231) (by decide +kernel)
set_option maxRecDepth 100000 in
set_option maxHeartbeats 4000000 in
theorem twX11_100 : ∀ w ∈ vx_atS RX11 100 (np_en 0) np_ens, w ∈ np_gw ∨ w ∈ np_nw := by
  have h : (vx_atS RX11 100 (np_en 0) np_ens).all (fun w => decide (w ∈ lw_tbl) && (goodWord w || np_isNest w)) = true := by decide +kernel
  intro w hw
  have h1 := List.all_eq_true.mp h w hw
  simp only [Bool.and_eq_true, decide_eq_true_eq, Bool.or_eq_true] at h1
  exact h1.2.elim (fun z => Or.inl (List.mem_filter.mpr ⟨h1.1, z⟩)) (fun z => Or.inr (List.mem_filter.mpr ⟨h1.1, z⟩))
set_option maxRecDepth 100000 in
set_option maxHeartbeats 4000000 in
theorem twX11_111 : ∀ w ∈ vx_atS RX11 111 (np_en 1) np_ens, w ∈ np_gw ∨ w ∈ np_nw := by
  have h : (vx_atS RX11 111 (np_en 1) np_ens).all (fun w => decide (w ∈ lw_tbl) && (goodWord w || np_isNest w)) = true := by decide +kernel
  intro w hw
  have h1 := List.all_eq_true.mp h w hw
  simp only [Bool.and_eq_true, decide_eq_true_eq, Bool.or_eq_true] at h1
  exact h1.2.elim (fun z => Or.inl (List.mem_filter.mpr ⟨h1.1, z⟩)) (fun z => Or.inr (List.mem_filter.mpr ⟨h1.1, z⟩))
set_option maxRecDepth 100000 in
set_option maxHeartbeats 4000000 in
theorem twX11_120 : ∀ w ∈ vx_atS RX11 120 (np_en 2) np_ens, w ∈ np_gw ∨ w ∈ np_nw := by
  have h : (vx_atS RX11 120 (np_en 2) np_ens).all (fun w => decide (w ∈ lw_tbl) && (goodWord w || np_isNest w)) = true := by decide +kernel
  intro w hw
  have h1 := List.all_eq_true.mp h w hw
  simp only [Bool.and_eq_true, decide_eq_true_eq, Bool.or_eq_true] at h1
  exact h1.2.elim (fun z => Or.inl (List.mem_filter.mpr ⟨h1.1, z⟩)) (fun z => Or.inr (List.mem_filter.mpr ⟨h1.1, z⟩))
theorem toX11_100_96 : ∀ w ∈ Cond.classLink RX11 96 (np_en 0) :: Cond.initialized (np_en 0) :: vx_atS RX11 100 (np_en 0) np_ens, vx_ot w = true := by
  have h : (Cond.classLink RX11 96 (np_en 0) :: Cond.initialized (np_en 0) :: vx_atS RX11 100 (np_en 0) np_ens).all vx_ot = true := by decide +kernel
  exact List.all_eq_true.mp h
theorem toX11_111_107 : ∀ w ∈ Cond.classLink RX11 107 (np_en 1) :: Cond.initialized (np_en 1) :: vx_atS RX11 111 (np_en 1) np_ens, vx_ot w = true := by
  have h : (Cond.classLink RX11 107 (np_en 1) :: Cond.initialized (np_en 1) :: vx_atS RX11 111 (np_en 1) np_ens).all vx_ot = true := by decide +kernel
  exact List.all_eq_true.mp h
theorem toX11_120_116 : ∀ w ∈ Cond.classLink RX11 116 (np_en 2) :: Cond.initialized (np_en 2) :: vx_atS RX11 120 (np_en 2) np_ens, vx_ot w = true := by
  have h : (Cond.classLink RX11 116 (np_en 2) :: Cond.initialized (np_en 2) :: vx_atS RX11 120 (np_en 2) np_ens).all vx_ot = true := by decide +kernel
  exact List.all_eq_true.mp h
theorem dX9_fitted_0 : decode cX9_fitted 0 = .ok (.lload_n 0, 1) := by decide +kernel
theorem dX9_fitted_1 : decode cX9_fitted 1 = .ok (.ldc2_w 133, 3) := by decide +kernel
theorem dX9_fitted_4 : decode cX9_fitted 4 = .ok (.lcmp, 1) := by decide +kernel
theorem dX9_fitted_5 : decode cX9_fitted 5 = .ok (.ifCond .lt 11, 3) := by decide +kernel
theorem dX9_fitted_8 : decode cX9_fitted 8 = .ok (.lload_n 0, 1) := by decide +kernel
theorem dX9_fitted_9 : decode cX9_fitted 9 = .ok (.ldc2_w 135, 3) := by decide +kernel
theorem dX9_fitted_12 : decode cX9_fitted 12 = .ok (.lcmp, 1) := by decide +kernel
theorem dX9_fitted_13 : decode cX9_fitted 13 = .ok (.ifCond .le 8, 3) := by decide +kernel
theorem dX9_fitted_16 : decode cX9_fitted 16 = .ok (.ldc 105, 2) := by decide +kernel
theorem dX9_fitted_18 : decode cX9_fitted 18 = .ok (.goto 5, 3) := by decide +kernel
theorem dX9_fitted_21 : decode cX9_fitted 21 = .ok (.lload_n 0, 1) := by decide +kernel
theorem dX9_fitted_22 : decode cX9_fitted 22 = .ok (.l2i, 1) := by decide +kernel
theorem dX9_fitted_23 : decode cX9_fitted 23 = .ok (.ireturn, 1) := by decide +kernel
def is_X9_fitted (Rt : np_Rt) : List (Nat × np_Op) := [(0, np_lld 1 0), (1, np_push 3 (.long (-2147483648))), (4, np_lcmp), (5, nq_if (fun x => x < 0) 16), (8, np_lld 1 0), (9, np_push 3 (.long 2147483647)), (12, np_lcmp), (13, nq_if (fun x => x ≤ 0) 21), (16, np_push 2 (.int (-2147483648))), (18, np_goto 23), (21, np_lld 1 0), (22, np_l2i), (23, np_ret Rt)]
set_option maxRecDepth 20000 in
theorem so_X9_fitted {X : np_Ctx} {Rt : np_Rt} (hX : np_ok RX9 cX9_fitted 2 0 0 0 0 .ireturn X) (hR : ∀ st w ce sl, Rt st w ce sl → X.2.2.1 st w ce sl) : ∀ q ∈ is_X9_fitted Rt, np_S X q.1 q.2 :=
  List.forall_mem_cons.mpr ⟨np_s_lload_n hX dX9_fitted_0 rfl, List.forall_mem_cons.mpr ⟨np_s_ldc2 hX dX9_fitted_1 gw1409, List.forall_mem_cons.mpr ⟨np_s_lcmp hX dX9_fitted_4, List.forall_mem_cons.mpr ⟨np_S.mono (op := np_if (fun x => x < 0) 16) (np_s_if_lt hX dX9_fitted_5 (by decide)) nq_if_le, List.forall_mem_cons.mpr ⟨np_s_lload_n hX dX9_fitted_8 rfl, List.forall_mem_cons.mpr ⟨np_s_ldc2 hX dX9_fitted_9 gw1410, List.forall_mem_cons.mpr ⟨np_s_lcmp hX dX9_fitted_12, List.forall_mem_cons.mpr ⟨np_S.mono (op := np_if (fun x => x ≤ 0) 21) (np_s_if_le hX dX9_fitted_13 (by decide)) nq_if_le, List.forall_mem_cons.mpr ⟨np_s_ldc hX dX9_fitted_16 gw1400, List.forall_mem_cons.mpr ⟨np_s_goto hX dX9_fitted_18 (by decide), List.forall_mem_cons.mpr ⟨np_s_lload_n hX dX9_fitted_21 rfl, List.forall_mem_cons.mpr ⟨np_s_l2i hX dX9_fitted_22, List.forall_mem_cons.mpr ⟨np_S.mono (op := np_ret X.2.2.1) (np_s_ret hX dX9_fitted_23) (nq_ret_le hR), fun _ h => nomatch h⟩⟩⟩⟩⟩⟩⟩⟩⟩⟩⟩⟩⟩
noncomputable def m_X9_fitted (S : pw_S) (x0 : Int64) : pw_R Int32 :=
 if (lg_cmp x0 (-2147483648)) < 0 then
 (some (S, (-2147483648)))
 else
 (if (lg_cmp x0 2147483647) ≤ 0 then
 (some (S, (x0 : Int64).toInt32))
 else
 (some (S, (-2147483648))))
def sp_X9_fitted : np_Sp := fun vs w Q => ∃ (q : Nat) (S : pw_S) (x0 : Int64), vs = [.long (x0)] ∧ pw_W q w S ∧ pw_p (m_X9_fitted S x0) (fun S' r => ∀ f', pw_W q (w.1, f') S' → Q (some (.int r)) (w.1, f'))
set_option maxRecDepth 100000 in
set_option maxHeartbeats 8000000 in
theorem C_X9_fitted : np_C yX9_fitted cX9_fitted 2 (some .int) 0 0 0 0 sp_X9_fitted := by
  refine np_of (by decide) ?_
  intro X vs w Q hsp hX hmn hRt hlt
  obtain ⟨q, S, x0, rfl, hW, h⟩ := hsp
  obtain ⟨n, f⟩ := w
  unfold m_X9_fitted at h
  have hR : ∀ st w ce sl, np_rt (some .int) 0 0 Q st w ce sl → X.2.2.1 st w ce sl := fun _ _ _ _ h => by rw [hRt]; exact h
  refine np_soundW (so_X9_fitted hX hR) [] 400 0 _ _ _ _ _ ?_
  conv => whnf
  refine pw_br h (fun _ h => ?_) (fun _ h => ?_)
  · conv => whnf
    exact ⟨Nat.le_of_ble_eq_true rfl, Nat.le_of_ble_eq_true rfl, ⟨_, rfl⟩, _, fun _ _ h9 => h9, pw_ps h _ hW⟩
  · conv => whnf
    refine pw_br h (fun _ h => ?_) (fun _ h => ?_)
    · conv => whnf
      exact ⟨Nat.le_of_ble_eq_true rfl, Nat.le_of_ble_eq_true rfl, ⟨_, rfl⟩, _, fun _ _ h9 => h9, pw_ps h _ hW⟩
    · conv => whnf
      exact ⟨Nat.le_of_ble_eq_true rfl, Nat.le_of_ble_eq_true rfl, ⟨_, rfl⟩, _, fun _ _ h9 => h9, pw_ps h _ hW⟩
theorem dX9_joined_0 : decode cX9_joined 0 = .ok (.iload_n 0, 1) := by decide +kernel
theorem dX9_joined_1 : decode cX9_joined 1 = .ok (.ldc 105, 2) := by decide +kernel
theorem dX9_joined_3 : decode cX9_joined 3 = .ok (.if_icmp .eq 9, 3) := by decide +kernel
theorem dX9_joined_6 : decode cX9_joined 6 = .ok (.iload_n 1, 1) := by decide +kernel
theorem dX9_joined_7 : decode cX9_joined 7 = .ok (.ldc 105, 2) := by decide +kernel
theorem dX9_joined_9 : decode cX9_joined 9 = .ok (.if_icmp .ne 6, 3) := by decide +kernel
theorem dX9_joined_12 : decode cX9_joined 12 = .ok (.ldc 105, 2) := by decide +kernel
theorem dX9_joined_14 : decode cX9_joined 14 = .ok (.ireturn, 1) := by decide +kernel
theorem dX9_joined_15 : decode cX9_joined 15 = .ok (.ldc2_w 117, 3) := by decide +kernel
theorem dX9_joined_18 : decode cX9_joined 18 = .ok (.iload_n 0, 1) := by decide +kernel
theorem dX9_joined_19 : decode cX9_joined 19 = .ok (.i2l, 1) := by decide +kernel
theorem dX9_joined_20 : decode cX9_joined 20 = .ok (.lmul, 1) := by decide +kernel
theorem dX9_joined_21 : decode cX9_joined 21 = .ok (.iload_n 1, 1) := by decide +kernel
theorem dX9_joined_22 : decode cX9_joined 22 = .ok (.i2l, 1) := by decide +kernel
theorem dX9_joined_23 : decode cX9_joined 23 = .ok (.ladd, 1) := by decide +kernel
theorem dX9_joined_24 : decode cX9_joined 24 = .ok (.invokestatic 119, 3) := by decide +kernel
theorem dX9_joined_27 : decode cX9_joined 27 = .ok (.ireturn, 1) := by decide +kernel
def is_X9_joined (Rt : np_Rt) : List (Nat × np_Op) := [(0, np_ild 1 0), (1, np_push 2 (.int (-2147483648))), (3, nq_ic (fun x y => x = y) 12), (6, np_ild 1 1), (7, np_push 2 (.int (-2147483648))), (9, nq_icne 15), (12, np_push 2 (.int (-2147483648))), (14, np_ret Rt), (15, np_push 3 (.long 100)), (18, np_ild 1 0), (19, np_i2l), (20, np_lb (fun x y => x * y)), (21, np_ild 1 1), (22, np_i2l), (23, np_lb (fun x y => x + y)), (24, nq_call 1 sp_X9_fitted 2 0 0 0 0), (27, np_ret Rt)]
set_option maxRecDepth 20000 in
theorem so_X9_joined {X : np_Ctx} {Rt : np_Rt} (hX : np_ok RX9 cX9_joined 2 1 21 0 0 .ireturn X) (hR : ∀ st w ce sl, Rt st w ce sl → X.2.2.1 st w ce sl) : ∀ q ∈ is_X9_joined Rt, np_S X q.1 q.2 :=
  List.forall_mem_cons.mpr ⟨np_s_iload_n hX dX9_joined_0 rfl, List.forall_mem_cons.mpr ⟨np_s_ldc hX dX9_joined_1 gw1400, List.forall_mem_cons.mpr ⟨np_S.mono (op := np_ic (fun x y => x = y) 12) (np_s_icmp_eq hX dX9_joined_3 (by decide)) nq_ic_le, List.forall_mem_cons.mpr ⟨np_s_iload_n hX dX9_joined_6 rfl, List.forall_mem_cons.mpr ⟨np_s_ldc hX dX9_joined_7 gw1400, List.forall_mem_cons.mpr ⟨np_S.mono (op := np_icne 15) (np_s_icmp_ne hX dX9_joined_9 (by decide)) nq_icne_le, List.forall_mem_cons.mpr ⟨np_s_ldc hX dX9_joined_12 gw1400, List.forall_mem_cons.mpr ⟨np_S.mono (op := np_ret X.2.2.1) (np_s_ret hX dX9_joined_14) (nq_ret_le hR), List.forall_mem_cons.mpr ⟨np_s_ldc2 hX dX9_joined_15 gw1405, List.forall_mem_cons.mpr ⟨np_s_iload_n hX dX9_joined_18 rfl, List.forall_mem_cons.mpr ⟨np_s_i2l hX dX9_joined_19, List.forall_mem_cons.mpr ⟨np_s_lmul hX dX9_joined_20, List.forall_mem_cons.mpr ⟨np_s_iload_n hX dX9_joined_21 rfl, List.forall_mem_cons.mpr ⟨np_s_i2l hX dX9_joined_22, List.forall_mem_cons.mpr ⟨np_s_ladd hX dX9_joined_23, List.forall_mem_cons.mpr ⟨np_S.mono (op := np_call 1 sp_X9_fitted 2 0 0 0 0) (np_s_callS hX C_X9_fitted dX9_joined_24 gw1408 gw74 gw1406 gw1407 ⟨by decide, by decide, by decide⟩ (by decide) (by decide)) nq_call_le, List.forall_mem_cons.mpr ⟨np_S.mono (op := np_ret X.2.2.1) (np_s_ret hX dX9_joined_27) (nq_ret_le hR), fun _ h => nomatch h⟩⟩⟩⟩⟩⟩⟩⟩⟩⟩⟩⟩⟩⟩⟩⟩⟩
noncomputable def m_X9_joined (S : pw_S) (x0 : Int32) (x1 : Int32) : pw_R Int32 :=
 if x0 = (-2147483648) then
 (some (S, (-2147483648)))
 else
 (if x1 = (-2147483648) then
 (some (S, (-2147483648)))
 else
 (pw_b (m_X9_fitted S ((100 * (x0 : Int32).toInt64) + (x1 : Int32).toInt64)) fun S1 r4 =>
 some (S1, r4)))
def sp_X9_joined : np_Sp := fun vs w Q => ∃ (q : Nat) (S : pw_S) (x0 : Int32) (x1 : Int32), vs = [.int x0, .int x1] ∧ pw_W q w S ∧ pw_p (m_X9_joined S x0 x1) (fun S' r => ∀ f', pw_W q (w.1, f') S' → Q (some (.int r)) (w.1, f'))
set_option maxRecDepth 100000 in
set_option maxHeartbeats 8000000 in
theorem C_X9_joined : np_C yX9_joined cX9_joined 2 (some .int) 1 21 0 0 sp_X9_joined := by
  refine np_of (by decide) ?_
  intro X vs w Q hsp hX hmn hRt hlt
  obtain ⟨q, S, x0, x1, rfl, hW, h⟩ := hsp
  obtain ⟨n, f⟩ := w
  unfold m_X9_joined at h
  have hR : ∀ st w ce sl, np_rt (some .int) 0 0 Q st w ce sl → X.2.2.1 st w ce sl := fun _ _ _ _ h => by rw [hRt]; exact h
  refine np_soundW (so_X9_joined hX hR) [] 400 0 _ _ _ _ _ ?_
  conv => whnf
  refine pw_br h (fun _ h => ?_) (fun _ h => ?_)
  · conv => whnf
    exact ⟨Nat.le_of_ble_eq_true rfl, Nat.le_of_ble_eq_true rfl, ⟨_, rfl⟩, _, fun _ _ h9 => h9, pw_ps h _ hW⟩
  · conv => whnf
    refine pw_br h (fun _ h => ?_) (fun _ h => ?_)
    · conv => whnf
      exact ⟨Nat.le_of_ble_eq_true rfl, Nat.le_of_ble_eq_true rfl, ⟨_, rfl⟩, _, fun _ _ h9 => h9, pw_ps h _ hW⟩
    · conv => whnf
      refine ⟨q, S, ((100 * (x0 : Int32).toInt64) + (x1 : Int32).toInt64), rfl, hW, pw_bd h (fun S1 r4 h f2 hW3 => ?_)⟩
      conv => whnf
      exact ⟨Nat.le_of_ble_eq_true rfl, Nat.le_of_ble_eq_true rfl, ⟨_, rfl⟩, _, fun _ _ h9 => h9, pw_ps h _ hW3⟩
theorem dJ9_floorDiv_7cf53_0 : decode cJ9_floorDiv_7cf53 0 = .ok (.iload_n 0, 1) := by decide +kernel
theorem dJ9_floorDiv_7cf53_1 : decode cJ9_floorDiv_7cf53 1 = .ok (.iload_n 1, 1) := by decide +kernel
theorem dJ9_floorDiv_7cf53_2 : decode cJ9_floorDiv_7cf53 2 = .ok (.idiv, 1) := by decide +kernel
theorem dJ9_floorDiv_7cf53_3 : decode cJ9_floorDiv_7cf53 3 = .ok (.istore_n 2, 1) := by decide +kernel
theorem dJ9_floorDiv_7cf53_4 : decode cJ9_floorDiv_7cf53 4 = .ok (.iload_n 0, 1) := by decide +kernel
theorem dJ9_floorDiv_7cf53_5 : decode cJ9_floorDiv_7cf53 5 = .ok (.iload_n 1, 1) := by decide +kernel
theorem dJ9_floorDiv_7cf53_6 : decode cJ9_floorDiv_7cf53 6 = .ok (.ixor, 1) := by decide +kernel
theorem dJ9_floorDiv_7cf53_7 : decode cJ9_floorDiv_7cf53 7 = .ok (.ifCond .ge 14, 3) := by decide +kernel
theorem dJ9_floorDiv_7cf53_10 : decode cJ9_floorDiv_7cf53 10 = .ok (.iload_n 2, 1) := by decide +kernel
theorem dJ9_floorDiv_7cf53_11 : decode cJ9_floorDiv_7cf53 11 = .ok (.iload_n 1, 1) := by decide +kernel
theorem dJ9_floorDiv_7cf53_12 : decode cJ9_floorDiv_7cf53 12 = .ok (.imul, 1) := by decide +kernel
theorem dJ9_floorDiv_7cf53_13 : decode cJ9_floorDiv_7cf53 13 = .ok (.iload_n 0, 1) := by decide +kernel
theorem dJ9_floorDiv_7cf53_14 : decode cJ9_floorDiv_7cf53 14 = .ok (.if_icmp .eq 7, 3) := by decide +kernel
theorem dJ9_floorDiv_7cf53_17 : decode cJ9_floorDiv_7cf53 17 = .ok (.iload_n 2, 1) := by decide +kernel
theorem dJ9_floorDiv_7cf53_18 : decode cJ9_floorDiv_7cf53 18 = .ok (.iconst 1, 1) := by decide +kernel
theorem dJ9_floorDiv_7cf53_19 : decode cJ9_floorDiv_7cf53 19 = .ok (.isub, 1) := by decide +kernel
theorem dJ9_floorDiv_7cf53_20 : decode cJ9_floorDiv_7cf53 20 = .ok (.ireturn, 1) := by decide +kernel
theorem dJ9_floorDiv_7cf53_21 : decode cJ9_floorDiv_7cf53 21 = .ok (.iload_n 2, 1) := by decide +kernel
theorem dJ9_floorDiv_7cf53_22 : decode cJ9_floorDiv_7cf53 22 = .ok (.ireturn, 1) := by decide +kernel
def is_J9_floorDiv_7cf53 (Rt : np_Rt) : List (Nat × np_Op) := [(0, np_ild 1 0), (1, np_ild 1 1), (2, nq_ibn (fun x y => x / y)), (3, nw_ist 1 2), (4, np_ild 1 0), (5, np_ild 1 1), (6, np_ib (fun x y => x ^^^ y)), (7, nq_if (fun x => 0 ≤ x) 21), (10, np_ild 1 2), (11, np_ild 1 1), (12, np_ib (fun x y => x * y)), (13, np_ild 1 0), (14, nq_ic (fun x y => x = y) 21), (17, np_ild 1 2), (18, np_push 1 (.int 1)), (19, np_ib (fun x y => x - y)), (20, np_ret Rt), (21, np_ild 1 2), (22, np_ret Rt)]
set_option maxRecDepth 20000 in
theorem so_J9_floorDiv_7cf53 {X : np_Ctx} {Rt : np_Rt} (hX : np_ok RJ9 cJ9_floorDiv_7cf53 3 0 0 0 0 .ireturn X) (hR : ∀ st w ce sl, Rt st w ce sl → X.2.2.1 st w ce sl) : ∀ q ∈ is_J9_floorDiv_7cf53 Rt, np_S X q.1 q.2 :=
  List.forall_mem_cons.mpr ⟨np_s_iload_n hX dJ9_floorDiv_7cf53_0 rfl, List.forall_mem_cons.mpr ⟨np_s_iload_n hX dJ9_floorDiv_7cf53_1 rfl, List.forall_mem_cons.mpr ⟨np_S.mono (op := np_ibn (fun x y => x / y)) (np_s_idiv hX dJ9_floorDiv_7cf53_2) nq_ibn_le, List.forall_mem_cons.mpr ⟨np_S.mono (op := np_ist 1 2) (np_s_istore_n hX dJ9_floorDiv_7cf53_3 rfl (by decide)) nw_ist_le, List.forall_mem_cons.mpr ⟨np_s_iload_n hX dJ9_floorDiv_7cf53_4 rfl, List.forall_mem_cons.mpr ⟨np_s_iload_n hX dJ9_floorDiv_7cf53_5 rfl, List.forall_mem_cons.mpr ⟨np_s_ixor hX dJ9_floorDiv_7cf53_6, List.forall_mem_cons.mpr ⟨np_S.mono (op := np_if (fun x => 0 ≤ x) 21) (np_s_if_ge hX dJ9_floorDiv_7cf53_7 (by decide)) nq_if_le, List.forall_mem_cons.mpr ⟨np_s_iload_n hX dJ9_floorDiv_7cf53_10 rfl, List.forall_mem_cons.mpr ⟨np_s_iload_n hX dJ9_floorDiv_7cf53_11 rfl, List.forall_mem_cons.mpr ⟨np_s_imul hX dJ9_floorDiv_7cf53_12, List.forall_mem_cons.mpr ⟨np_s_iload_n hX dJ9_floorDiv_7cf53_13 rfl, List.forall_mem_cons.mpr ⟨np_S.mono (op := np_ic (fun x y => x = y) 21) (np_s_icmp_eq hX dJ9_floorDiv_7cf53_14 (by decide)) nq_ic_le, List.forall_mem_cons.mpr ⟨np_s_iload_n hX dJ9_floorDiv_7cf53_17 rfl, List.forall_mem_cons.mpr ⟨np_s_iconst hX dJ9_floorDiv_7cf53_18 (by decide), List.forall_mem_cons.mpr ⟨np_s_isub hX dJ9_floorDiv_7cf53_19, List.forall_mem_cons.mpr ⟨np_S.mono (op := np_ret X.2.2.1) (np_s_ret hX dJ9_floorDiv_7cf53_20) (nq_ret_le hR), List.forall_mem_cons.mpr ⟨np_s_iload_n hX dJ9_floorDiv_7cf53_21 rfl, List.forall_mem_cons.mpr ⟨np_S.mono (op := np_ret X.2.2.1) (np_s_ret hX dJ9_floorDiv_7cf53_22) (nq_ret_le hR), fun _ h => nomatch h⟩⟩⟩⟩⟩⟩⟩⟩⟩⟩⟩⟩⟩⟩⟩⟩⟩⟩⟩
noncomputable def m_J9_floorDiv_7cf53 (S : pw_S) (x0 : Int32) (x1 : Int32) : pw_R Int32 :=
 pw_c (!decide (x1 = 0)) <|
 pw_l ((x0 / x1) : Int32) fun z1 =>
 if 0 ≤ (x0 ^^^ x1) then
 (some (S, z1))
 else
 (if (z1 * x1) = x0 then
 (some (S, z1))
 else
 (some (S, (z1 - 1))))
def sp_J9_floorDiv_7cf53 : np_Sp := fun vs w Q => ∃ (q : Nat) (S : pw_S) (x0 : Int32) (x1 : Int32), vs = [.int x0, .int x1] ∧ pw_W q w S ∧ pw_p (m_J9_floorDiv_7cf53 S x0 x1) (fun S' r => ∀ f', pw_W q (w.1, f') S' → Q (some (.int r)) (w.1, f'))
set_option maxRecDepth 100000 in
set_option maxHeartbeats 8000000 in
theorem C_J9_floorDiv_7cf53 : np_C yJ9_floorDiv_7cf53 cJ9_floorDiv_7cf53 3 (some .int) 0 0 0 0 sp_J9_floorDiv_7cf53 := by
  refine np_ofJdk (by decide +kernel) ?_
  intro X vs w Q hsp hX hmn hRt hlt
  obtain ⟨q, S, x0, x1, rfl, hW, h⟩ := hsp
  obtain ⟨n, f⟩ := w
  unfold m_J9_floorDiv_7cf53 at h
  have hR : ∀ st w ce sl, np_rt (some .int) 0 0 Q st w ce sl → X.2.2.1 st w ce sl := fun _ _ _ _ h => by rw [hRt]; exact h
  refine np_soundW (so_J9_floorDiv_7cf53 hX hR) [] 400 0 _ _ _ _ _ ?_
  conv => whnf
  refine pw_ck h (fun _ h => ?_)
  conv => whnf
  refine pw_st h (fun z1 h => ?_)
  conv => whnf
  refine pw_br h (fun _ h => ?_) (fun _ h => ?_)
  · conv => whnf
    exact ⟨Nat.le_of_ble_eq_true rfl, Nat.le_of_ble_eq_true rfl, ⟨_, rfl⟩, _, fun _ _ h9 => h9, pw_ps h _ hW⟩
  · conv => whnf
    refine pw_br h (fun _ h => ?_) (fun _ h => ?_)
    · conv => whnf
      exact ⟨Nat.le_of_ble_eq_true rfl, Nat.le_of_ble_eq_true rfl, ⟨_, rfl⟩, _, fun _ _ h9 => h9, pw_ps h _ hW⟩
    · conv => whnf
      exact ⟨Nat.le_of_ble_eq_true rfl, Nat.le_of_ble_eq_true rfl, ⟨_, rfl⟩, _, fun _ _ h9 => h9, pw_ps h _ hW⟩
theorem dJ9_floorMod_7cf53_0 : decode cJ9_floorMod_7cf53 0 = .ok (.iload_n 0, 1) := by decide +kernel
theorem dJ9_floorMod_7cf53_1 : decode cJ9_floorMod_7cf53 1 = .ok (.iload_n 1, 1) := by decide +kernel
theorem dJ9_floorMod_7cf53_2 : decode cJ9_floorMod_7cf53 2 = .ok (.irem, 1) := by decide +kernel
theorem dJ9_floorMod_7cf53_3 : decode cJ9_floorMod_7cf53 3 = .ok (.istore_n 2, 1) := by decide +kernel
theorem dJ9_floorMod_7cf53_4 : decode cJ9_floorMod_7cf53 4 = .ok (.iload_n 0, 1) := by decide +kernel
theorem dJ9_floorMod_7cf53_5 : decode cJ9_floorMod_7cf53 5 = .ok (.iload_n 1, 1) := by decide +kernel
theorem dJ9_floorMod_7cf53_6 : decode cJ9_floorMod_7cf53 6 = .ok (.ixor, 1) := by decide +kernel
theorem dJ9_floorMod_7cf53_7 : decode cJ9_floorMod_7cf53 7 = .ok (.ifCond .ge 11, 3) := by decide +kernel
theorem dJ9_floorMod_7cf53_10 : decode cJ9_floorMod_7cf53 10 = .ok (.iload_n 2, 1) := by decide +kernel
theorem dJ9_floorMod_7cf53_11 : decode cJ9_floorMod_7cf53 11 = .ok (.ifCond .eq 7, 3) := by decide +kernel
theorem dJ9_floorMod_7cf53_14 : decode cJ9_floorMod_7cf53 14 = .ok (.iload_n 2, 1) := by decide +kernel
theorem dJ9_floorMod_7cf53_15 : decode cJ9_floorMod_7cf53 15 = .ok (.iload_n 1, 1) := by decide +kernel
theorem dJ9_floorMod_7cf53_16 : decode cJ9_floorMod_7cf53 16 = .ok (.iadd, 1) := by decide +kernel
theorem dJ9_floorMod_7cf53_17 : decode cJ9_floorMod_7cf53 17 = .ok (.ireturn, 1) := by decide +kernel
theorem dJ9_floorMod_7cf53_18 : decode cJ9_floorMod_7cf53 18 = .ok (.iload_n 2, 1) := by decide +kernel
theorem dJ9_floorMod_7cf53_19 : decode cJ9_floorMod_7cf53 19 = .ok (.ireturn, 1) := by decide +kernel
def is_J9_floorMod_7cf53 (Rt : np_Rt) : List (Nat × np_Op) := [(0, np_ild 1 0), (1, np_ild 1 1), (2, nq_ibn (fun x y => x - x / y * y)), (3, nw_ist 1 2), (4, np_ild 1 0), (5, np_ild 1 1), (6, np_ib (fun x y => x ^^^ y)), (7, nq_if (fun x => 0 ≤ x) 18), (10, np_ild 1 2), (11, nq_if (fun x => x = 0) 18), (14, np_ild 1 2), (15, np_ild 1 1), (16, np_ib (fun x y => x + y)), (17, np_ret Rt), (18, np_ild 1 2), (19, np_ret Rt)]
set_option maxRecDepth 20000 in
theorem so_J9_floorMod_7cf53 {X : np_Ctx} {Rt : np_Rt} (hX : np_ok RJ9 cJ9_floorMod_7cf53 3 0 0 0 0 .ireturn X) (hR : ∀ st w ce sl, Rt st w ce sl → X.2.2.1 st w ce sl) : ∀ q ∈ is_J9_floorMod_7cf53 Rt, np_S X q.1 q.2 :=
  List.forall_mem_cons.mpr ⟨np_s_iload_n hX dJ9_floorMod_7cf53_0 rfl, List.forall_mem_cons.mpr ⟨np_s_iload_n hX dJ9_floorMod_7cf53_1 rfl, List.forall_mem_cons.mpr ⟨np_S.mono (op := np_ibn (fun x y => x - x / y * y)) (np_s_irem hX dJ9_floorMod_7cf53_2) nq_ibn_le, List.forall_mem_cons.mpr ⟨np_S.mono (op := np_ist 1 2) (np_s_istore_n hX dJ9_floorMod_7cf53_3 rfl (by decide)) nw_ist_le, List.forall_mem_cons.mpr ⟨np_s_iload_n hX dJ9_floorMod_7cf53_4 rfl, List.forall_mem_cons.mpr ⟨np_s_iload_n hX dJ9_floorMod_7cf53_5 rfl, List.forall_mem_cons.mpr ⟨np_s_ixor hX dJ9_floorMod_7cf53_6, List.forall_mem_cons.mpr ⟨np_S.mono (op := np_if (fun x => 0 ≤ x) 18) (np_s_if_ge hX dJ9_floorMod_7cf53_7 (by decide)) nq_if_le, List.forall_mem_cons.mpr ⟨np_s_iload_n hX dJ9_floorMod_7cf53_10 rfl, List.forall_mem_cons.mpr ⟨np_S.mono (op := np_if (fun x => x = 0) 18) (np_s_if_eq hX dJ9_floorMod_7cf53_11 (by decide)) nq_if_le, List.forall_mem_cons.mpr ⟨np_s_iload_n hX dJ9_floorMod_7cf53_14 rfl, List.forall_mem_cons.mpr ⟨np_s_iload_n hX dJ9_floorMod_7cf53_15 rfl, List.forall_mem_cons.mpr ⟨np_s_iadd hX dJ9_floorMod_7cf53_16, List.forall_mem_cons.mpr ⟨np_S.mono (op := np_ret X.2.2.1) (np_s_ret hX dJ9_floorMod_7cf53_17) (nq_ret_le hR), List.forall_mem_cons.mpr ⟨np_s_iload_n hX dJ9_floorMod_7cf53_18 rfl, List.forall_mem_cons.mpr ⟨np_S.mono (op := np_ret X.2.2.1) (np_s_ret hX dJ9_floorMod_7cf53_19) (nq_ret_le hR), fun _ h => nomatch h⟩⟩⟩⟩⟩⟩⟩⟩⟩⟩⟩⟩⟩⟩⟩⟩
noncomputable def m_J9_floorMod_7cf53 (S : pw_S) (x0 : Int32) (x1 : Int32) : pw_R Int32 :=
 pw_c (!decide (x1 = 0)) <|
 pw_l ((x0 - x0 / x1 * x1) : Int32) fun z1 =>
 if 0 ≤ (x0 ^^^ x1) then
 (some (S, z1))
 else
 (if z1 = 0 then
 (some (S, z1))
 else
 (some (S, (z1 + x1))))
def sp_J9_floorMod_7cf53 : np_Sp := fun vs w Q => ∃ (q : Nat) (S : pw_S) (x0 : Int32) (x1 : Int32), vs = [.int x0, .int x1] ∧ pw_W q w S ∧ pw_p (m_J9_floorMod_7cf53 S x0 x1) (fun S' r => ∀ f', pw_W q (w.1, f') S' → Q (some (.int r)) (w.1, f'))
set_option maxRecDepth 100000 in
set_option maxHeartbeats 8000000 in
theorem C_J9_floorMod_7cf53 : np_C yJ9_floorMod_7cf53 cJ9_floorMod_7cf53 3 (some .int) 0 0 0 0 sp_J9_floorMod_7cf53 := by
  refine np_ofJdk (by decide +kernel) ?_
  intro X vs w Q hsp hX hmn hRt hlt
  obtain ⟨q, S, x0, x1, rfl, hW, h⟩ := hsp
  obtain ⟨n, f⟩ := w
  unfold m_J9_floorMod_7cf53 at h
  have hR : ∀ st w ce sl, np_rt (some .int) 0 0 Q st w ce sl → X.2.2.1 st w ce sl := fun _ _ _ _ h => by rw [hRt]; exact h
  refine np_soundW (so_J9_floorMod_7cf53 hX hR) [] 400 0 _ _ _ _ _ ?_
  conv => whnf
  refine pw_ck h (fun _ h => ?_)
  conv => whnf
  refine pw_st h (fun z1 h => ?_)
  conv => whnf
  refine pw_br h (fun _ h => ?_) (fun _ h => ?_)
  · conv => whnf
    exact ⟨Nat.le_of_ble_eq_true rfl, Nat.le_of_ble_eq_true rfl, ⟨_, rfl⟩, _, fun _ _ h9 => h9, pw_ps h _ hW⟩
  · conv => whnf
    refine pw_br h (fun _ h => ?_) (fun _ h => ?_)
    · conv => whnf
      exact ⟨Nat.le_of_ble_eq_true rfl, Nat.le_of_ble_eq_true rfl, ⟨_, rfl⟩, _, fun _ _ h9 => h9, pw_ps h _ hW⟩
    · conv => whnf
      exact ⟨Nat.le_of_ble_eq_true rfl, Nat.le_of_ble_eq_true rfl, ⟨_, rfl⟩, _, fun _ _ h9 => h9, pw_ps h _ hW⟩
theorem dX9_worked_0 : decode cX9_worked 0 = .ok (.iload_n 2, 1) := by decide +kernel
theorem dX9_worked_1 : decode cX9_worked 1 = .ok (.ldc 105, 2) := by decide +kernel
theorem dX9_worked_3 : decode cX9_worked 3 = .ok (.if_icmp .ne 6, 3) := by decide +kernel
theorem dX9_worked_6 : decode cX9_worked 6 = .ok (.ldc 105, 2) := by decide +kernel
theorem dX9_worked_8 : decode cX9_worked 8 = .ok (.ireturn, 1) := by decide +kernel
theorem dX9_worked_9 : decode cX9_worked 9 = .ok (.iload_n 0, 1) := by decide +kernel
theorem dX9_worked_10 : decode cX9_worked 10 = .ok (.iconst 2, 1) := by decide +kernel
theorem dX9_worked_11 : decode cX9_worked 11 = .ok (.if_icmp .ne 12, 3) := by decide +kernel
theorem dX9_worked_14 : decode cX9_worked 14 = .ok (.iload_n 2, 1) := by decide +kernel
theorem dX9_worked_15 : decode cX9_worked 15 = .ok (.i2l, 1) := by decide +kernel
theorem dX9_worked_16 : decode cX9_worked 16 = .ok (.iload_n 1, 1) := by decide +kernel
theorem dX9_worked_17 : decode cX9_worked 17 = .ok (.i2l, 1) := by decide +kernel
theorem dX9_worked_18 : decode cX9_worked 18 = .ok (.ladd, 1) := by decide +kernel
theorem dX9_worked_19 : decode cX9_worked 19 = .ok (.invokestatic 119, 3) := by decide +kernel
theorem dX9_worked_22 : decode cX9_worked 22 = .ok (.ireturn, 1) := by decide +kernel
theorem dX9_worked_23 : decode cX9_worked 23 = .ok (.iload_n 0, 1) := by decide +kernel
theorem dX9_worked_24 : decode cX9_worked 24 = .ok (.iconst 3, 1) := by decide +kernel
theorem dX9_worked_25 : decode cX9_worked 25 = .ok (.if_icmp .ne 12, 3) := by decide +kernel
theorem dX9_worked_28 : decode cX9_worked 28 = .ok (.iload_n 2, 1) := by decide +kernel
theorem dX9_worked_29 : decode cX9_worked 29 = .ok (.i2l, 1) := by decide +kernel
theorem dX9_worked_30 : decode cX9_worked 30 = .ok (.iload_n 1, 1) := by decide +kernel
theorem dX9_worked_31 : decode cX9_worked 31 = .ok (.i2l, 1) := by decide +kernel
theorem dX9_worked_32 : decode cX9_worked 32 = .ok (.lmul, 1) := by decide +kernel
theorem dX9_worked_33 : decode cX9_worked 33 = .ok (.invokestatic 119, 3) := by decide +kernel
theorem dX9_worked_36 : decode cX9_worked 36 = .ok (.ireturn, 1) := by decide +kernel
theorem dX9_worked_37 : decode cX9_worked 37 = .ok (.iload_n 1, 1) := by decide +kernel
theorem dX9_worked_38 : decode cX9_worked 38 = .ok (.iconst 1, 1) := by decide +kernel
theorem dX9_worked_39 : decode cX9_worked 39 = .ok (.if_icmp .ge 6, 3) := by decide +kernel
theorem dX9_worked_42 : decode cX9_worked 42 = .ok (.ldc 105, 2) := by decide +kernel
theorem dX9_worked_44 : decode cX9_worked 44 = .ok (.ireturn, 1) := by decide +kernel
theorem dX9_worked_45 : decode cX9_worked 45 = .ok (.iload_n 0, 1) := by decide +kernel
theorem dX9_worked_46 : decode cX9_worked 46 = .ok (.iconst 5, 1) := by decide +kernel
theorem dX9_worked_47 : decode cX9_worked 47 = .ok (.if_icmp .ne 11, 3) := by decide +kernel
theorem dX9_worked_50 : decode cX9_worked 50 = .ok (.iload_n 2, 1) := by decide +kernel
theorem dX9_worked_51 : decode cX9_worked 51 = .ok (.iload_n 1, 1) := by decide +kernel
theorem dX9_worked_52 : decode cX9_worked 52 = .ok (.invokestatic 123, 3) := by decide +kernel
theorem dX9_worked_55 : decode cX9_worked 55 = .ok (.goto 8, 3) := by decide +kernel
theorem dX9_worked_58 : decode cX9_worked 58 = .ok (.iload_n 2, 1) := by decide +kernel
theorem dX9_worked_59 : decode cX9_worked 59 = .ok (.iload_n 1, 1) := by decide +kernel
theorem dX9_worked_60 : decode cX9_worked 60 = .ok (.invokestatic 128, 3) := by decide +kernel
theorem dX9_worked_63 : decode cX9_worked 63 = .ok (.ireturn, 1) := by decide +kernel
def is_X9_worked (Rt : np_Rt) : List (Nat × np_Op) := [(0, np_ild 1 2), (1, np_push 2 (.int (-2147483648))), (3, nq_icne 9), (6, np_push 2 (.int (-2147483648))), (8, np_ret Rt), (9, np_ild 1 0), (10, np_push 1 (.int 2)), (11, nq_icne 23), (14, np_ild 1 2), (15, np_i2l), (16, np_ild 1 1), (17, np_i2l), (18, np_lb (fun x y => x + y)), (19, nq_call 1 sp_X9_fitted 2 0 0 0 0), (22, np_ret Rt), (23, np_ild 1 0), (24, np_push 1 (.int 3)), (25, nq_icne 37), (28, np_ild 1 2), (29, np_i2l), (30, np_ild 1 1), (31, np_i2l), (32, np_lb (fun x y => x * y)), (33, nq_call 1 sp_X9_fitted 2 0 0 0 0), (36, np_ret Rt), (37, np_ild 1 1), (38, np_push 1 (.int 1)), (39, nq_ic (fun x y => y ≤ x) 45), (42, np_push 2 (.int (-2147483648))), (44, np_ret Rt), (45, np_ild 1 0), (46, np_push 1 (.int 5)), (47, nq_icne 58), (50, np_ild 1 2), (51, np_ild 1 1), (52, nq_call 2 sp_J9_floorDiv_7cf53 3 0 0 0 0), (55, np_goto 63), (58, np_ild 1 2), (59, np_ild 1 1), (60, nq_call 2 sp_J9_floorMod_7cf53 3 0 0 0 0), (63, np_ret Rt)]
set_option maxRecDepth 20000 in
theorem so_X9_worked {X : np_Ctx} {Rt : np_Rt} (hX : np_ok RX9 cX9_worked 3 1 60 0 0 .ireturn X) (hR : ∀ st w ce sl, Rt st w ce sl → X.2.2.1 st w ce sl) : ∀ q ∈ is_X9_worked Rt, np_S X q.1 q.2 :=
  List.forall_mem_cons.mpr ⟨np_s_iload_n hX dX9_worked_0 rfl, List.forall_mem_cons.mpr ⟨np_s_ldc hX dX9_worked_1 gw1400, List.forall_mem_cons.mpr ⟨np_S.mono (op := np_icne 9) (np_s_icmp_ne hX dX9_worked_3 (by decide)) nq_icne_le, List.forall_mem_cons.mpr ⟨np_s_ldc hX dX9_worked_6 gw1400, List.forall_mem_cons.mpr ⟨np_S.mono (op := np_ret X.2.2.1) (np_s_ret hX dX9_worked_8) (nq_ret_le hR), List.forall_mem_cons.mpr ⟨np_s_iload_n hX dX9_worked_9 rfl, List.forall_mem_cons.mpr ⟨np_s_iconst hX dX9_worked_10 (by decide), List.forall_mem_cons.mpr ⟨np_S.mono (op := np_icne 23) (np_s_icmp_ne hX dX9_worked_11 (by decide)) nq_icne_le, List.forall_mem_cons.mpr ⟨np_s_iload_n hX dX9_worked_14 rfl, List.forall_mem_cons.mpr ⟨np_s_i2l hX dX9_worked_15, List.forall_mem_cons.mpr ⟨np_s_iload_n hX dX9_worked_16 rfl, List.forall_mem_cons.mpr ⟨np_s_i2l hX dX9_worked_17, List.forall_mem_cons.mpr ⟨np_s_ladd hX dX9_worked_18, List.forall_mem_cons.mpr ⟨np_S.mono (op := np_call 1 sp_X9_fitted 2 0 0 0 0) (np_s_callS hX C_X9_fitted dX9_worked_19 gw1408 gw74 gw1406 gw1407 ⟨by decide, by decide, by decide⟩ (by decide) (by decide)) nq_call_le, List.forall_mem_cons.mpr ⟨np_S.mono (op := np_ret X.2.2.1) (np_s_ret hX dX9_worked_22) (nq_ret_le hR), List.forall_mem_cons.mpr ⟨np_s_iload_n hX dX9_worked_23 rfl, List.forall_mem_cons.mpr ⟨np_s_iconst hX dX9_worked_24 (by decide), List.forall_mem_cons.mpr ⟨np_S.mono (op := np_icne 37) (np_s_icmp_ne hX dX9_worked_25 (by decide)) nq_icne_le, List.forall_mem_cons.mpr ⟨np_s_iload_n hX dX9_worked_28 rfl, List.forall_mem_cons.mpr ⟨np_s_i2l hX dX9_worked_29, List.forall_mem_cons.mpr ⟨np_s_iload_n hX dX9_worked_30 rfl, List.forall_mem_cons.mpr ⟨np_s_i2l hX dX9_worked_31, List.forall_mem_cons.mpr ⟨np_s_lmul hX dX9_worked_32, List.forall_mem_cons.mpr ⟨np_S.mono (op := np_call 1 sp_X9_fitted 2 0 0 0 0) (np_s_callS hX C_X9_fitted dX9_worked_33 gw1408 gw74 gw1406 gw1407 ⟨by decide, by decide, by decide⟩ (by decide) (by decide)) nq_call_le, List.forall_mem_cons.mpr ⟨np_S.mono (op := np_ret X.2.2.1) (np_s_ret hX dX9_worked_36) (nq_ret_le hR), List.forall_mem_cons.mpr ⟨np_s_iload_n hX dX9_worked_37 rfl, List.forall_mem_cons.mpr ⟨np_s_iconst hX dX9_worked_38 (by decide), List.forall_mem_cons.mpr ⟨np_S.mono (op := np_ic (fun x y => y ≤ x) 45) (np_s_icmp_ge hX dX9_worked_39 (by decide)) nq_ic_le, List.forall_mem_cons.mpr ⟨np_s_ldc hX dX9_worked_42 gw1400, List.forall_mem_cons.mpr ⟨np_S.mono (op := np_ret X.2.2.1) (np_s_ret hX dX9_worked_44) (nq_ret_le hR), List.forall_mem_cons.mpr ⟨np_s_iload_n hX dX9_worked_45 rfl, List.forall_mem_cons.mpr ⟨np_s_iconst hX dX9_worked_46 (by decide), List.forall_mem_cons.mpr ⟨np_S.mono (op := np_icne 58) (np_s_icmp_ne hX dX9_worked_47 (by decide)) nq_icne_le, List.forall_mem_cons.mpr ⟨np_s_iload_n hX dX9_worked_50 rfl, List.forall_mem_cons.mpr ⟨np_s_iload_n hX dX9_worked_51 rfl, List.forall_mem_cons.mpr ⟨np_S.mono (op := np_call 2 sp_J9_floorDiv_7cf53 3 0 0 0 0) (np_s_callS hX C_J9_floorDiv_7cf53 dX9_worked_52 gw1416 gw82 gw1414 gw1415 ⟨by decide, by decide, by decide⟩ (by decide) (by decide)) nq_call_le, List.forall_mem_cons.mpr ⟨np_s_goto hX dX9_worked_55 (by decide), List.forall_mem_cons.mpr ⟨np_s_iload_n hX dX9_worked_58 rfl, List.forall_mem_cons.mpr ⟨np_s_iload_n hX dX9_worked_59 rfl, List.forall_mem_cons.mpr ⟨np_S.mono (op := np_call 2 sp_J9_floorMod_7cf53 3 0 0 0 0) (np_s_callS hX C_J9_floorMod_7cf53 dX9_worked_60 gw1419 gw82 gw1417 gw1418 ⟨by decide, by decide, by decide⟩ (by decide) (by decide)) nq_call_le, List.forall_mem_cons.mpr ⟨np_S.mono (op := np_ret X.2.2.1) (np_s_ret hX dX9_worked_63) (nq_ret_le hR), fun _ h => nomatch h⟩⟩⟩⟩⟩⟩⟩⟩⟩⟩⟩⟩⟩⟩⟩⟩⟩⟩⟩⟩⟩⟩⟩⟩⟩⟩⟩⟩⟩⟩⟩⟩⟩⟩⟩⟩⟩⟩⟩⟩⟩
noncomputable def m_X9_worked (S : pw_S) (x0 : Int32) (x1 : Int32) (x2 : Int32) : pw_R Int32 :=
 if x2 = (-2147483648) then
 (some (S, (-2147483648)))
 else
 (if x0 = 2 then
 (pw_b (m_X9_fitted S ((x2 : Int32).toInt64 + (x1 : Int32).toInt64)) fun S1 r4 =>
 some (S1, r4))
 else
 (if x0 = 3 then
 (pw_b (m_X9_fitted S ((x2 : Int32).toInt64 * (x1 : Int32).toInt64)) fun S6 r9 =>
 some (S6, r9))
 else
 (if 1 ≤ x1 then
 (if x0 = 5 then
 (pw_b (m_J9_floorDiv_7cf53 S x2 x1) fun S11 r14 =>
 some (S11, r14))
 else
 (pw_b (m_J9_floorMod_7cf53 S x2 x1) fun S16 r19 =>
 some (S16, r19)))
 else
 (some (S, (-2147483648))))))
def sp_X9_worked : np_Sp := fun vs w Q => ∃ (q : Nat) (S : pw_S) (x0 : Int32) (x1 : Int32) (x2 : Int32), vs = [.int x0, .int x1, .int x2] ∧ pw_W q w S ∧ pw_p (m_X9_worked S x0 x1 x2) (fun S' r => ∀ f', pw_W q (w.1, f') S' → Q (some (.int r)) (w.1, f'))
set_option maxRecDepth 100000 in
set_option maxHeartbeats 8000000 in
theorem C_X9_worked : np_C yX9_worked cX9_worked 3 (some .int) 1 60 0 0 sp_X9_worked := by
  refine np_of (by decide) ?_
  intro X vs w Q hsp hX hmn hRt hlt
  obtain ⟨q, S, x0, x1, x2, rfl, hW, h⟩ := hsp
  obtain ⟨n, f⟩ := w
  unfold m_X9_worked at h
  have hR : ∀ st w ce sl, np_rt (some .int) 0 0 Q st w ce sl → X.2.2.1 st w ce sl := fun _ _ _ _ h => by rw [hRt]; exact h
  refine np_soundW (so_X9_worked hX hR) [] 400 0 _ _ _ _ _ ?_
  conv => whnf
  refine pw_br h (fun _ h => ?_) (fun _ h => ?_)
  · conv => whnf
    exact ⟨Nat.le_of_ble_eq_true rfl, Nat.le_of_ble_eq_true rfl, ⟨_, rfl⟩, _, fun _ _ h9 => h9, pw_ps h _ hW⟩
  · conv => whnf
    refine pw_br h (fun _ h => ?_) (fun _ h => ?_)
    · conv => whnf
      refine ⟨q, S, ((x2 : Int32).toInt64 + (x1 : Int32).toInt64), rfl, hW, pw_bd h (fun S1 r4 h f2 hW3 => ?_)⟩
      conv => whnf
      exact ⟨Nat.le_of_ble_eq_true rfl, Nat.le_of_ble_eq_true rfl, ⟨_, rfl⟩, _, fun _ _ h9 => h9, pw_ps h _ hW3⟩
    · conv => whnf
      refine pw_br h (fun _ h => ?_) (fun _ h => ?_)
      · conv => whnf
        refine ⟨q, S, ((x2 : Int32).toInt64 * (x1 : Int32).toInt64), rfl, hW, pw_bd h (fun S6 r9 h f7 hW8 => ?_)⟩
        conv => whnf
        exact ⟨Nat.le_of_ble_eq_true rfl, Nat.le_of_ble_eq_true rfl, ⟨_, rfl⟩, _, fun _ _ h9 => h9, pw_ps h _ hW8⟩
      · conv => whnf
        refine pw_br h (fun _ h => ?_) (fun _ h => ?_)
        · conv => whnf
          refine pw_br h (fun _ h => ?_) (fun _ h => ?_)
          · conv => whnf
            refine ⟨q, S, x2, x1, rfl, hW, pw_bd h (fun S11 r14 h f12 hW13 => ?_)⟩
            conv => whnf
            exact ⟨Nat.le_of_ble_eq_true rfl, Nat.le_of_ble_eq_true rfl, ⟨_, rfl⟩, _, fun _ _ h9 => h9, pw_ps h _ hW13⟩
          · conv => whnf
            refine ⟨q, S, x2, x1, rfl, hW, pw_bd h (fun S16 r19 h f17 hW18 => ?_)⟩
            conv => whnf
            exact ⟨Nat.le_of_ble_eq_true rfl, Nat.le_of_ble_eq_true rfl, ⟨_, rfl⟩, _, fun _ _ h9 => h9, pw_ps h _ hW18⟩
        · conv => whnf
          exact ⟨Nat.le_of_ble_eq_true rfl, Nat.le_of_ble_eq_true rfl, ⟨_, rfl⟩, _, fun _ _ h9 => h9, pw_ps h _ hW⟩
theorem dX9_valueFor_0 : decode cX9_valueFor 0 = .ok (.iconst 0, 1) := by decide +kernel
theorem dX9_valueFor_1 : decode cX9_valueFor 1 = .ok (.istore_n 3, 1) := by decide +kernel
theorem dX9_valueFor_2 : decode cX9_valueFor 2 = .ok (.aload_n 0, 1) := by decide +kernel
theorem dX9_valueFor_3 : decode cX9_valueFor 3 = .ok (.iload_n 1, 1) := by decide +kernel
theorem dX9_valueFor_4 : decode cX9_valueFor 4 = .ok (.invokevirtual 30, 3) := by decide +kernel
theorem dX9_valueFor_7 : decode cX9_valueFor 7 = .ok (.iconst 1, 1) := by decide +kernel
theorem dX9_valueFor_8 : decode cX9_valueFor 8 = .ok (.isub, 1) := by decide +kernel
theorem dX9_valueFor_9 : decode cX9_valueFor 9 = .ok (.istore 4, 2) := by decide +kernel
theorem dX9_valueFor_11 : decode cX9_valueFor 11 = .ok (.iload 4, 2) := by decide +kernel
theorem dX9_valueFor_13 : decode cX9_valueFor 13 = .ok (.aload_n 0, 1) := by decide +kernel
theorem dX9_valueFor_14 : decode cX9_valueFor 14 = .ok (.iload_n 1, 1) := by decide +kernel
theorem dX9_valueFor_15 : decode cX9_valueFor 15 = .ok (.invokevirtual 38, 3) := by decide +kernel
theorem dX9_valueFor_18 : decode cX9_valueFor 18 = .ok (.if_icmp .lt 150, 3) := by decide +kernel
theorem dX9_valueFor_21 : decode cX9_valueFor 21 = .ok (.aload_n 0, 1) := by decide +kernel
theorem dX9_valueFor_22 : decode cX9_valueFor 22 = .ok (.iload 4, 2) := by decide +kernel
theorem dX9_valueFor_24 : decode cX9_valueFor 24 = .ok (.invokevirtual 74, 3) := by decide +kernel
theorem dX9_valueFor_27 : decode cX9_valueFor 27 = .ok (.istore 5, 2) := by decide +kernel
theorem dX9_valueFor_29 : decode cX9_valueFor 29 = .ok (.iload 5, 2) := by decide +kernel
theorem dX9_valueFor_31 : decode cX9_valueFor 31 = .ok (.ifCond .eq 9, 3) := by decide +kernel
theorem dX9_valueFor_34 : decode cX9_valueFor 34 = .ok (.iload 5, 2) := by decide +kernel
theorem dX9_valueFor_36 : decode cX9_valueFor 36 = .ok (.iconst 1, 1) := by decide +kernel
theorem dX9_valueFor_37 : decode cX9_valueFor 37 = .ok (.if_icmp .ne 6, 3) := by decide +kernel
theorem dX9_valueFor_40 : decode cX9_valueFor 40 = .ok (.iinc 3 1, 3) := by decide +kernel
theorem dX9_valueFor_43 : decode cX9_valueFor 43 = .ok (.iload 5, 2) := by decide +kernel
theorem dX9_valueFor_45 : decode cX9_valueFor 45 = .ok (.iconst 4, 1) := by decide +kernel
theorem dX9_valueFor_46 : decode cX9_valueFor 46 = .ok (.if_icmp .ne 6, 3) := by decide +kernel
theorem dX9_valueFor_49 : decode cX9_valueFor 49 = .ok (.iinc 3 (-1), 3) := by decide +kernel
theorem dX9_valueFor_52 : decode cX9_valueFor 52 = .ok (.aload_n 0, 1) := by decide +kernel
theorem dX9_valueFor_53 : decode cX9_valueFor 53 = .ok (.getfield 21, 3) := by decide +kernel
theorem dX9_valueFor_56 : decode cX9_valueFor 56 = .ok (.iload_n 3, 1) := by decide +kernel
theorem dX9_valueFor_57 : decode cX9_valueFor 57 = .ok (.iconst 1, 1) := by decide +kernel
theorem dX9_valueFor_58 : decode cX9_valueFor 58 = .ok (.isub, 1) := by decide +kernel
theorem dX9_valueFor_59 : decode cX9_valueFor 59 = .ok (.ldc 105, 2) := by decide +kernel
theorem dX9_valueFor_61 : decode cX9_valueFor 61 = .ok (.invokestatic 34, 3) := by decide +kernel
theorem dX9_valueFor_64 : decode cX9_valueFor 64 = .ok (.istore 6, 2) := by decide +kernel
theorem dX9_valueFor_66 : decode cX9_valueFor 66 = .ok (.iload 5, 2) := by decide +kernel
theorem dX9_valueFor_68 : decode cX9_valueFor 68 = .ok (.ifCond .ne 24, 3) := by decide +kernel
theorem dX9_valueFor_71 : decode cX9_valueFor 71 = .ok (.aload_n 2, 1) := by decide +kernel
theorem dX9_valueFor_72 : decode cX9_valueFor 72 = .ok (.aload_n 0, 1) := by decide +kernel
theorem dX9_valueFor_73 : decode cX9_valueFor 73 = .ok (.iload 4, 2) := by decide +kernel
theorem dX9_valueFor_75 : decode cX9_valueFor 75 = .ok (.invokevirtual 77, 3) := by decide +kernel
theorem dX9_valueFor_78 : decode cX9_valueFor 78 = .ok (.iconst 0, 1) := by decide +kernel
theorem dX9_valueFor_79 : decode cX9_valueFor 79 = .ok (.invokestatic 106, 3) := by decide +kernel
theorem dX9_valueFor_82 : decode cX9_valueFor 82 = .ok (.ldc 105, 2) := by decide +kernel
theorem dX9_valueFor_84 : decode cX9_valueFor 84 = .ok (.invokestatic 34, 3) := by decide +kernel
theorem dX9_valueFor_87 : decode cX9_valueFor 87 = .ok (.istore 7, 2) := by decide +kernel
theorem dX9_valueFor_89 : decode cX9_valueFor 89 = .ok (.goto 61, 3) := by decide +kernel
theorem dX9_valueFor_92 : decode cX9_valueFor 92 = .ok (.iload 5, 2) := by decide +kernel
theorem dX9_valueFor_94 : decode cX9_valueFor 94 = .ok (.iconst 1, 1) := by decide +kernel
theorem dX9_valueFor_95 : decode cX9_valueFor 95 = .ok (.if_icmp .ne 14, 3) := by decide +kernel
theorem dX9_valueFor_98 : decode cX9_valueFor 98 = .ok (.aload_n 0, 1) := by decide +kernel
theorem dX9_valueFor_99 : decode cX9_valueFor 99 = .ok (.iload 4, 2) := by decide +kernel
theorem dX9_valueFor_101 : decode cX9_valueFor 101 = .ok (.invokevirtual 77, 3) := by decide +kernel
theorem dX9_valueFor_104 : decode cX9_valueFor 104 = .ok (.istore 7, 2) := by decide +kernel
theorem dX9_valueFor_106 : decode cX9_valueFor 106 = .ok (.goto 44, 3) := by decide +kernel
theorem dX9_valueFor_109 : decode cX9_valueFor 109 = .ok (.iload 5, 2) := by decide +kernel
theorem dX9_valueFor_111 : decode cX9_valueFor 111 = .ok (.iconst 4, 1) := by decide +kernel
theorem dX9_valueFor_112 : decode cX9_valueFor 112 = .ok (.if_icmp .ne 23, 3) := by decide +kernel
theorem dX9_valueFor_115 : decode cX9_valueFor 115 = .ok (.aload_n 0, 1) := by decide +kernel
theorem dX9_valueFor_116 : decode cX9_valueFor 116 = .ok (.getfield 21, 3) := by decide +kernel
theorem dX9_valueFor_119 : decode cX9_valueFor 119 = .ok (.iload_n 3, 1) := by decide +kernel
theorem dX9_valueFor_120 : decode cX9_valueFor 120 = .ok (.ldc 105, 2) := by decide +kernel
theorem dX9_valueFor_122 : decode cX9_valueFor 122 = .ok (.invokestatic 34, 3) := by decide +kernel
theorem dX9_valueFor_125 : decode cX9_valueFor 125 = .ok (.iload 6, 2) := by decide +kernel
theorem dX9_valueFor_127 : decode cX9_valueFor 127 = .ok (.invokestatic 110, 3) := by decide +kernel
theorem dX9_valueFor_130 : decode cX9_valueFor 130 = .ok (.istore 7, 2) := by decide +kernel
theorem dX9_valueFor_132 : decode cX9_valueFor 132 = .ok (.goto 18, 3) := by decide +kernel
theorem dX9_valueFor_135 : decode cX9_valueFor 135 = .ok (.iload 5, 2) := by decide +kernel
theorem dX9_valueFor_137 : decode cX9_valueFor 137 = .ok (.aload_n 0, 1) := by decide +kernel
theorem dX9_valueFor_138 : decode cX9_valueFor 138 = .ok (.iload 4, 2) := by decide +kernel
theorem dX9_valueFor_140 : decode cX9_valueFor 140 = .ok (.invokevirtual 77, 3) := by decide +kernel
theorem dX9_valueFor_143 : decode cX9_valueFor 143 = .ok (.iload 6, 2) := by decide +kernel
theorem dX9_valueFor_145 : decode cX9_valueFor 145 = .ok (.invokestatic 113, 3) := by decide +kernel
theorem dX9_valueFor_148 : decode cX9_valueFor 148 = .ok (.istore 7, 2) := by decide +kernel
theorem dX9_valueFor_150 : decode cX9_valueFor 150 = .ok (.aload_n 0, 1) := by decide +kernel
theorem dX9_valueFor_151 : decode cX9_valueFor 151 = .ok (.getfield 21, 3) := by decide +kernel
theorem dX9_valueFor_154 : decode cX9_valueFor 154 = .ok (.iload_n 3, 1) := by decide +kernel
theorem dX9_valueFor_155 : decode cX9_valueFor 155 = .ok (.iconst 1, 1) := by decide +kernel
theorem dX9_valueFor_156 : decode cX9_valueFor 156 = .ok (.isub, 1) := by decide +kernel
theorem dX9_valueFor_157 : decode cX9_valueFor 157 = .ok (.iload 7, 2) := by decide +kernel
theorem dX9_valueFor_159 : decode cX9_valueFor 159 = .ok (.invokestatic 45, 3) := by decide +kernel
theorem dX9_valueFor_162 : decode cX9_valueFor 162 = .ok (.iinc 4 (-1), 3) := by decide +kernel
theorem dX9_valueFor_165 : decode cX9_valueFor 165 = .ok (.goto (-154), 3) := by decide +kernel
theorem dX9_valueFor_168 : decode cX9_valueFor 168 = .ok (.iload_n 3, 1) := by decide +kernel
theorem dX9_valueFor_169 : decode cX9_valueFor 169 = .ok (.iconst 1, 1) := by decide +kernel
theorem dX9_valueFor_170 : decode cX9_valueFor 170 = .ok (.if_icmp .ne 16, 3) := by decide +kernel
theorem dX9_valueFor_173 : decode cX9_valueFor 173 = .ok (.aload_n 0, 1) := by decide +kernel
theorem dX9_valueFor_174 : decode cX9_valueFor 174 = .ok (.getfield 21, 3) := by decide +kernel
theorem dX9_valueFor_177 : decode cX9_valueFor 177 = .ok (.iconst 0, 1) := by decide +kernel
theorem dX9_valueFor_178 : decode cX9_valueFor 178 = .ok (.ldc 105, 2) := by decide +kernel
theorem dX9_valueFor_180 : decode cX9_valueFor 180 = .ok (.invokestatic 34, 3) := by decide +kernel
theorem dX9_valueFor_183 : decode cX9_valueFor 183 = .ok (.goto 5, 3) := by decide +kernel
theorem dX9_valueFor_186 : decode cX9_valueFor 186 = .ok (.ldc 105, 2) := by decide +kernel
theorem dX9_valueFor_188 : decode cX9_valueFor 188 = .ok (.ireturn, 1) := by decide +kernel
def is_X9_valueFor (Rt : np_Rt) : List (Nat × np_Op) := [(0, np_push 1 (.int 0)), (1, nw_ist 1 3), (2, np_ald 1 0), (3, np_ild 1 1), (4, nw_callV 9 2 sp_X9_end 2 0 0 0 0), (7, np_push 1 (.int 1)), (8, np_ib (fun x y => x - y)), (9, nw_ist 2 4), (11, np_ild 2 4), (13, np_ald 1 0), (14, np_ild 1 1), (15, nw_callV 9 2 sp_X9_start 2 0 0 0 0), (18, nq_ic (fun x y => x < y) 168), (21, np_ald 1 0), (22, np_ild 2 4), (24, nw_callV 9 2 sp_X9_kind 2 0 0 0 0), (27, nw_ist 2 5), (29, np_ild 2 5), (31, nq_if (fun x => x = 0) 40), (34, np_ild 2 5), (36, np_push 1 (.int 1)), (37, nq_icne 43), (40, nw_iinc 3 1), (43, np_ild 2 5), (45, np_push 1 (.int 4)), (46, nq_icne 52), (49, nw_iinc 3 (-1)), (52, np_ald 1 0), (53, nw_getf 9 3), (56, np_ild 1 3), (57, np_push 1 (.int 1)), (58, np_ib (fun x y => x - y)), (59, np_push 2 (.int (-2147483648))), (61, nq_call 3 sp_X11_at 3 0 0 0 0), (64, nw_ist 2 6), (66, np_ild 2 5), (68, nq_ifne 92), (71, np_ald 1 2), (72, np_ald 1 0), (73, np_ild 2 4), (75, nw_callV 9 2 sp_X9_number 2 0 0 0 0), (78, np_push 1 (.int 0)), (79, nq_call 2 sp_X11_cellPlace 2 0 0 0 0), (82, np_push 2 (.int (-2147483648))), (84, nq_call 3 sp_X11_at 3 0 0 0 0), (87, nw_ist 2 7), (89, np_goto 150), (92, np_ild 2 5), (94, np_push 1 (.int 1)), (95, nq_icne 109), (98, np_ald 1 0), (99, np_ild 2 4), (101, nw_callV 9 2 sp_X9_number 2 0 0 0 0), (104, nw_ist 2 7), (106, np_goto 150), (109, np_ild 2 5), (111, np_push 1 (.int 4)), (112, nq_icne 135), (115, np_ald 1 0), (116, nw_getf 9 3), (119, np_ild 1 3), (120, np_push 2 (.int (-2147483648))), (122, nq_call 3 sp_X11_at 3 0 0 0 0), (125, np_ild 2 6), (127, nq_call 2 sp_X9_joined 2 0 0 0 0), (130, nw_ist 2 7), (132, np_goto 150), (135, np_ild 2 5), (137, np_ald 1 0), (138, np_ild 2 4), (140, nw_callV 9 2 sp_X9_number 2 0 0 0 0), (143, np_ild 2 6), (145, nq_call 3 sp_X9_worked 3 0 0 0 0), (148, nw_ist 2 7), (150, np_ald 1 0), (151, nw_getf 9 3), (154, np_ild 1 3), (155, np_push 1 (.int 1)), (156, np_ib (fun x y => x - y)), (157, np_ild 2 7), (159, nq_call 3 sp_X11_put 3 0 0 0 0), (162, nw_iinc 4 (-1)), (165, np_goto 11), (168, np_ild 1 3), (169, np_push 1 (.int 1)), (170, nq_icne 186), (173, np_ald 1 0), (174, nw_getf 9 3), (177, np_push 1 (.int 0)), (178, np_push 2 (.int (-2147483648))), (180, nq_call 3 sp_X11_at 3 0 0 0 0), (183, np_goto 188), (186, np_push 2 (.int (-2147483648))), (188, np_ret Rt)]
set_option maxRecDepth 20000 in
theorem so_X9_valueFor {X : np_Ctx} {Rt : np_Rt} (hX : np_ok RX9 cX9_valueFor 8 3 82 0 0 .ireturn X) (hR : ∀ st w ce sl, Rt st w ce sl → X.2.2.1 st w ce sl) : ∀ q ∈ is_X9_valueFor Rt, np_S X q.1 q.2 :=
  List.forall_mem_cons.mpr ⟨np_s_iconst hX dX9_valueFor_0 (by decide), List.forall_mem_cons.mpr ⟨np_S.mono (op := np_ist 1 3) (np_s_istore_n hX dX9_valueFor_1 rfl (by decide)) nw_ist_le, List.forall_mem_cons.mpr ⟨np_s_aload_n hX dX9_valueFor_2 rfl, List.forall_mem_cons.mpr ⟨np_s_iload_n hX dX9_valueFor_3 rfl, List.forall_mem_cons.mpr ⟨np_S.mono (op := np_callV 9 2 sp_X9_end 2 0 0 0 0) (np_s_callV hX C_X9_end dX9_valueFor_4 (q := (RX9, TX9, 7)) rfl rfl gw1367 gw74 gw1364 gw1366 gw44 ⟨by decide, by decide, by decide⟩ (by decide) (by decide)) nw_callV_le, List.forall_mem_cons.mpr ⟨np_s_iconst hX dX9_valueFor_7 (by decide), List.forall_mem_cons.mpr ⟨np_s_isub hX dX9_valueFor_8, List.forall_mem_cons.mpr ⟨np_S.mono (op := np_ist 2 4) (np_s_istore hX dX9_valueFor_9 (by decide)) nw_ist_le, List.forall_mem_cons.mpr ⟨np_s_iload hX dX9_valueFor_11, List.forall_mem_cons.mpr ⟨np_s_aload_n hX dX9_valueFor_13 rfl, List.forall_mem_cons.mpr ⟨np_s_iload_n hX dX9_valueFor_14 rfl, List.forall_mem_cons.mpr ⟨np_S.mono (op := np_callV 9 2 sp_X9_start 2 0 0 0 0) (np_s_callV hX C_X9_start dX9_valueFor_15 (q := (RX9, TX9, 7)) rfl rfl gw1363 gw74 gw1360 gw1362 gw43 ⟨by decide, by decide, by decide⟩ (by decide) (by decide)) nw_callV_le, List.forall_mem_cons.mpr ⟨np_S.mono (op := np_ic (fun x y => x < y) 168) (np_s_icmp_lt hX dX9_valueFor_18 (by decide)) nq_ic_le, List.forall_mem_cons.mpr ⟨np_s_aload_n hX dX9_valueFor_21 rfl, List.forall_mem_cons.mpr ⟨np_s_iload hX dX9_valueFor_22, List.forall_mem_cons.mpr ⟨np_S.mono (op := np_callV 9 2 sp_X9_kind 2 0 0 0 0) (np_s_callV hX C_X9_kind dX9_valueFor_24 (q := (RX9, TX9, 7)) rfl rfl gw1371 gw74 gw1368 gw1370 gw45 ⟨by decide, by decide, by decide⟩ (by decide) (by decide)) nw_callV_le, List.forall_mem_cons.mpr ⟨np_S.mono (op := np_ist 2 5) (np_s_istore hX dX9_valueFor_27 (by decide)) nw_ist_le, List.forall_mem_cons.mpr ⟨np_s_iload hX dX9_valueFor_29, List.forall_mem_cons.mpr ⟨np_S.mono (op := np_if (fun x => x = 0) 40) (np_s_if_eq hX dX9_valueFor_31 (by decide)) nq_if_le, List.forall_mem_cons.mpr ⟨np_s_iload hX dX9_valueFor_34, List.forall_mem_cons.mpr ⟨np_s_iconst hX dX9_valueFor_36 (by decide), List.forall_mem_cons.mpr ⟨np_S.mono (op := np_icne 43) (np_s_icmp_ne hX dX9_valueFor_37 (by decide)) nq_icne_le, List.forall_mem_cons.mpr ⟨np_S.mono (op := np_iinc 3 1) (np_s_iinc hX dX9_valueFor_40 (by decide)) nw_iinc_le, List.forall_mem_cons.mpr ⟨np_s_iload hX dX9_valueFor_43, List.forall_mem_cons.mpr ⟨np_s_iconst hX dX9_valueFor_45 (by decide), List.forall_mem_cons.mpr ⟨np_S.mono (op := np_icne 52) (np_s_icmp_ne hX dX9_valueFor_46 (by decide)) nq_icne_le, List.forall_mem_cons.mpr ⟨np_S.mono (op := np_iinc 3 (-1)) (np_s_iinc hX dX9_valueFor_49 (by decide)) nw_iinc_le, List.forall_mem_cons.mpr ⟨np_s_aload_n hX dX9_valueFor_52 rfl, List.forall_mem_cons.mpr ⟨np_S.mono (op := np_getf 9 3) (np_s_getf hX dX9_valueFor_53 (C := RX9) (T := TX9) (N := 7) rfl guX9 (by decide) gw421) nw_getf_le, List.forall_mem_cons.mpr ⟨np_s_iload_n hX dX9_valueFor_56 rfl, List.forall_mem_cons.mpr ⟨np_s_iconst hX dX9_valueFor_57 (by decide), List.forall_mem_cons.mpr ⟨np_s_isub hX dX9_valueFor_58, List.forall_mem_cons.mpr ⟨np_s_ldc hX dX9_valueFor_59 gw1400, List.forall_mem_cons.mpr ⟨np_S.mono (op := np_call 3 sp_X11_at 3 0 0 0 0) (np_s_callSN hX C_X11_at dX9_valueFor_61 gw653 gw63 gw1320 gw652 ⟨by decide, by decide, by decide⟩ (by decide) (by decide)) nq_call_le, List.forall_mem_cons.mpr ⟨np_S.mono (op := np_ist 2 6) (np_s_istore hX dX9_valueFor_64 (by decide)) nw_ist_le, List.forall_mem_cons.mpr ⟨np_s_iload hX dX9_valueFor_66, List.forall_mem_cons.mpr ⟨np_S.mono (op := np_ifne 92) (np_s_if_ne hX dX9_valueFor_68 (by decide)) nq_ifne_le, List.forall_mem_cons.mpr ⟨np_s_aload_n hX dX9_valueFor_71 rfl, List.forall_mem_cons.mpr ⟨np_s_aload_n hX dX9_valueFor_72 rfl, List.forall_mem_cons.mpr ⟨np_s_iload hX dX9_valueFor_73, List.forall_mem_cons.mpr ⟨np_S.mono (op := np_callV 9 2 sp_X9_number 2 0 0 0 0) (np_s_callV hX C_X9_number dX9_valueFor_75 (q := (RX9, TX9, 7)) rfl rfl gw1375 gw74 gw1372 gw1374 gw46 ⟨by decide, by decide, by decide⟩ (by decide) (by decide)) nw_callV_le, List.forall_mem_cons.mpr ⟨np_s_iconst hX dX9_valueFor_78 (by decide), List.forall_mem_cons.mpr ⟨np_S.mono (op := np_call 2 sp_X11_cellPlace 2 0 0 0 0) (np_s_callSN hX C_X11_cellPlace dX9_valueFor_79 gw725 gw63 gw1401 gw724 ⟨by decide, by decide, by decide⟩ (by decide) (by decide)) nq_call_le, List.forall_mem_cons.mpr ⟨np_s_ldc hX dX9_valueFor_82 gw1400, List.forall_mem_cons.mpr ⟨np_S.mono (op := np_call 3 sp_X11_at 3 0 0 0 0) (np_s_callSN hX C_X11_at dX9_valueFor_84 gw653 gw63 gw1320 gw652 ⟨by decide, by decide, by decide⟩ (by decide) (by decide)) nq_call_le, List.forall_mem_cons.mpr ⟨np_S.mono (op := np_ist 2 7) (np_s_istore hX dX9_valueFor_87 (by decide)) nw_ist_le, List.forall_mem_cons.mpr ⟨np_s_goto hX dX9_valueFor_89 (by decide), List.forall_mem_cons.mpr ⟨np_s_iload hX dX9_valueFor_92, List.forall_mem_cons.mpr ⟨np_s_iconst hX dX9_valueFor_94 (by decide), List.forall_mem_cons.mpr ⟨np_S.mono (op := np_icne 109) (np_s_icmp_ne hX dX9_valueFor_95 (by decide)) nq_icne_le, List.forall_mem_cons.mpr ⟨np_s_aload_n hX dX9_valueFor_98 rfl, List.forall_mem_cons.mpr ⟨np_s_iload hX dX9_valueFor_99, List.forall_mem_cons.mpr ⟨np_S.mono (op := np_callV 9 2 sp_X9_number 2 0 0 0 0) (np_s_callV hX C_X9_number dX9_valueFor_101 (q := (RX9, TX9, 7)) rfl rfl gw1375 gw74 gw1372 gw1374 gw46 ⟨by decide, by decide, by decide⟩ (by decide) (by decide)) nw_callV_le, List.forall_mem_cons.mpr ⟨np_S.mono (op := np_ist 2 7) (np_s_istore hX dX9_valueFor_104 (by decide)) nw_ist_le, List.forall_mem_cons.mpr ⟨np_s_goto hX dX9_valueFor_106 (by decide), List.forall_mem_cons.mpr ⟨np_s_iload hX dX9_valueFor_109, List.forall_mem_cons.mpr ⟨np_s_iconst hX dX9_valueFor_111 (by decide), List.forall_mem_cons.mpr ⟨np_S.mono (op := np_icne 135) (np_s_icmp_ne hX dX9_valueFor_112 (by decide)) nq_icne_le, List.forall_mem_cons.mpr ⟨np_s_aload_n hX dX9_valueFor_115 rfl, List.forall_mem_cons.mpr ⟨np_S.mono (op := np_getf 9 3) (np_s_getf hX dX9_valueFor_116 (C := RX9) (T := TX9) (N := 7) rfl guX9 (by decide) gw421) nw_getf_le, List.forall_mem_cons.mpr ⟨np_s_iload_n hX dX9_valueFor_119 rfl, List.forall_mem_cons.mpr ⟨np_s_ldc hX dX9_valueFor_120 gw1400, List.forall_mem_cons.mpr ⟨np_S.mono (op := np_call 3 sp_X11_at 3 0 0 0 0) (np_s_callSN hX C_X11_at dX9_valueFor_122 gw653 gw63 gw1320 gw652 ⟨by decide, by decide, by decide⟩ (by decide) (by decide)) nq_call_le, List.forall_mem_cons.mpr ⟨np_s_iload hX dX9_valueFor_125, List.forall_mem_cons.mpr ⟨np_S.mono (op := np_call 2 sp_X9_joined 2 0 0 0 0) (np_s_callS hX C_X9_joined dX9_valueFor_127 gw1404 gw74 gw1402 gw1403 ⟨by decide, by decide, by decide⟩ (by decide) (by decide)) nq_call_le, List.forall_mem_cons.mpr ⟨np_S.mono (op := np_ist 2 7) (np_s_istore hX dX9_valueFor_130 (by decide)) nw_ist_le, List.forall_mem_cons.mpr ⟨np_s_goto hX dX9_valueFor_132 (by decide), List.forall_mem_cons.mpr ⟨np_s_iload hX dX9_valueFor_135, List.forall_mem_cons.mpr ⟨np_s_aload_n hX dX9_valueFor_137 rfl, List.forall_mem_cons.mpr ⟨np_s_iload hX dX9_valueFor_138, List.forall_mem_cons.mpr ⟨np_S.mono (op := np_callV 9 2 sp_X9_number 2 0 0 0 0) (np_s_callV hX C_X9_number dX9_valueFor_140 (q := (RX9, TX9, 7)) rfl rfl gw1375 gw74 gw1372 gw1374 gw46 ⟨by decide, by decide, by decide⟩ (by decide) (by decide)) nw_callV_le, List.forall_mem_cons.mpr ⟨np_s_iload hX dX9_valueFor_143, List.forall_mem_cons.mpr ⟨np_S.mono (op := np_call 3 sp_X9_worked 3 0 0 0 0) (np_s_callS hX C_X9_worked dX9_valueFor_145 gw1413 gw74 gw1411 gw1412 ⟨by decide, by decide, by decide⟩ (by decide) (by decide)) nq_call_le, List.forall_mem_cons.mpr ⟨np_S.mono (op := np_ist 2 7) (np_s_istore hX dX9_valueFor_148 (by decide)) nw_ist_le, List.forall_mem_cons.mpr ⟨np_s_aload_n hX dX9_valueFor_150 rfl, List.forall_mem_cons.mpr ⟨np_S.mono (op := np_getf 9 3) (np_s_getf hX dX9_valueFor_151 (C := RX9) (T := TX9) (N := 7) rfl guX9 (by decide) gw421) nw_getf_le, List.forall_mem_cons.mpr ⟨np_s_iload_n hX dX9_valueFor_154 rfl, List.forall_mem_cons.mpr ⟨np_s_iconst hX dX9_valueFor_155 (by decide), List.forall_mem_cons.mpr ⟨np_s_isub hX dX9_valueFor_156, List.forall_mem_cons.mpr ⟨np_s_iload hX dX9_valueFor_157, List.forall_mem_cons.mpr ⟨np_S.mono (op := np_call 3 sp_X11_put 3 0 0 0 0) (np_s_callSN hX C_X11_put dX9_valueFor_159 gw632 gw63 gw1329 gw631 ⟨by decide, by decide, by decide⟩ (by decide) (by decide)) nq_call_le, List.forall_mem_cons.mpr ⟨np_S.mono (op := np_iinc 4 (-1)) (np_s_iinc hX dX9_valueFor_162 (by decide)) nw_iinc_le, List.forall_mem_cons.mpr ⟨np_s_goto hX dX9_valueFor_165 (by decide), List.forall_mem_cons.mpr ⟨np_s_iload_n hX dX9_valueFor_168 rfl, List.forall_mem_cons.mpr ⟨np_s_iconst hX dX9_valueFor_169 (by decide), List.forall_mem_cons.mpr ⟨np_S.mono (op := np_icne 186) (np_s_icmp_ne hX dX9_valueFor_170 (by decide)) nq_icne_le, List.forall_mem_cons.mpr ⟨np_s_aload_n hX dX9_valueFor_173 rfl, List.forall_mem_cons.mpr ⟨np_S.mono (op := np_getf 9 3) (np_s_getf hX dX9_valueFor_174 (C := RX9) (T := TX9) (N := 7) rfl guX9 (by decide) gw421) nw_getf_le, List.forall_mem_cons.mpr ⟨np_s_iconst hX dX9_valueFor_177 (by decide), List.forall_mem_cons.mpr ⟨np_s_ldc hX dX9_valueFor_178 gw1400, List.forall_mem_cons.mpr ⟨np_S.mono (op := np_call 3 sp_X11_at 3 0 0 0 0) (np_s_callSN hX C_X11_at dX9_valueFor_180 gw653 gw63 gw1320 gw652 ⟨by decide, by decide, by decide⟩ (by decide) (by decide)) nq_call_le, List.forall_mem_cons.mpr ⟨np_s_goto hX dX9_valueFor_183 (by decide), List.forall_mem_cons.mpr ⟨np_s_ldc hX dX9_valueFor_186 gw1400, List.forall_mem_cons.mpr ⟨np_S.mono (op := np_ret X.2.2.1) (np_s_ret hX dX9_valueFor_188) (nq_ret_le hR), fun _ h => nomatch h⟩⟩⟩⟩⟩⟩⟩⟩⟩⟩⟩⟩⟩⟩⟩⟩⟩⟩⟩⟩⟩⟩⟩⟩⟩⟩⟩⟩⟩⟩⟩⟩⟩⟩⟩⟩⟩⟩⟩⟩⟩⟩⟩⟩⟩⟩⟩⟩⟩⟩⟩⟩⟩⟩⟩⟩⟩⟩⟩⟩⟩⟩⟩⟩⟩⟩⟩⟩⟩⟩⟩⟩⟩⟩⟩⟩⟩⟩⟩⟩⟩⟩⟩⟩⟩⟩⟩⟩⟩⟩⟩⟩⟩⟩
noncomputable def m_X9_valueFor_11 : Nat → pw_S → Nat → Int32 → Nat → Nat → Int32 → Int32 → pw_R Int32
| 0, _, _, _, _, _, _, _ => none
| N + 1, S, v0, v1, va2, vi2, v3, v4 =>
 pw_b (m_X9_start S v0 v1) fun S1 r4 =>
 if v4 < r4 then
 (if v3 = 1 then
 (pw_b (m_X11_at S1 25 v0 0 (-2147483648)) fun S6 r9 =>
 some (S6, r9))
 else
 (some (S1, (-2147483648))))
 else
 (pw_b (m_X9_kind S1 v0 v4) fun S11 r14 =>
 pw_l (r14 : Int32) fun z16 =>
 if z16 = 0 then
 (pw_l (v3 + 1 : Int32) fun z17 =>
 if z16 = 4 then
 (pw_l (z17 + (-1) : Int32) fun z18 =>
 pw_b (m_X11_at S11 25 v0 (z18 - 1) (-2147483648)) fun S19 r22 =>
 pw_l (r22 : Int32) fun z24 =>
 if z16 = 0 then
 (pw_b (m_X9_number S19 v0 v4) fun S25 r28 =>
 pw_b (m_X11_cellPlace S25 r28 0) fun S30 r33 =>
 pw_b (m_X11_at S30 va2 vi2 r33 (-2147483648)) fun S35 r38 =>
 pw_l (r38 : Int32) fun z40 =>
 pw_b (m_X11_put S35 25 v0 (z18 - 1) z40) fun S41 r44 =>
 pw_l (v4 + (-1) : Int32) fun z46 =>
 m_X9_valueFor_11 N S41 v0 v1 va2 vi2 z18 z46)
 else
 (if z16 = 1 then
 (pw_b (m_X9_number S19 v0 v4) fun S47 r50 =>
 pw_l (r50 : Int32) fun z52 =>
 pw_b (m_X11_put S47 25 v0 (z18 - 1) z52) fun S53 r56 =>
 pw_l (v4 + (-1) : Int32) fun z58 =>
 m_X9_valueFor_11 N S53 v0 v1 va2 vi2 z18 z58)
 else
 (if z16 = 4 then
 (pw_b (m_X11_at S19 25 v0 z18 (-2147483648)) fun S59 r62 =>
 pw_b (m_X9_joined S59 r62 z24) fun S64 r67 =>
 pw_l (r67 : Int32) fun z69 =>
 pw_b (m_X11_put S64 25 v0 (z18 - 1) z69) fun S70 r73 =>
 pw_l (v4 + (-1) : Int32) fun z75 =>
 m_X9_valueFor_11 N S70 v0 v1 va2 vi2 z18 z75)
 else
 (pw_b (m_X9_number S19 v0 v4) fun S76 r79 =>
 pw_b (m_X9_worked S76 z16 r79 z24) fun S81 r84 =>
 pw_l (r84 : Int32) fun z86 =>
 pw_b (m_X11_put S81 25 v0 (z18 - 1) z86) fun S87 r90 =>
 pw_l (v4 + (-1) : Int32) fun z92 =>
 m_X9_valueFor_11 N S87 v0 v1 va2 vi2 z18 z92))))
 else
 (pw_b (m_X11_at S11 25 v0 (z17 - 1) (-2147483648)) fun S93 r96 =>
 pw_l (r96 : Int32) fun z98 =>
 if z16 = 0 then
 (pw_b (m_X9_number S93 v0 v4) fun S99 r102 =>
 pw_b (m_X11_cellPlace S99 r102 0) fun S104 r107 =>
 pw_b (m_X11_at S104 va2 vi2 r107 (-2147483648)) fun S109 r112 =>
 pw_l (r112 : Int32) fun z114 =>
 pw_b (m_X11_put S109 25 v0 (z17 - 1) z114) fun S115 r118 =>
 pw_l (v4 + (-1) : Int32) fun z120 =>
 m_X9_valueFor_11 N S115 v0 v1 va2 vi2 z17 z120)
 else
 (if z16 = 1 then
 (pw_b (m_X9_number S93 v0 v4) fun S121 r124 =>
 pw_l (r124 : Int32) fun z126 =>
 pw_b (m_X11_put S121 25 v0 (z17 - 1) z126) fun S127 r130 =>
 pw_l (v4 + (-1) : Int32) fun z132 =>
 m_X9_valueFor_11 N S127 v0 v1 va2 vi2 z17 z132)
 else
 (if z16 = 4 then
 (pw_b (m_X11_at S93 25 v0 z17 (-2147483648)) fun S133 r136 =>
 pw_b (m_X9_joined S133 r136 z98) fun S138 r141 =>
 pw_l (r141 : Int32) fun z143 =>
 pw_b (m_X11_put S138 25 v0 (z17 - 1) z143) fun S144 r147 =>
 pw_l (v4 + (-1) : Int32) fun z149 =>
 m_X9_valueFor_11 N S144 v0 v1 va2 vi2 z17 z149)
 else
 (pw_b (m_X9_number S93 v0 v4) fun S150 r153 =>
 pw_b (m_X9_worked S150 z16 r153 z98) fun S155 r158 =>
 pw_l (r158 : Int32) fun z160 =>
 pw_b (m_X11_put S155 25 v0 (z17 - 1) z160) fun S161 r164 =>
 pw_l (v4 + (-1) : Int32) fun z166 =>
 m_X9_valueFor_11 N S161 v0 v1 va2 vi2 z17 z166)))))
 else
 (if z16 = 1 then
 (pw_l (v3 + 1 : Int32) fun z167 =>
 if z16 = 4 then
 (pw_l (z167 + (-1) : Int32) fun z168 =>
 pw_b (m_X11_at S11 25 v0 (z168 - 1) (-2147483648)) fun S169 r172 =>
 pw_l (r172 : Int32) fun z174 =>
 if z16 = 0 then
 (pw_b (m_X9_number S169 v0 v4) fun S175 r178 =>
 pw_b (m_X11_cellPlace S175 r178 0) fun S180 r183 =>
 pw_b (m_X11_at S180 va2 vi2 r183 (-2147483648)) fun S185 r188 =>
 pw_l (r188 : Int32) fun z190 =>
 pw_b (m_X11_put S185 25 v0 (z168 - 1) z190) fun S191 r194 =>
 pw_l (v4 + (-1) : Int32) fun z196 =>
 m_X9_valueFor_11 N S191 v0 v1 va2 vi2 z168 z196)
 else
 (if z16 = 1 then
 (pw_b (m_X9_number S169 v0 v4) fun S197 r200 =>
 pw_l (r200 : Int32) fun z202 =>
 pw_b (m_X11_put S197 25 v0 (z168 - 1) z202) fun S203 r206 =>
 pw_l (v4 + (-1) : Int32) fun z208 =>
 m_X9_valueFor_11 N S203 v0 v1 va2 vi2 z168 z208)
 else
 (if z16 = 4 then
 (pw_b (m_X11_at S169 25 v0 z168 (-2147483648)) fun S209 r212 =>
 pw_b (m_X9_joined S209 r212 z174) fun S214 r217 =>
 pw_l (r217 : Int32) fun z219 =>
 pw_b (m_X11_put S214 25 v0 (z168 - 1) z219) fun S220 r223 =>
 pw_l (v4 + (-1) : Int32) fun z225 =>
 m_X9_valueFor_11 N S220 v0 v1 va2 vi2 z168 z225)
 else
 (pw_b (m_X9_number S169 v0 v4) fun S226 r229 =>
 pw_b (m_X9_worked S226 z16 r229 z174) fun S231 r234 =>
 pw_l (r234 : Int32) fun z236 =>
 pw_b (m_X11_put S231 25 v0 (z168 - 1) z236) fun S237 r240 =>
 pw_l (v4 + (-1) : Int32) fun z242 =>
 m_X9_valueFor_11 N S237 v0 v1 va2 vi2 z168 z242))))
 else
 (pw_b (m_X11_at S11 25 v0 (z167 - 1) (-2147483648)) fun S243 r246 =>
 pw_l (r246 : Int32) fun z248 =>
 if z16 = 0 then
 (pw_b (m_X9_number S243 v0 v4) fun S249 r252 =>
 pw_b (m_X11_cellPlace S249 r252 0) fun S254 r257 =>
 pw_b (m_X11_at S254 va2 vi2 r257 (-2147483648)) fun S259 r262 =>
 pw_l (r262 : Int32) fun z264 =>
 pw_b (m_X11_put S259 25 v0 (z167 - 1) z264) fun S265 r268 =>
 pw_l (v4 + (-1) : Int32) fun z270 =>
 m_X9_valueFor_11 N S265 v0 v1 va2 vi2 z167 z270)
 else
 (if z16 = 1 then
 (pw_b (m_X9_number S243 v0 v4) fun S271 r274 =>
 pw_l (r274 : Int32) fun z276 =>
 pw_b (m_X11_put S271 25 v0 (z167 - 1) z276) fun S277 r280 =>
 pw_l (v4 + (-1) : Int32) fun z282 =>
 m_X9_valueFor_11 N S277 v0 v1 va2 vi2 z167 z282)
 else
 (if z16 = 4 then
 (pw_b (m_X11_at S243 25 v0 z167 (-2147483648)) fun S283 r286 =>
 pw_b (m_X9_joined S283 r286 z248) fun S288 r291 =>
 pw_l (r291 : Int32) fun z293 =>
 pw_b (m_X11_put S288 25 v0 (z167 - 1) z293) fun S294 r297 =>
 pw_l (v4 + (-1) : Int32) fun z299 =>
 m_X9_valueFor_11 N S294 v0 v1 va2 vi2 z167 z299)
 else
 (pw_b (m_X9_number S243 v0 v4) fun S300 r303 =>
 pw_b (m_X9_worked S300 z16 r303 z248) fun S305 r308 =>
 pw_l (r308 : Int32) fun z310 =>
 pw_b (m_X11_put S305 25 v0 (z167 - 1) z310) fun S311 r314 =>
 pw_l (v4 + (-1) : Int32) fun z316 =>
 m_X9_valueFor_11 N S311 v0 v1 va2 vi2 z167 z316)))))
 else
 (if z16 = 4 then
 (pw_l (v3 + (-1) : Int32) fun z317 =>
 pw_b (m_X11_at S11 25 v0 (z317 - 1) (-2147483648)) fun S318 r321 =>
 pw_l (r321 : Int32) fun z323 =>
 if z16 = 0 then
 (pw_b (m_X9_number S318 v0 v4) fun S324 r327 =>
 pw_b (m_X11_cellPlace S324 r327 0) fun S329 r332 =>
 pw_b (m_X11_at S329 va2 vi2 r332 (-2147483648)) fun S334 r337 =>
 pw_l (r337 : Int32) fun z339 =>
 pw_b (m_X11_put S334 25 v0 (z317 - 1) z339) fun S340 r343 =>
 pw_l (v4 + (-1) : Int32) fun z345 =>
 m_X9_valueFor_11 N S340 v0 v1 va2 vi2 z317 z345)
 else
 (if z16 = 1 then
 (pw_b (m_X9_number S318 v0 v4) fun S346 r349 =>
 pw_l (r349 : Int32) fun z351 =>
 pw_b (m_X11_put S346 25 v0 (z317 - 1) z351) fun S352 r355 =>
 pw_l (v4 + (-1) : Int32) fun z357 =>
 m_X9_valueFor_11 N S352 v0 v1 va2 vi2 z317 z357)
 else
 (if z16 = 4 then
 (pw_b (m_X11_at S318 25 v0 z317 (-2147483648)) fun S358 r361 =>
 pw_b (m_X9_joined S358 r361 z323) fun S363 r366 =>
 pw_l (r366 : Int32) fun z368 =>
 pw_b (m_X11_put S363 25 v0 (z317 - 1) z368) fun S369 r372 =>
 pw_l (v4 + (-1) : Int32) fun z374 =>
 m_X9_valueFor_11 N S369 v0 v1 va2 vi2 z317 z374)
 else
 (pw_b (m_X9_number S318 v0 v4) fun S375 r378 =>
 pw_b (m_X9_worked S375 z16 r378 z323) fun S380 r383 =>
 pw_l (r383 : Int32) fun z385 =>
 pw_b (m_X11_put S380 25 v0 (z317 - 1) z385) fun S386 r389 =>
 pw_l (v4 + (-1) : Int32) fun z391 =>
 m_X9_valueFor_11 N S386 v0 v1 va2 vi2 z317 z391))))
 else
 (pw_b (m_X11_at S11 25 v0 (v3 - 1) (-2147483648)) fun S392 r395 =>
 pw_l (r395 : Int32) fun z397 =>
 if z16 = 0 then
 (pw_b (m_X9_number S392 v0 v4) fun S398 r401 =>
 pw_b (m_X11_cellPlace S398 r401 0) fun S403 r406 =>
 pw_b (m_X11_at S403 va2 vi2 r406 (-2147483648)) fun S408 r411 =>
 pw_l (r411 : Int32) fun z413 =>
 pw_b (m_X11_put S408 25 v0 (v3 - 1) z413) fun S414 r417 =>
 pw_l (v4 + (-1) : Int32) fun z419 =>
 m_X9_valueFor_11 N S414 v0 v1 va2 vi2 v3 z419)
 else
 (if z16 = 1 then
 (pw_b (m_X9_number S392 v0 v4) fun S420 r423 =>
 pw_l (r423 : Int32) fun z425 =>
 pw_b (m_X11_put S420 25 v0 (v3 - 1) z425) fun S426 r429 =>
 pw_l (v4 + (-1) : Int32) fun z431 =>
 m_X9_valueFor_11 N S426 v0 v1 va2 vi2 v3 z431)
 else
 (if z16 = 4 then
 (pw_b (m_X11_at S392 25 v0 v3 (-2147483648)) fun S432 r435 =>
 pw_b (m_X9_joined S432 r435 z397) fun S437 r440 =>
 pw_l (r440 : Int32) fun z442 =>
 pw_b (m_X11_put S437 25 v0 (v3 - 1) z442) fun S443 r446 =>
 pw_l (v4 + (-1) : Int32) fun z448 =>
 m_X9_valueFor_11 N S443 v0 v1 va2 vi2 v3 z448)
 else
 (pw_b (m_X9_number S392 v0 v4) fun S449 r452 =>
 pw_b (m_X9_worked S449 z16 r452 z397) fun S454 r457 =>
 pw_l (r457 : Int32) fun z459 =>
 pw_b (m_X11_put S454 25 v0 (v3 - 1) z459) fun S460 r463 =>
 pw_l (v4 + (-1) : Int32) fun z465 =>
 m_X9_valueFor_11 N S460 v0 v1 va2 vi2 v3 z465)))))))
set_option maxRecDepth 100000 in
set_option maxHeartbeats 8000000 in
theorem L_X9_valueFor_11 {X : np_Ctx} (hX : np_ok RX9 cX9_valueFor 8 3 82 0 0 .ireturn X) {Q : Option Value → np_W → Prop} {q n : Nat} (hR : ∀ st w ce sl, np_rt (some .int) 0 0 Q st w ce sl → X.2.2.1 st w ce sl) : ∀ (N : Nat) (S : pw_S) (v0 : Nat) (v1 : Int32) (va2 : Nat) (vi2 : Nat) (v3 : Int32) (v4 : Int32) (f : Nat → Option np_E) (hv0 : pw_ok q 57 v0 = true) (ha2 : pw_arr va2 = true) (hi2 : pw_ok q va2 vi2 = true), pw_W q (n, f) S → pw_p (m_X9_valueFor_11 N S v0 v1 va2 vi2 v3 v4) (fun S' r => ∀ f', pw_W q (n, f') S' → Q (some (.int r)) (n, f')) → np_G X 11 [(0, .ref (pw_pl 57 v0)), (1, .int v1), (2, .ref (pw_pl va2 vi2)), (3, .int v3), (4, .int v4)] [] (n, f) 0 0 := by
  intro N
  induction N with
  | zero =>
    intro S v0 v1 va2 vi2 v3 v4 f hv0 ha2 hi2 hW h
    exact (pw_pn h).elim
  | succ N ih =>
    intro S v0 v1 va2 vi2 v3 v4 f hv0 ha2 hi2 hW h
    unfold m_X9_valueFor_11 at h
    refine np_soundW (so_X9_valueFor hX hR) [11] 400 11 _ _ _ _ _ ?_
    conv => whnf
    refine np_rd_i (hW.g hv0) ?_
    conv => whnf
    refine ⟨q, S, v0, v1, rfl, hv0, hW, pw_bd h (fun S1 r4 h f2 hW3 => ?_)⟩
    conv => whnf
    refine pw_br h (fun _ h => ?_) (fun _ h => ?_)
    · conv => whnf
      refine pw_br h (fun _ h => ?_) (fun _ h => ?_)
      · conv => whnf
        refine np_rd_i (hW3.g hv0) ?_
        conv => whnf
        refine ⟨q, S1, 25, v0, 0, (-2147483648), rfl, rfl, hv0, hW3, pw_bd h (fun S6 r9 h f7 hW8 => ?_)⟩
        conv => whnf
        exact ⟨Nat.le_of_ble_eq_true rfl, Nat.le_of_ble_eq_true rfl, ⟨_, rfl⟩, _, fun _ _ h9 => h9, pw_ps h _ hW8⟩
      · conv => whnf
        exact ⟨Nat.le_of_ble_eq_true rfl, Nat.le_of_ble_eq_true rfl, ⟨_, rfl⟩, _, fun _ _ h9 => h9, pw_ps h _ hW3⟩
    · conv => whnf
      refine np_rd_i (hW3.g hv0) ?_
      conv => whnf
      refine ⟨q, S1, v0, v4, rfl, hv0, hW3, pw_bd h (fun S11 r14 h f12 hW13 => ?_)⟩
      conv => whnf
      refine pw_st h (fun z16 h => ?_)
      conv => whnf
      refine pw_br h (fun _ h => ?_) (fun _ h => ?_)
      · conv => whnf
        refine pw_st h (fun z17 h => ?_)
        conv => whnf
        refine pw_br h (fun _ h => ?_) (fun _ h => ?_)
        · conv => whnf
          refine pw_st h (fun z18 h => ?_)
          conv => whnf
          refine np_rd_i (hW13.g hv0) ?_
          conv => whnf
          refine ⟨q, S11, 25, v0, (z18 - 1), (-2147483648), rfl, rfl, hv0, hW13, pw_bd h (fun S19 r22 h f20 hW21 => ?_)⟩
          conv => whnf
          refine pw_st h (fun z24 h => ?_)
          conv => whnf
          refine pw_br h (fun _ h => ?_) (fun _ h => ?_)
          · conv => whnf
            refine np_rd_i (hW21.g hv0) ?_
            conv => whnf
            refine ⟨q, S19, v0, v4, rfl, hv0, hW21, pw_bd h (fun S25 r28 h f26 hW27 => ?_)⟩
            conv => whnf
            refine ⟨q, S25, r28, 0, rfl, hW27, pw_bd h (fun S30 r33 h f31 hW32 => ?_)⟩
            conv => whnf
            refine ⟨q, S30, va2, vi2, r33, (-2147483648), rfl, ha2, hi2, hW32, pw_bd h (fun S35 r38 h f36 hW37 => ?_)⟩
            conv => whnf
            refine pw_st h (fun z40 h => ?_)
            conv => whnf
            refine np_rd_i (hW37.g hv0) ?_
            conv => whnf
            refine ⟨q, S35, 25, v0, (z18 - 1), z40, rfl, rfl, hv0, hW37, pw_bd h (fun S41 r44 h f42 hW43 => ?_)⟩
            conv => whnf
            refine pw_st h (fun z46 h => ?_)
            conv => whnf
            exact np_gl (ih S41 v0 v1 va2 vi2 z18 z46 f42 hv0 ha2 hi2 hW43 h) ⟨rfl, rfl, rfl, rfl, rfl, trivial⟩
          · conv => whnf
            refine pw_br h (fun _ h => ?_) (fun _ h => ?_)
            · conv => whnf
              refine np_rd_i (hW21.g hv0) ?_
              conv => whnf
              refine ⟨q, S19, v0, v4, rfl, hv0, hW21, pw_bd h (fun S47 r50 h f48 hW49 => ?_)⟩
              conv => whnf
              refine pw_st h (fun z52 h => ?_)
              conv => whnf
              refine np_rd_i (hW49.g hv0) ?_
              conv => whnf
              refine ⟨q, S47, 25, v0, (z18 - 1), z52, rfl, rfl, hv0, hW49, pw_bd h (fun S53 r56 h f54 hW55 => ?_)⟩
              conv => whnf
              refine pw_st h (fun z58 h => ?_)
              conv => whnf
              exact np_gl (ih S53 v0 v1 va2 vi2 z18 z58 f54 hv0 ha2 hi2 hW55 h) ⟨rfl, rfl, rfl, rfl, rfl, trivial⟩
            · conv => whnf
              refine pw_br h (fun _ h => ?_) (fun _ h => ?_)
              · conv => whnf
                refine np_rd_i (hW21.g hv0) ?_
                conv => whnf
                refine ⟨q, S19, 25, v0, z18, (-2147483648), rfl, rfl, hv0, hW21, pw_bd h (fun S59 r62 h f60 hW61 => ?_)⟩
                conv => whnf
                refine ⟨q, S59, r62, z24, rfl, hW61, pw_bd h (fun S64 r67 h f65 hW66 => ?_)⟩
                conv => whnf
                refine pw_st h (fun z69 h => ?_)
                conv => whnf
                refine np_rd_i (hW66.g hv0) ?_
                conv => whnf
                refine ⟨q, S64, 25, v0, (z18 - 1), z69, rfl, rfl, hv0, hW66, pw_bd h (fun S70 r73 h f71 hW72 => ?_)⟩
                conv => whnf
                refine pw_st h (fun z75 h => ?_)
                conv => whnf
                exact np_gl (ih S70 v0 v1 va2 vi2 z18 z75 f71 hv0 ha2 hi2 hW72 h) ⟨rfl, rfl, rfl, rfl, rfl, trivial⟩
              · conv => whnf
                refine np_rd_i (hW21.g hv0) ?_
                conv => whnf
                refine ⟨q, S19, v0, v4, rfl, hv0, hW21, pw_bd h (fun S76 r79 h f77 hW78 => ?_)⟩
                conv => whnf
                refine ⟨q, S76, z16, r79, z24, rfl, hW78, pw_bd h (fun S81 r84 h f82 hW83 => ?_)⟩
                conv => whnf
                refine pw_st h (fun z86 h => ?_)
                conv => whnf
                refine np_rd_i (hW83.g hv0) ?_
                conv => whnf
                refine ⟨q, S81, 25, v0, (z18 - 1), z86, rfl, rfl, hv0, hW83, pw_bd h (fun S87 r90 h f88 hW89 => ?_)⟩
                conv => whnf
                refine pw_st h (fun z92 h => ?_)
                conv => whnf
                exact np_gl (ih S87 v0 v1 va2 vi2 z18 z92 f88 hv0 ha2 hi2 hW89 h) ⟨rfl, rfl, rfl, rfl, rfl, trivial⟩
        · conv => whnf
          refine np_rd_i (hW13.g hv0) ?_
          conv => whnf
          refine ⟨q, S11, 25, v0, (z17 - 1), (-2147483648), rfl, rfl, hv0, hW13, pw_bd h (fun S93 r96 h f94 hW95 => ?_)⟩
          conv => whnf
          refine pw_st h (fun z98 h => ?_)
          conv => whnf
          refine pw_br h (fun _ h => ?_) (fun _ h => ?_)
          · conv => whnf
            refine np_rd_i (hW95.g hv0) ?_
            conv => whnf
            refine ⟨q, S93, v0, v4, rfl, hv0, hW95, pw_bd h (fun S99 r102 h f100 hW101 => ?_)⟩
            conv => whnf
            refine ⟨q, S99, r102, 0, rfl, hW101, pw_bd h (fun S104 r107 h f105 hW106 => ?_)⟩
            conv => whnf
            refine ⟨q, S104, va2, vi2, r107, (-2147483648), rfl, ha2, hi2, hW106, pw_bd h (fun S109 r112 h f110 hW111 => ?_)⟩
            conv => whnf
            refine pw_st h (fun z114 h => ?_)
            conv => whnf
            refine np_rd_i (hW111.g hv0) ?_
            conv => whnf
            refine ⟨q, S109, 25, v0, (z17 - 1), z114, rfl, rfl, hv0, hW111, pw_bd h (fun S115 r118 h f116 hW117 => ?_)⟩
            conv => whnf
            refine pw_st h (fun z120 h => ?_)
            conv => whnf
            exact np_gl (ih S115 v0 v1 va2 vi2 z17 z120 f116 hv0 ha2 hi2 hW117 h) ⟨rfl, rfl, rfl, rfl, rfl, trivial⟩
          · conv => whnf
            refine pw_br h (fun _ h => ?_) (fun _ h => ?_)
            · conv => whnf
              refine np_rd_i (hW95.g hv0) ?_
              conv => whnf
              refine ⟨q, S93, v0, v4, rfl, hv0, hW95, pw_bd h (fun S121 r124 h f122 hW123 => ?_)⟩
              conv => whnf
              refine pw_st h (fun z126 h => ?_)
              conv => whnf
              refine np_rd_i (hW123.g hv0) ?_
              conv => whnf
              refine ⟨q, S121, 25, v0, (z17 - 1), z126, rfl, rfl, hv0, hW123, pw_bd h (fun S127 r130 h f128 hW129 => ?_)⟩
              conv => whnf
              refine pw_st h (fun z132 h => ?_)
              conv => whnf
              exact np_gl (ih S127 v0 v1 va2 vi2 z17 z132 f128 hv0 ha2 hi2 hW129 h) ⟨rfl, rfl, rfl, rfl, rfl, trivial⟩
            · conv => whnf
              refine pw_br h (fun _ h => ?_) (fun _ h => ?_)
              · conv => whnf
                refine np_rd_i (hW95.g hv0) ?_
                conv => whnf
                refine ⟨q, S93, 25, v0, z17, (-2147483648), rfl, rfl, hv0, hW95, pw_bd h (fun S133 r136 h f134 hW135 => ?_)⟩
                conv => whnf
                refine ⟨q, S133, r136, z98, rfl, hW135, pw_bd h (fun S138 r141 h f139 hW140 => ?_)⟩
                conv => whnf
                refine pw_st h (fun z143 h => ?_)
                conv => whnf
                refine np_rd_i (hW140.g hv0) ?_
                conv => whnf
                refine ⟨q, S138, 25, v0, (z17 - 1), z143, rfl, rfl, hv0, hW140, pw_bd h (fun S144 r147 h f145 hW146 => ?_)⟩
                conv => whnf
                refine pw_st h (fun z149 h => ?_)
                conv => whnf
                exact np_gl (ih S144 v0 v1 va2 vi2 z17 z149 f145 hv0 ha2 hi2 hW146 h) ⟨rfl, rfl, rfl, rfl, rfl, trivial⟩
              · conv => whnf
                refine np_rd_i (hW95.g hv0) ?_
                conv => whnf
                refine ⟨q, S93, v0, v4, rfl, hv0, hW95, pw_bd h (fun S150 r153 h f151 hW152 => ?_)⟩
                conv => whnf
                refine ⟨q, S150, z16, r153, z98, rfl, hW152, pw_bd h (fun S155 r158 h f156 hW157 => ?_)⟩
                conv => whnf
                refine pw_st h (fun z160 h => ?_)
                conv => whnf
                refine np_rd_i (hW157.g hv0) ?_
                conv => whnf
                refine ⟨q, S155, 25, v0, (z17 - 1), z160, rfl, rfl, hv0, hW157, pw_bd h (fun S161 r164 h f162 hW163 => ?_)⟩
                conv => whnf
                refine pw_st h (fun z166 h => ?_)
                conv => whnf
                exact np_gl (ih S161 v0 v1 va2 vi2 z17 z166 f162 hv0 ha2 hi2 hW163 h) ⟨rfl, rfl, rfl, rfl, rfl, trivial⟩
      · conv => whnf
        refine pw_br h (fun _ h => ?_) (fun _ h => ?_)
        · conv => whnf
          refine pw_st h (fun z167 h => ?_)
          conv => whnf
          refine pw_br h (fun _ h => ?_) (fun _ h => ?_)
          · conv => whnf
            refine pw_st h (fun z168 h => ?_)
            conv => whnf
            refine np_rd_i (hW13.g hv0) ?_
            conv => whnf
            refine ⟨q, S11, 25, v0, (z168 - 1), (-2147483648), rfl, rfl, hv0, hW13, pw_bd h (fun S169 r172 h f170 hW171 => ?_)⟩
            conv => whnf
            refine pw_st h (fun z174 h => ?_)
            conv => whnf
            refine pw_br h (fun _ h => ?_) (fun _ h => ?_)
            · conv => whnf
              refine np_rd_i (hW171.g hv0) ?_
              conv => whnf
              refine ⟨q, S169, v0, v4, rfl, hv0, hW171, pw_bd h (fun S175 r178 h f176 hW177 => ?_)⟩
              conv => whnf
              refine ⟨q, S175, r178, 0, rfl, hW177, pw_bd h (fun S180 r183 h f181 hW182 => ?_)⟩
              conv => whnf
              refine ⟨q, S180, va2, vi2, r183, (-2147483648), rfl, ha2, hi2, hW182, pw_bd h (fun S185 r188 h f186 hW187 => ?_)⟩
              conv => whnf
              refine pw_st h (fun z190 h => ?_)
              conv => whnf
              refine np_rd_i (hW187.g hv0) ?_
              conv => whnf
              refine ⟨q, S185, 25, v0, (z168 - 1), z190, rfl, rfl, hv0, hW187, pw_bd h (fun S191 r194 h f192 hW193 => ?_)⟩
              conv => whnf
              refine pw_st h (fun z196 h => ?_)
              conv => whnf
              exact np_gl (ih S191 v0 v1 va2 vi2 z168 z196 f192 hv0 ha2 hi2 hW193 h) ⟨rfl, rfl, rfl, rfl, rfl, trivial⟩
            · conv => whnf
              refine pw_br h (fun _ h => ?_) (fun _ h => ?_)
              · conv => whnf
                refine np_rd_i (hW171.g hv0) ?_
                conv => whnf
                refine ⟨q, S169, v0, v4, rfl, hv0, hW171, pw_bd h (fun S197 r200 h f198 hW199 => ?_)⟩
                conv => whnf
                refine pw_st h (fun z202 h => ?_)
                conv => whnf
                refine np_rd_i (hW199.g hv0) ?_
                conv => whnf
                refine ⟨q, S197, 25, v0, (z168 - 1), z202, rfl, rfl, hv0, hW199, pw_bd h (fun S203 r206 h f204 hW205 => ?_)⟩
                conv => whnf
                refine pw_st h (fun z208 h => ?_)
                conv => whnf
                exact np_gl (ih S203 v0 v1 va2 vi2 z168 z208 f204 hv0 ha2 hi2 hW205 h) ⟨rfl, rfl, rfl, rfl, rfl, trivial⟩
              · conv => whnf
                refine pw_br h (fun _ h => ?_) (fun _ h => ?_)
                · conv => whnf
                  refine np_rd_i (hW171.g hv0) ?_
                  conv => whnf
                  refine ⟨q, S169, 25, v0, z168, (-2147483648), rfl, rfl, hv0, hW171, pw_bd h (fun S209 r212 h f210 hW211 => ?_)⟩
                  conv => whnf
                  refine ⟨q, S209, r212, z174, rfl, hW211, pw_bd h (fun S214 r217 h f215 hW216 => ?_)⟩
                  conv => whnf
                  refine pw_st h (fun z219 h => ?_)
                  conv => whnf
                  refine np_rd_i (hW216.g hv0) ?_
                  conv => whnf
                  refine ⟨q, S214, 25, v0, (z168 - 1), z219, rfl, rfl, hv0, hW216, pw_bd h (fun S220 r223 h f221 hW222 => ?_)⟩
                  conv => whnf
                  refine pw_st h (fun z225 h => ?_)
                  conv => whnf
                  exact np_gl (ih S220 v0 v1 va2 vi2 z168 z225 f221 hv0 ha2 hi2 hW222 h) ⟨rfl, rfl, rfl, rfl, rfl, trivial⟩
                · conv => whnf
                  refine np_rd_i (hW171.g hv0) ?_
                  conv => whnf
                  refine ⟨q, S169, v0, v4, rfl, hv0, hW171, pw_bd h (fun S226 r229 h f227 hW228 => ?_)⟩
                  conv => whnf
                  refine ⟨q, S226, z16, r229, z174, rfl, hW228, pw_bd h (fun S231 r234 h f232 hW233 => ?_)⟩
                  conv => whnf
                  refine pw_st h (fun z236 h => ?_)
                  conv => whnf
                  refine np_rd_i (hW233.g hv0) ?_
                  conv => whnf
                  refine ⟨q, S231, 25, v0, (z168 - 1), z236, rfl, rfl, hv0, hW233, pw_bd h (fun S237 r240 h f238 hW239 => ?_)⟩
                  conv => whnf
                  refine pw_st h (fun z242 h => ?_)
                  conv => whnf
                  exact np_gl (ih S237 v0 v1 va2 vi2 z168 z242 f238 hv0 ha2 hi2 hW239 h) ⟨rfl, rfl, rfl, rfl, rfl, trivial⟩
          · conv => whnf
            refine np_rd_i (hW13.g hv0) ?_
            conv => whnf
            refine ⟨q, S11, 25, v0, (z167 - 1), (-2147483648), rfl, rfl, hv0, hW13, pw_bd h (fun S243 r246 h f244 hW245 => ?_)⟩
            conv => whnf
            refine pw_st h (fun z248 h => ?_)
            conv => whnf
            refine pw_br h (fun _ h => ?_) (fun _ h => ?_)
            · conv => whnf
              refine np_rd_i (hW245.g hv0) ?_
              conv => whnf
              refine ⟨q, S243, v0, v4, rfl, hv0, hW245, pw_bd h (fun S249 r252 h f250 hW251 => ?_)⟩
              conv => whnf
              refine ⟨q, S249, r252, 0, rfl, hW251, pw_bd h (fun S254 r257 h f255 hW256 => ?_)⟩
              conv => whnf
              refine ⟨q, S254, va2, vi2, r257, (-2147483648), rfl, ha2, hi2, hW256, pw_bd h (fun S259 r262 h f260 hW261 => ?_)⟩
              conv => whnf
              refine pw_st h (fun z264 h => ?_)
              conv => whnf
              refine np_rd_i (hW261.g hv0) ?_
              conv => whnf
              refine ⟨q, S259, 25, v0, (z167 - 1), z264, rfl, rfl, hv0, hW261, pw_bd h (fun S265 r268 h f266 hW267 => ?_)⟩
              conv => whnf
              refine pw_st h (fun z270 h => ?_)
              conv => whnf
              exact np_gl (ih S265 v0 v1 va2 vi2 z167 z270 f266 hv0 ha2 hi2 hW267 h) ⟨rfl, rfl, rfl, rfl, rfl, trivial⟩
            · conv => whnf
              refine pw_br h (fun _ h => ?_) (fun _ h => ?_)
              · conv => whnf
                refine np_rd_i (hW245.g hv0) ?_
                conv => whnf
                refine ⟨q, S243, v0, v4, rfl, hv0, hW245, pw_bd h (fun S271 r274 h f272 hW273 => ?_)⟩
                conv => whnf
                refine pw_st h (fun z276 h => ?_)
                conv => whnf
                refine np_rd_i (hW273.g hv0) ?_
                conv => whnf
                refine ⟨q, S271, 25, v0, (z167 - 1), z276, rfl, rfl, hv0, hW273, pw_bd h (fun S277 r280 h f278 hW279 => ?_)⟩
                conv => whnf
                refine pw_st h (fun z282 h => ?_)
                conv => whnf
                exact np_gl (ih S277 v0 v1 va2 vi2 z167 z282 f278 hv0 ha2 hi2 hW279 h) ⟨rfl, rfl, rfl, rfl, rfl, trivial⟩
              · conv => whnf
                refine pw_br h (fun _ h => ?_) (fun _ h => ?_)
                · conv => whnf
                  refine np_rd_i (hW245.g hv0) ?_
                  conv => whnf
                  refine ⟨q, S243, 25, v0, z167, (-2147483648), rfl, rfl, hv0, hW245, pw_bd h (fun S283 r286 h f284 hW285 => ?_)⟩
                  conv => whnf
                  refine ⟨q, S283, r286, z248, rfl, hW285, pw_bd h (fun S288 r291 h f289 hW290 => ?_)⟩
                  conv => whnf
                  refine pw_st h (fun z293 h => ?_)
                  conv => whnf
                  refine np_rd_i (hW290.g hv0) ?_
                  conv => whnf
                  refine ⟨q, S288, 25, v0, (z167 - 1), z293, rfl, rfl, hv0, hW290, pw_bd h (fun S294 r297 h f295 hW296 => ?_)⟩
                  conv => whnf
                  refine pw_st h (fun z299 h => ?_)
                  conv => whnf
                  exact np_gl (ih S294 v0 v1 va2 vi2 z167 z299 f295 hv0 ha2 hi2 hW296 h) ⟨rfl, rfl, rfl, rfl, rfl, trivial⟩
                · conv => whnf
                  refine np_rd_i (hW245.g hv0) ?_
                  conv => whnf
                  refine ⟨q, S243, v0, v4, rfl, hv0, hW245, pw_bd h (fun S300 r303 h f301 hW302 => ?_)⟩
                  conv => whnf
                  refine ⟨q, S300, z16, r303, z248, rfl, hW302, pw_bd h (fun S305 r308 h f306 hW307 => ?_)⟩
                  conv => whnf
                  refine pw_st h (fun z310 h => ?_)
                  conv => whnf
                  refine np_rd_i (hW307.g hv0) ?_
                  conv => whnf
                  refine ⟨q, S305, 25, v0, (z167 - 1), z310, rfl, rfl, hv0, hW307, pw_bd h (fun S311 r314 h f312 hW313 => ?_)⟩
                  conv => whnf
                  refine pw_st h (fun z316 h => ?_)
                  conv => whnf
                  exact np_gl (ih S311 v0 v1 va2 vi2 z167 z316 f312 hv0 ha2 hi2 hW313 h) ⟨rfl, rfl, rfl, rfl, rfl, trivial⟩
        · conv => whnf
          refine pw_br h (fun _ h => ?_) (fun _ h => ?_)
          · conv => whnf
            refine pw_st h (fun z317 h => ?_)
            conv => whnf
            refine np_rd_i (hW13.g hv0) ?_
            conv => whnf
            refine ⟨q, S11, 25, v0, (z317 - 1), (-2147483648), rfl, rfl, hv0, hW13, pw_bd h (fun S318 r321 h f319 hW320 => ?_)⟩
            conv => whnf
            refine pw_st h (fun z323 h => ?_)
            conv => whnf
            refine pw_br h (fun _ h => ?_) (fun _ h => ?_)
            · conv => whnf
              refine np_rd_i (hW320.g hv0) ?_
              conv => whnf
              refine ⟨q, S318, v0, v4, rfl, hv0, hW320, pw_bd h (fun S324 r327 h f325 hW326 => ?_)⟩
              conv => whnf
              refine ⟨q, S324, r327, 0, rfl, hW326, pw_bd h (fun S329 r332 h f330 hW331 => ?_)⟩
              conv => whnf
              refine ⟨q, S329, va2, vi2, r332, (-2147483648), rfl, ha2, hi2, hW331, pw_bd h (fun S334 r337 h f335 hW336 => ?_)⟩
              conv => whnf
              refine pw_st h (fun z339 h => ?_)
              conv => whnf
              refine np_rd_i (hW336.g hv0) ?_
              conv => whnf
              refine ⟨q, S334, 25, v0, (z317 - 1), z339, rfl, rfl, hv0, hW336, pw_bd h (fun S340 r343 h f341 hW342 => ?_)⟩
              conv => whnf
              refine pw_st h (fun z345 h => ?_)
              conv => whnf
              exact np_gl (ih S340 v0 v1 va2 vi2 z317 z345 f341 hv0 ha2 hi2 hW342 h) ⟨rfl, rfl, rfl, rfl, rfl, trivial⟩
            · conv => whnf
              refine pw_br h (fun _ h => ?_) (fun _ h => ?_)
              · conv => whnf
                refine np_rd_i (hW320.g hv0) ?_
                conv => whnf
                refine ⟨q, S318, v0, v4, rfl, hv0, hW320, pw_bd h (fun S346 r349 h f347 hW348 => ?_)⟩
                conv => whnf
                refine pw_st h (fun z351 h => ?_)
                conv => whnf
                refine np_rd_i (hW348.g hv0) ?_
                conv => whnf
                refine ⟨q, S346, 25, v0, (z317 - 1), z351, rfl, rfl, hv0, hW348, pw_bd h (fun S352 r355 h f353 hW354 => ?_)⟩
                conv => whnf
                refine pw_st h (fun z357 h => ?_)
                conv => whnf
                exact np_gl (ih S352 v0 v1 va2 vi2 z317 z357 f353 hv0 ha2 hi2 hW354 h) ⟨rfl, rfl, rfl, rfl, rfl, trivial⟩
              · conv => whnf
                refine pw_br h (fun _ h => ?_) (fun _ h => ?_)
                · conv => whnf
                  refine np_rd_i (hW320.g hv0) ?_
                  conv => whnf
                  refine ⟨q, S318, 25, v0, z317, (-2147483648), rfl, rfl, hv0, hW320, pw_bd h (fun S358 r361 h f359 hW360 => ?_)⟩
                  conv => whnf
                  refine ⟨q, S358, r361, z323, rfl, hW360, pw_bd h (fun S363 r366 h f364 hW365 => ?_)⟩
                  conv => whnf
                  refine pw_st h (fun z368 h => ?_)
                  conv => whnf
                  refine np_rd_i (hW365.g hv0) ?_
                  conv => whnf
                  refine ⟨q, S363, 25, v0, (z317 - 1), z368, rfl, rfl, hv0, hW365, pw_bd h (fun S369 r372 h f370 hW371 => ?_)⟩
                  conv => whnf
                  refine pw_st h (fun z374 h => ?_)
                  conv => whnf
                  exact np_gl (ih S369 v0 v1 va2 vi2 z317 z374 f370 hv0 ha2 hi2 hW371 h) ⟨rfl, rfl, rfl, rfl, rfl, trivial⟩
                · conv => whnf
                  refine np_rd_i (hW320.g hv0) ?_
                  conv => whnf
                  refine ⟨q, S318, v0, v4, rfl, hv0, hW320, pw_bd h (fun S375 r378 h f376 hW377 => ?_)⟩
                  conv => whnf
                  refine ⟨q, S375, z16, r378, z323, rfl, hW377, pw_bd h (fun S380 r383 h f381 hW382 => ?_)⟩
                  conv => whnf
                  refine pw_st h (fun z385 h => ?_)
                  conv => whnf
                  refine np_rd_i (hW382.g hv0) ?_
                  conv => whnf
                  refine ⟨q, S380, 25, v0, (z317 - 1), z385, rfl, rfl, hv0, hW382, pw_bd h (fun S386 r389 h f387 hW388 => ?_)⟩
                  conv => whnf
                  refine pw_st h (fun z391 h => ?_)
                  conv => whnf
                  exact np_gl (ih S386 v0 v1 va2 vi2 z317 z391 f387 hv0 ha2 hi2 hW388 h) ⟨rfl, rfl, rfl, rfl, rfl, trivial⟩
          · conv => whnf
            refine np_rd_i (hW13.g hv0) ?_
            conv => whnf
            refine ⟨q, S11, 25, v0, (v3 - 1), (-2147483648), rfl, rfl, hv0, hW13, pw_bd h (fun S392 r395 h f393 hW394 => ?_)⟩
            conv => whnf
            refine pw_st h (fun z397 h => ?_)
            conv => whnf
            refine pw_br h (fun _ h => ?_) (fun _ h => ?_)
            · conv => whnf
              refine np_rd_i (hW394.g hv0) ?_
              conv => whnf
              refine ⟨q, S392, v0, v4, rfl, hv0, hW394, pw_bd h (fun S398 r401 h f399 hW400 => ?_)⟩
              conv => whnf
              refine ⟨q, S398, r401, 0, rfl, hW400, pw_bd h (fun S403 r406 h f404 hW405 => ?_)⟩
              conv => whnf
              refine ⟨q, S403, va2, vi2, r406, (-2147483648), rfl, ha2, hi2, hW405, pw_bd h (fun S408 r411 h f409 hW410 => ?_)⟩
              conv => whnf
              refine pw_st h (fun z413 h => ?_)
              conv => whnf
              refine np_rd_i (hW410.g hv0) ?_
              conv => whnf
              refine ⟨q, S408, 25, v0, (v3 - 1), z413, rfl, rfl, hv0, hW410, pw_bd h (fun S414 r417 h f415 hW416 => ?_)⟩
              conv => whnf
              refine pw_st h (fun z419 h => ?_)
              conv => whnf
              exact np_gl (ih S414 v0 v1 va2 vi2 v3 z419 f415 hv0 ha2 hi2 hW416 h) ⟨rfl, rfl, rfl, rfl, rfl, trivial⟩
            · conv => whnf
              refine pw_br h (fun _ h => ?_) (fun _ h => ?_)
              · conv => whnf
                refine np_rd_i (hW394.g hv0) ?_
                conv => whnf
                refine ⟨q, S392, v0, v4, rfl, hv0, hW394, pw_bd h (fun S420 r423 h f421 hW422 => ?_)⟩
                conv => whnf
                refine pw_st h (fun z425 h => ?_)
                conv => whnf
                refine np_rd_i (hW422.g hv0) ?_
                conv => whnf
                refine ⟨q, S420, 25, v0, (v3 - 1), z425, rfl, rfl, hv0, hW422, pw_bd h (fun S426 r429 h f427 hW428 => ?_)⟩
                conv => whnf
                refine pw_st h (fun z431 h => ?_)
                conv => whnf
                exact np_gl (ih S426 v0 v1 va2 vi2 v3 z431 f427 hv0 ha2 hi2 hW428 h) ⟨rfl, rfl, rfl, rfl, rfl, trivial⟩
              · conv => whnf
                refine pw_br h (fun _ h => ?_) (fun _ h => ?_)
                · conv => whnf
                  refine np_rd_i (hW394.g hv0) ?_
                  conv => whnf
                  refine ⟨q, S392, 25, v0, v3, (-2147483648), rfl, rfl, hv0, hW394, pw_bd h (fun S432 r435 h f433 hW434 => ?_)⟩
                  conv => whnf
                  refine ⟨q, S432, r435, z397, rfl, hW434, pw_bd h (fun S437 r440 h f438 hW439 => ?_)⟩
                  conv => whnf
                  refine pw_st h (fun z442 h => ?_)
                  conv => whnf
                  refine np_rd_i (hW439.g hv0) ?_
                  conv => whnf
                  refine ⟨q, S437, 25, v0, (v3 - 1), z442, rfl, rfl, hv0, hW439, pw_bd h (fun S443 r446 h f444 hW445 => ?_)⟩
                  conv => whnf
                  refine pw_st h (fun z448 h => ?_)
                  conv => whnf
                  exact np_gl (ih S443 v0 v1 va2 vi2 v3 z448 f444 hv0 ha2 hi2 hW445 h) ⟨rfl, rfl, rfl, rfl, rfl, trivial⟩
                · conv => whnf
                  refine np_rd_i (hW394.g hv0) ?_
                  conv => whnf
                  refine ⟨q, S392, v0, v4, rfl, hv0, hW394, pw_bd h (fun S449 r452 h f450 hW451 => ?_)⟩
                  conv => whnf
                  refine ⟨q, S449, z16, r452, z397, rfl, hW451, pw_bd h (fun S454 r457 h f455 hW456 => ?_)⟩
                  conv => whnf
                  refine pw_st h (fun z459 h => ?_)
                  conv => whnf
                  refine np_rd_i (hW456.g hv0) ?_
                  conv => whnf
                  refine ⟨q, S454, 25, v0, (v3 - 1), z459, rfl, rfl, hv0, hW456, pw_bd h (fun S460 r463 h f461 hW462 => ?_)⟩
                  conv => whnf
                  refine pw_st h (fun z465 h => ?_)
                  conv => whnf
                  exact np_gl (ih S460 v0 v1 va2 vi2 v3 z465 f461 hv0 ha2 hi2 hW462 h) ⟨rfl, rfl, rfl, rfl, rfl, trivial⟩
noncomputable def m_X9_valueFor (S : pw_S) (i0 : Nat) (x1 : Int32) (a2 : Nat) (i2 : Nat) : pw_R Int32 :=
 pw_l (0 : Int32) fun z466 =>
 pw_b (m_X9_end S i0 x1) fun S467 r470 =>
 pw_l ((r470 - 1) : Int32) fun z472 =>
 m_X9_valueFor_11 (pw_F 20000) S467 i0 x1 a2 i2 z466 z472
def sp_X9_valueFor : np_Sp := fun vs w Q => ∃ (q : Nat) (S : pw_S) (i0 : Nat) (x1 : Int32) (a2 : Nat) (i2 : Nat), vs = [.ref (pw_pl 57 i0), .int x1, .ref (pw_pl a2 i2)] ∧ pw_ok q 57 i0 = true ∧ pw_arr a2 = true ∧ pw_ok q a2 i2 = true ∧ pw_W q w S ∧ pw_p (m_X9_valueFor S i0 x1 a2 i2) (fun S' r => ∀ f', pw_W q (w.1, f') S' → Q (some (.int r)) (w.1, f'))
set_option maxRecDepth 100000 in
set_option maxHeartbeats 8000000 in
theorem C_X9_valueFor : np_C yX9_valueFor cX9_valueFor 8 (some .int) 3 82 0 0 sp_X9_valueFor := by
  refine np_of (by decide) ?_
  intro X vs w Q hsp hX hmn hRt hlt
  obtain ⟨q, S, i0, x1, a2, i2, rfl, hi0, ha2, hi2, hW, h⟩ := hsp
  obtain ⟨n, f⟩ := w
  unfold m_X9_valueFor at h
  have hR : ∀ st w ce sl, np_rt (some .int) 0 0 Q st w ce sl → X.2.2.1 st w ce sl := fun _ _ _ _ h => by rw [hRt]; exact h
  refine np_soundW (so_X9_valueFor hX hR) [11] 400 0 _ _ _ _ _ ?_
  conv => whnf
  refine pw_st h (fun z466 h => ?_)
  conv => whnf
  refine np_rd_i (hW.g hi0) ?_
  conv => whnf
  refine ⟨q, S, i0, x1, rfl, hi0, hW, pw_bd h (fun S467 r470 h f468 hW469 => ?_)⟩
  conv => whnf
  refine pw_st h (fun z472 h => ?_)
  conv => whnf
  exact np_gl (L_X9_valueFor_11 hX hR (pw_F 20000) S467 i0 x1 a2 i2 z466 z472 f468 hi0 ha2 hi2 hW469 h) ⟨rfl, rfl, rfl, rfl, rfl, trivial⟩
theorem dX10_inRange_0 : decode cX10_inRange 0 = .ok (.iload_n 0, 1) := by decide +kernel
theorem dX10_inRange_1 : decode cX10_inRange 1 = .ok (.tableswitch 92 0 4 #[35, 45, 68, 79, 87], 35) := by decide +kernel
theorem dX10_inRange_36 : decode cX10_inRange 36 = .ok (.iload_n 2, 1) := by decide +kernel
theorem dX10_inRange_37 : decode cX10_inRange 37 = .ok (.ifCond .ne 7, 3) := by decide +kernel
theorem dX10_inRange_40 : decode cX10_inRange 40 = .ok (.iconst 1, 1) := by decide +kernel
theorem dX10_inRange_41 : decode cX10_inRange 41 = .ok (.goto 4, 3) := by decide +kernel
theorem dX10_inRange_44 : decode cX10_inRange 44 = .ok (.iconst 0, 1) := by decide +kernel
theorem dX10_inRange_45 : decode cX10_inRange 45 = .ok (.ireturn, 1) := by decide +kernel
theorem dX10_inRange_46 : decode cX10_inRange 46 = .ok (.iload_n 1, 1) := by decide +kernel
theorem dX10_inRange_47 : decode cX10_inRange 47 = .ok (.sipush (-999), 3) := by decide +kernel
theorem dX10_inRange_50 : decode cX10_inRange 50 = .ok (.sipush 999, 3) := by decide +kernel
theorem dX10_inRange_53 : decode cX10_inRange 53 = .ok (.invokestatic 25, 3) := by decide +kernel
theorem dX10_inRange_56 : decode cX10_inRange 56 = .ok (.ifCond .eq 11, 3) := by decide +kernel
theorem dX10_inRange_59 : decode cX10_inRange 59 = .ok (.iload_n 2, 1) := by decide +kernel
theorem dX10_inRange_60 : decode cX10_inRange 60 = .ok (.ifCond .ne 7, 3) := by decide +kernel
theorem dX10_inRange_63 : decode cX10_inRange 63 = .ok (.iconst 1, 1) := by decide +kernel
theorem dX10_inRange_64 : decode cX10_inRange 64 = .ok (.goto 4, 3) := by decide +kernel
theorem dX10_inRange_67 : decode cX10_inRange 67 = .ok (.iconst 0, 1) := by decide +kernel
theorem dX10_inRange_68 : decode cX10_inRange 68 = .ok (.ireturn, 1) := by decide +kernel
theorem dX10_inRange_69 : decode cX10_inRange 69 = .ok (.iload_n 2, 1) := by decide +kernel
theorem dX10_inRange_70 : decode cX10_inRange 70 = .ok (.sipush (-999), 3) := by decide +kernel
theorem dX10_inRange_73 : decode cX10_inRange 73 = .ok (.sipush 999, 3) := by decide +kernel
theorem dX10_inRange_76 : decode cX10_inRange 76 = .ok (.invokestatic 25, 3) := by decide +kernel
theorem dX10_inRange_79 : decode cX10_inRange 79 = .ok (.ireturn, 1) := by decide +kernel
theorem dX10_inRange_80 : decode cX10_inRange 80 = .ok (.iload_n 2, 1) := by decide +kernel
theorem dX10_inRange_81 : decode cX10_inRange 81 = .ok (.iconst 2, 1) := by decide +kernel
theorem dX10_inRange_82 : decode cX10_inRange 82 = .ok (.bipush 9, 2) := by decide +kernel
theorem dX10_inRange_84 : decode cX10_inRange 84 = .ok (.invokestatic 25, 3) := by decide +kernel
theorem dX10_inRange_87 : decode cX10_inRange 87 = .ok (.ireturn, 1) := by decide +kernel
theorem dX10_inRange_88 : decode cX10_inRange 88 = .ok (.iload_n 2, 1) := by decide +kernel
theorem dX10_inRange_89 : decode cX10_inRange 89 = .ok (.invokestatic 29, 3) := by decide +kernel
theorem dX10_inRange_92 : decode cX10_inRange 92 = .ok (.ireturn, 1) := by decide +kernel
theorem dX10_inRange_93 : decode cX10_inRange 93 = .ok (.iconst 0, 1) := by decide +kernel
theorem dX10_inRange_94 : decode cX10_inRange 94 = .ok (.ireturn, 1) := by decide +kernel
def is_X10_inRange (Rt : np_Rt) : List (Nat × np_Op) := [(0, np_ild 1 0), (1, nq_tsw (0) [36, 46, 69, 80, 88] 93), (36, np_ild 1 2), (37, nq_ifne 44), (40, np_push 1 (.int 1)), (41, np_goto 45), (44, np_push 1 (.int 0)), (45, np_ret Rt), (46, np_ild 1 1), (47, np_push 3 (.int (-999))), (50, np_push 3 (.int 999)), (53, nq_call 3 sp_X11_isBetween 3 0 0 0 0), (56, nq_if (fun x => x = 0) 67), (59, np_ild 1 2), (60, nq_ifne 67), (63, np_push 1 (.int 1)), (64, np_goto 68), (67, np_push 1 (.int 0)), (68, np_ret Rt), (69, np_ild 1 2), (70, np_push 3 (.int (-999))), (73, np_push 3 (.int 999)), (76, nq_call 3 sp_X11_isBetween 3 0 0 0 0), (79, np_ret Rt), (80, np_ild 1 2), (81, np_push 1 (.int 2)), (82, np_push 2 (.int 9)), (84, nq_call 3 sp_X11_isBetween 3 0 0 0 0), (87, np_ret Rt), (88, np_ild 1 2), (89, nq_call 1 sp_X11_isSlot 1 0 0 0 0), (92, np_ret Rt), (93, np_push 1 (.int 0)), (94, np_ret Rt)]
set_option maxRecDepth 20000 in
theorem so_X10_inRange {X : np_Ctx} {Rt : np_Rt} (hX : np_ok RX10 cX10_inRange 3 1 22 0 0 .ireturn X) (hR : ∀ st w ce sl, Rt st w ce sl → X.2.2.1 st w ce sl) : ∀ q ∈ is_X10_inRange Rt, np_S X q.1 q.2 :=
  List.forall_mem_cons.mpr ⟨np_s_iload_n hX dX10_inRange_0 rfl, List.forall_mem_cons.mpr ⟨np_S.mono (op := np_tsw (0) (4) [36, 46, 69, 80, 88] 93) (np_s_tsw hX dX10_inRange_1 (by decide) (by decide) (by decide)) (nq_tsw_le (by decide)), List.forall_mem_cons.mpr ⟨np_s_iload_n hX dX10_inRange_36 rfl, List.forall_mem_cons.mpr ⟨np_S.mono (op := np_ifne 44) (np_s_if_ne hX dX10_inRange_37 (by decide)) nq_ifne_le, List.forall_mem_cons.mpr ⟨np_s_iconst hX dX10_inRange_40 (by decide), List.forall_mem_cons.mpr ⟨np_s_goto hX dX10_inRange_41 (by decide), List.forall_mem_cons.mpr ⟨np_s_iconst hX dX10_inRange_44 (by decide), List.forall_mem_cons.mpr ⟨np_S.mono (op := np_ret X.2.2.1) (np_s_ret hX dX10_inRange_45) (nq_ret_le hR), List.forall_mem_cons.mpr ⟨np_s_iload_n hX dX10_inRange_46 rfl, List.forall_mem_cons.mpr ⟨np_s_sipush hX dX10_inRange_47 (by decide), List.forall_mem_cons.mpr ⟨np_s_sipush hX dX10_inRange_50 (by decide), List.forall_mem_cons.mpr ⟨np_S.mono (op := np_call 3 sp_X11_isBetween 3 0 0 0 0) (np_s_callSN hX C_X11_isBetween dX10_inRange_53 gw589 gw63 gw1294 gw588 ⟨by decide, by decide, by decide⟩ (by decide) (by decide)) nq_call_le, List.forall_mem_cons.mpr ⟨np_S.mono (op := np_if (fun x => x = 0) 67) (np_s_if_eq hX dX10_inRange_56 (by decide)) nq_if_le, List.forall_mem_cons.mpr ⟨np_s_iload_n hX dX10_inRange_59 rfl, List.forall_mem_cons.mpr ⟨np_S.mono (op := np_ifne 67) (np_s_if_ne hX dX10_inRange_60 (by decide)) nq_ifne_le, List.forall_mem_cons.mpr ⟨np_s_iconst hX dX10_inRange_63 (by decide), List.forall_mem_cons.mpr ⟨np_s_goto hX dX10_inRange_64 (by decide), List.forall_mem_cons.mpr ⟨np_s_iconst hX dX10_inRange_67 (by decide), List.forall_mem_cons.mpr ⟨np_S.mono (op := np_ret X.2.2.1) (np_s_ret hX dX10_inRange_68) (nq_ret_le hR), List.forall_mem_cons.mpr ⟨np_s_iload_n hX dX10_inRange_69 rfl, List.forall_mem_cons.mpr ⟨np_s_sipush hX dX10_inRange_70 (by decide), List.forall_mem_cons.mpr ⟨np_s_sipush hX dX10_inRange_73 (by decide), List.forall_mem_cons.mpr ⟨np_S.mono (op := np_call 3 sp_X11_isBetween 3 0 0 0 0) (np_s_callSN hX C_X11_isBetween dX10_inRange_76 gw589 gw63 gw1294 gw588 ⟨by decide, by decide, by decide⟩ (by decide) (by decide)) nq_call_le, List.forall_mem_cons.mpr ⟨np_S.mono (op := np_ret X.2.2.1) (np_s_ret hX dX10_inRange_79) (nq_ret_le hR), List.forall_mem_cons.mpr ⟨np_s_iload_n hX dX10_inRange_80 rfl, List.forall_mem_cons.mpr ⟨np_s_iconst hX dX10_inRange_81 (by decide), List.forall_mem_cons.mpr ⟨np_s_bipush hX dX10_inRange_82 (by decide), List.forall_mem_cons.mpr ⟨np_S.mono (op := np_call 3 sp_X11_isBetween 3 0 0 0 0) (np_s_callSN hX C_X11_isBetween dX10_inRange_84 gw589 gw63 gw1294 gw588 ⟨by decide, by decide, by decide⟩ (by decide) (by decide)) nq_call_le, List.forall_mem_cons.mpr ⟨np_S.mono (op := np_ret X.2.2.1) (np_s_ret hX dX10_inRange_87) (nq_ret_le hR), List.forall_mem_cons.mpr ⟨np_s_iload_n hX dX10_inRange_88 rfl, List.forall_mem_cons.mpr ⟨np_S.mono (op := np_call 1 sp_X11_isSlot 1 0 0 0 0) (np_s_callSN hX C_X11_isSlot dX10_inRange_89 gw515 gw63 gw1295 gw514 ⟨by decide, by decide, by decide⟩ (by decide) (by decide)) nq_call_le, List.forall_mem_cons.mpr ⟨np_S.mono (op := np_ret X.2.2.1) (np_s_ret hX dX10_inRange_92) (nq_ret_le hR), List.forall_mem_cons.mpr ⟨np_s_iconst hX dX10_inRange_93 (by decide), List.forall_mem_cons.mpr ⟨np_S.mono (op := np_ret X.2.2.1) (np_s_ret hX dX10_inRange_94) (nq_ret_le hR), fun _ h => nomatch h⟩⟩⟩⟩⟩⟩⟩⟩⟩⟩⟩⟩⟩⟩⟩⟩⟩⟩⟩⟩⟩⟩⟩⟩⟩⟩⟩⟩⟩⟩⟩⟩⟩⟩
noncomputable def m_X10_inRange (S : pw_S) (x0 : Int32) (x1 : Int32) (x2 : Int32) : pw_R Int32 :=
 if (x0 : Int32).toInt = 0 then
 (if x2 = 0 then
 (some (S, 1))
 else
 (some (S, 0)))
 else if (x0 : Int32).toInt = (0 + 1) then
 (pw_b (m_X11_isBetween S x1 (-999) 999) fun S1 r4 =>
 if r4 = 0 then
 (some (S1, 0))
 else
 (if x2 = 0 then
 (some (S1, 1))
 else
 (some (S1, 0))))
 else if (x0 : Int32).toInt = ((0 + 1) + 1) then
 (pw_b (m_X11_isBetween S x2 (-999) 999) fun S6 r9 =>
 pw_c (decide (r9 = 0) || decide (r9 = 1)) <|
 some (S6, r9))
 else if (x0 : Int32).toInt = (((0 + 1) + 1) + 1) then
 (pw_b (m_X11_isBetween S x2 2 9) fun S12 r15 =>
 pw_c (decide (r15 = 0) || decide (r15 = 1)) <|
 some (S12, r15))
 else if (x0 : Int32).toInt = ((((0 + 1) + 1) + 1) + 1) then
 (pw_b (m_X11_isSlot S x2) fun S18 r21 =>
 pw_c (decide (r21 = 0) || decide (r21 = 1)) <|
 some (S18, r21))
 else 
 (some (S, 0))
def sp_X10_inRange : np_Sp := fun vs w Q => ∃ (q : Nat) (S : pw_S) (x0 : Int32) (x1 : Int32) (x2 : Int32), vs = [.int x0, .int x1, .int x2] ∧ pw_W q w S ∧ pw_p (m_X10_inRange S x0 x1 x2) (fun S' r => ∀ f', pw_W q (w.1, f') S' → Q (some (.int r)) (w.1, f'))
set_option maxRecDepth 100000 in
set_option maxHeartbeats 8000000 in
theorem C_X10_inRange : np_C yX10_inRange cX10_inRange 3 (some .boolean) 1 22 0 0 sp_X10_inRange := by
  refine np_of (by decide) ?_
  intro X vs w Q hsp hX hmn hRt hlt
  obtain ⟨q, S, x0, x1, x2, rfl, hW, h⟩ := hsp
  obtain ⟨n, f⟩ := w
  unfold m_X10_inRange at h
  have hR : ∀ st w ce sl, np_rt (some .boolean) 0 0 Q st w ce sl → X.2.2.1 st w ce sl := fun _ _ _ _ h => by rw [hRt]; exact h
  refine np_soundW (so_X10_inRange hX hR) [] 400 0 _ _ _ _ _ ?_
  conv => whnf
  refine pw_br h (fun _ h => ?_) (fun _ h => ?_)
  · conv => whnf
    refine pw_br h (fun _ h => ?_) (fun _ h => ?_)
    · conv => whnf
      exact ⟨Nat.le_of_ble_eq_true rfl, Nat.le_of_ble_eq_true rfl, ⟨_, rfl, by decide⟩, _, fun _ _ h9 => h9, pw_ps h _ hW⟩
    · conv => whnf
      exact ⟨Nat.le_of_ble_eq_true rfl, Nat.le_of_ble_eq_true rfl, ⟨_, rfl, by decide⟩, _, fun _ _ h9 => h9, pw_ps h _ hW⟩
  conv => whnf
  refine pw_br h (fun _ h => ?_) (fun _ h => ?_)
  · conv => whnf
    refine ⟨q, S, x1, (-999), 999, rfl, hW, pw_bd h (fun S1 r4 h f2 hW3 => ?_)⟩
    conv => whnf
    refine pw_br h (fun _ h => ?_) (fun _ h => ?_)
    · conv => whnf
      exact ⟨Nat.le_of_ble_eq_true rfl, Nat.le_of_ble_eq_true rfl, ⟨_, rfl, by decide⟩, _, fun _ _ h9 => h9, pw_ps h _ hW3⟩
    · conv => whnf
      refine pw_br h (fun _ h => ?_) (fun _ h => ?_)
      · conv => whnf
        exact ⟨Nat.le_of_ble_eq_true rfl, Nat.le_of_ble_eq_true rfl, ⟨_, rfl, by decide⟩, _, fun _ _ h9 => h9, pw_ps h _ hW3⟩
      · conv => whnf
        exact ⟨Nat.le_of_ble_eq_true rfl, Nat.le_of_ble_eq_true rfl, ⟨_, rfl, by decide⟩, _, fun _ _ h9 => h9, pw_ps h _ hW3⟩
  conv => whnf
  refine pw_br h (fun _ h => ?_) (fun _ h => ?_)
  · conv => whnf
    refine ⟨q, S, x2, (-999), 999, rfl, hW, pw_bd h (fun S6 r9 h f7 hW8 => ?_)⟩
    conv => whnf
    obtain ⟨hb11, h⟩ := pw_ck1 h
    conv => whnf
    exact ⟨Nat.le_of_ble_eq_true rfl, Nat.le_of_ble_eq_true rfl, ⟨_, rfl, pw_nz hb11⟩, _, fun _ _ h9 => h9, pw_ps h _ hW8⟩
  conv => whnf
  refine pw_br h (fun _ h => ?_) (fun _ h => ?_)
  · conv => whnf
    refine ⟨q, S, x2, 2, 9, rfl, hW, pw_bd h (fun S12 r15 h f13 hW14 => ?_)⟩
    conv => whnf
    obtain ⟨hb17, h⟩ := pw_ck1 h
    conv => whnf
    exact ⟨Nat.le_of_ble_eq_true rfl, Nat.le_of_ble_eq_true rfl, ⟨_, rfl, pw_nz hb17⟩, _, fun _ _ h9 => h9, pw_ps h _ hW14⟩
  conv => whnf
  refine pw_br h (fun _ h => ?_) (fun _ h => ?_)
  · conv => whnf
    refine ⟨q, S, x2, rfl, hW, pw_bd h (fun S18 r21 h f19 hW20 => ?_)⟩
    conv => whnf
    obtain ⟨hb23, h⟩ := pw_ck1 h
    conv => whnf
    exact ⟨Nat.le_of_ble_eq_true rfl, Nat.le_of_ble_eq_true rfl, ⟨_, rfl, pw_nz hb23⟩, _, fun _ _ h9 => h9, pw_ps h _ hW20⟩
  conv => whnf
  exact ⟨Nat.le_of_ble_eq_true rfl, Nat.le_of_ble_eq_true rfl, ⟨_, rfl, by decide⟩, _, fun _ _ h9 => h9, pw_ps h _ hW⟩
theorem dX10_clear_0 : decode cX10_clear 0 = .ok (.aload_n 0, 1) := by decide +kernel
theorem dX10_clear_1 : decode cX10_clear 1 = .ok (.getfield 9, 3) := by decide +kernel
theorem dX10_clear_4 : decode cX10_clear 4 = .ok (.iconst (-1), 1) := by decide +kernel
theorem dX10_clear_5 : decode cX10_clear 5 = .ok (.invokestatic 21, 3) := by decide +kernel
theorem dX10_clear_8 : decode cX10_clear 8 = .ok (.return_, 1) := by decide +kernel
def is_X10_clear (Rt : np_Rt) : List (Nat × np_Op) := [(0, np_ald 1 0), (1, nw_getf 10 0), (4, np_push 1 (.int (-1))), (5, nq_call 2 sp_X11_fillAll 3 0 0 0 0), (8, np_ret Rt)]
set_option maxRecDepth 20000 in
theorem so_X10_clear {X : np_Ctx} {Rt : np_Rt} (hX : np_ok RX10 cX10_clear 1 1 22 0 0 .return_ X) (hR : ∀ st w ce sl, Rt st w ce sl → X.2.2.1 st w ce sl) : ∀ q ∈ is_X10_clear Rt, np_S X q.1 q.2 :=
  List.forall_mem_cons.mpr ⟨np_s_aload_n hX dX10_clear_0 rfl, List.forall_mem_cons.mpr ⟨np_S.mono (op := np_getf 10 0) (np_s_getf hX dX10_clear_1 (C := RX10) (T := TX10) (N := 3) rfl guX10 (by decide) gw291) nw_getf_le, List.forall_mem_cons.mpr ⟨np_s_iconst hX dX10_clear_4 (by decide), List.forall_mem_cons.mpr ⟨np_S.mono (op := np_call 2 sp_X11_fillAll 3 0 0 0 0) (np_s_callSN hX C_X11_fillAll dX10_clear_5 gw127 gw63 gw290 gw126 ⟨by decide, by decide, by decide⟩ (by decide) (by decide)) nq_call_le, List.forall_mem_cons.mpr ⟨np_S.mono (op := np_ret X.2.2.1) (np_s_ret hX dX10_clear_8) (nq_ret_le hR), fun _ h => nomatch h⟩⟩⟩⟩⟩
noncomputable def m_X10_clear (S : pw_S) (i0 : Nat) : pw_R Unit :=
 pw_b (m_X11_fillAll S 19 0 (-1)) fun S1 r4 =>
 some (S1, ())
def sp_X10_clear : np_Sp := fun vs w Q => ∃ (q : Nat) (S : pw_S) (i0 : Nat), vs = [.ref (pw_pl 56 i0)] ∧ pw_ok q 56 i0 = true ∧ pw_W q w S ∧ pw_p (m_X10_clear S i0) (fun S' r => ∀ f', pw_W q (w.1, f') S' → Q none (w.1, f'))
set_option maxRecDepth 100000 in
set_option maxHeartbeats 8000000 in
theorem C_X10_clear : np_C yX10_clear cX10_clear 1 none 1 22 0 0 sp_X10_clear := by
  refine np_of (by decide) ?_
  intro X vs w Q hsp hX hmn hRt hlt
  obtain ⟨q, S, i0, rfl, hi0, hW, h⟩ := hsp
  obtain ⟨n, f⟩ := w
  unfold m_X10_clear at h
  have hR : ∀ st w ce sl, np_rt none 0 0 Q st w ce sl → X.2.2.1 st w ce sl := fun _ _ _ _ h => by rw [hRt]; exact h
  refine np_soundW (so_X10_clear hX hR) [] 400 0 _ _ _ _ _ ?_
  conv => whnf
  refine np_rd_i (hW.g hi0) ?_
  conv => whnf
  refine ⟨q, S, 19, 0, (-1), rfl, rfl, rfl, hW, pw_bd h (fun S1 r4 h f2 hW3 => ?_)⟩
  conv => whnf
  exact ⟨Nat.le_of_ble_eq_true rfl, Nat.le_of_ble_eq_true rfl, rfl, _, fun _ _ h9 => h9, pw_ps h _ hW3⟩
theorem dX10_add_0 : decode cX10_add 0 = .ok (.aload_n 0, 1) := by decide +kernel
theorem dX10_add_1 : decode cX10_add 1 = .ok (.getfield 9, 3) := by decide +kernel
theorem dX10_add_4 : decode cX10_add 4 = .ok (.iload_n 2, 1) := by decide +kernel
theorem dX10_add_5 : decode cX10_add 5 = .ok (.iload_n 1, 1) := by decide +kernel
theorem dX10_add_6 : decode cX10_add 6 = .ok (.invokestatic 33, 3) := by decide +kernel
theorem dX10_add_9 : decode cX10_add 9 = .ok (.aload_n 0, 1) := by decide +kernel
theorem dX10_add_10 : decode cX10_add 10 = .ok (.getfield 15, 3) := by decide +kernel
theorem dX10_add_13 : decode cX10_add 13 = .ok (.iload_n 2, 1) := by decide +kernel
theorem dX10_add_14 : decode cX10_add 14 = .ok (.iload_n 3, 1) := by decide +kernel
theorem dX10_add_15 : decode cX10_add 15 = .ok (.invokestatic 33, 3) := by decide +kernel
theorem dX10_add_18 : decode cX10_add 18 = .ok (.aload_n 0, 1) := by decide +kernel
theorem dX10_add_19 : decode cX10_add 19 = .ok (.getfield 18, 3) := by decide +kernel
theorem dX10_add_22 : decode cX10_add 22 = .ok (.iload_n 2, 1) := by decide +kernel
theorem dX10_add_23 : decode cX10_add 23 = .ok (.iload 4, 2) := by decide +kernel
theorem dX10_add_25 : decode cX10_add 25 = .ok (.invokestatic 33, 3) := by decide +kernel
theorem dX10_add_28 : decode cX10_add 28 = .ok (.return_, 1) := by decide +kernel
def is_X10_add (Rt : np_Rt) : List (Nat × np_Op) := [(0, np_ald 1 0), (1, nw_getf 10 0), (4, np_ild 1 2), (5, np_ild 1 1), (6, nq_call 3 sp_X11_put 3 0 0 0 0), (9, np_ald 1 0), (10, nw_getf 10 1), (13, np_ild 1 2), (14, np_ild 1 3), (15, nq_call 3 sp_X11_put 3 0 0 0 0), (18, np_ald 1 0), (19, nw_getf 10 2), (22, np_ild 1 2), (23, np_ild 2 4), (25, nq_call 3 sp_X11_put 3 0 0 0 0), (28, np_ret Rt)]
set_option maxRecDepth 20000 in
theorem so_X10_add {X : np_Ctx} {Rt : np_Rt} (hX : np_ok RX10 cX10_add 5 1 22 0 0 .return_ X) (hR : ∀ st w ce sl, Rt st w ce sl → X.2.2.1 st w ce sl) : ∀ q ∈ is_X10_add Rt, np_S X q.1 q.2 :=
  List.forall_mem_cons.mpr ⟨np_s_aload_n hX dX10_add_0 rfl, List.forall_mem_cons.mpr ⟨np_S.mono (op := np_getf 10 0) (np_s_getf hX dX10_add_1 (C := RX10) (T := TX10) (N := 3) rfl guX10 (by decide) gw291) nw_getf_le, List.forall_mem_cons.mpr ⟨np_s_iload_n hX dX10_add_4 rfl, List.forall_mem_cons.mpr ⟨np_s_iload_n hX dX10_add_5 rfl, List.forall_mem_cons.mpr ⟨np_S.mono (op := np_call 3 sp_X11_put 3 0 0 0 0) (np_s_callSN hX C_X11_put dX10_add_6 gw632 gw63 gw1301 gw631 ⟨by decide, by decide, by decide⟩ (by decide) (by decide)) nq_call_le, List.forall_mem_cons.mpr ⟨np_s_aload_n hX dX10_add_9 rfl, List.forall_mem_cons.mpr ⟨np_S.mono (op := np_getf 10 1) (np_s_getf hX dX10_add_10 (C := RX10) (T := TX10) (N := 3) rfl guX10 (by decide) gw293) nw_getf_le, List.forall_mem_cons.mpr ⟨np_s_iload_n hX dX10_add_13 rfl, List.forall_mem_cons.mpr ⟨np_s_iload_n hX dX10_add_14 rfl, List.forall_mem_cons.mpr ⟨np_S.mono (op := np_call 3 sp_X11_put 3 0 0 0 0) (np_s_callSN hX C_X11_put dX10_add_15 gw632 gw63 gw1301 gw631 ⟨by decide, by decide, by decide⟩ (by decide) (by decide)) nq_call_le, List.forall_mem_cons.mpr ⟨np_s_aload_n hX dX10_add_18 rfl, List.forall_mem_cons.mpr ⟨np_S.mono (op := np_getf 10 2) (np_s_getf hX dX10_add_19 (C := RX10) (T := TX10) (N := 3) rfl guX10 (by decide) gw295) nw_getf_le, List.forall_mem_cons.mpr ⟨np_s_iload_n hX dX10_add_22 rfl, List.forall_mem_cons.mpr ⟨np_s_iload hX dX10_add_23, List.forall_mem_cons.mpr ⟨np_S.mono (op := np_call 3 sp_X11_put 3 0 0 0 0) (np_s_callSN hX C_X11_put dX10_add_25 gw632 gw63 gw1301 gw631 ⟨by decide, by decide, by decide⟩ (by decide) (by decide)) nq_call_le, List.forall_mem_cons.mpr ⟨np_S.mono (op := np_ret X.2.2.1) (np_s_ret hX dX10_add_28) (nq_ret_le hR), fun _ h => nomatch h⟩⟩⟩⟩⟩⟩⟩⟩⟩⟩⟩⟩⟩⟩⟩⟩
noncomputable def m_X10_add (S : pw_S) (i0 : Nat) (x1 : Int32) (x2 : Int32) (x3 : Int32) (x4 : Int32) : pw_R Unit :=
 pw_b (m_X11_put S 19 0 x2 x1) fun S1 r4 =>
 pw_b (m_X11_put S1 20 0 x2 x3) fun S6 r9 =>
 pw_b (m_X11_put S6 21 0 x2 x4) fun S11 r14 =>
 some (S11, ())
def sp_X10_add : np_Sp := fun vs w Q => ∃ (q : Nat) (S : pw_S) (i0 : Nat) (x1 : Int32) (x2 : Int32) (x3 : Int32) (x4 : Int32), vs = [.ref (pw_pl 56 i0), .int x1, .int x2, .int x3, .int x4] ∧ pw_ok q 56 i0 = true ∧ pw_W q w S ∧ pw_p (m_X10_add S i0 x1 x2 x3 x4) (fun S' r => ∀ f', pw_W q (w.1, f') S' → Q none (w.1, f'))
set_option maxRecDepth 100000 in
set_option maxHeartbeats 8000000 in
theorem C_X10_add : np_C yX10_add cX10_add 5 none 1 22 0 0 sp_X10_add := by
  refine np_of (by decide) ?_
  intro X vs w Q hsp hX hmn hRt hlt
  obtain ⟨q, S, i0, x1, x2, x3, x4, rfl, hi0, hW, h⟩ := hsp
  obtain ⟨n, f⟩ := w
  unfold m_X10_add at h
  have hR : ∀ st w ce sl, np_rt none 0 0 Q st w ce sl → X.2.2.1 st w ce sl := fun _ _ _ _ h => by rw [hRt]; exact h
  refine np_soundW (so_X10_add hX hR) [] 400 0 _ _ _ _ _ ?_
  conv => whnf
  refine np_rd_i (hW.g hi0) ?_
  conv => whnf
  refine ⟨q, S, 19, 0, x2, x1, rfl, rfl, rfl, hW, pw_bd h (fun S1 r4 h f2 hW3 => ?_)⟩
  conv => whnf
  refine np_rd_i (hW3.g hi0) ?_
  conv => whnf
  refine ⟨q, S1, 20, 0, x2, x3, rfl, rfl, rfl, hW3, pw_bd h (fun S6 r9 h f7 hW8 => ?_)⟩
  conv => whnf
  refine np_rd_i (hW8.g hi0) ?_
  conv => whnf
  refine ⟨q, S6, 21, 0, x2, x4, rfl, rfl, rfl, hW8, pw_bd h (fun S11 r14 h f12 hW13 => ?_)⟩
  conv => whnf
  exact ⟨Nat.le_of_ble_eq_true rfl, Nat.le_of_ble_eq_true rfl, rfl, _, fun _ _ h9 => h9, pw_ps h _ hW13⟩
theorem dX10_size_0 : decode cX10_size 0 = .ok (.iconst 0, 1) := by decide +kernel
theorem dX10_size_1 : decode cX10_size 1 = .ok (.istore_n 1, 1) := by decide +kernel
theorem dX10_size_2 : decode cX10_size 2 = .ok (.iconst 0, 1) := by decide +kernel
theorem dX10_size_3 : decode cX10_size 3 = .ok (.istore_n 2, 1) := by decide +kernel
theorem dX10_size_4 : decode cX10_size 4 = .ok (.iload_n 2, 1) := by decide +kernel
theorem dX10_size_5 : decode cX10_size 5 = .ok (.aload_n 0, 1) := by decide +kernel
theorem dX10_size_6 : decode cX10_size 6 = .ok (.getfield 9, 3) := by decide +kernel
theorem dX10_size_9 : decode cX10_size 9 = .ok (.arraylength, 1) := by decide +kernel
theorem dX10_size_10 : decode cX10_size 10 = .ok (.if_icmp .ge 22, 3) := by decide +kernel
theorem dX10_size_13 : decode cX10_size 13 = .ok (.aload_n 0, 1) := by decide +kernel
theorem dX10_size_14 : decode cX10_size 14 = .ok (.getfield 9, 3) := by decide +kernel
theorem dX10_size_17 : decode cX10_size 17 = .ok (.iload_n 2, 1) := by decide +kernel
theorem dX10_size_18 : decode cX10_size 18 = .ok (.iaload, 1) := by decide +kernel
theorem dX10_size_19 : decode cX10_size 19 = .ok (.iconst (-1), 1) := by decide +kernel
theorem dX10_size_20 : decode cX10_size 20 = .ok (.if_icmp .eq 6, 3) := by decide +kernel
theorem dX10_size_23 : decode cX10_size 23 = .ok (.iinc 1 1, 3) := by decide +kernel
theorem dX10_size_26 : decode cX10_size 26 = .ok (.iinc 2 1, 3) := by decide +kernel
theorem dX10_size_29 : decode cX10_size 29 = .ok (.goto (-25), 3) := by decide +kernel
theorem dX10_size_32 : decode cX10_size 32 = .ok (.iload_n 1, 1) := by decide +kernel
theorem dX10_size_33 : decode cX10_size 33 = .ok (.ireturn, 1) := by decide +kernel
def is_X10_size (Rt : np_Rt) : List (Nat × np_Op) := [(0, np_push 1 (.int 0)), (1, nw_ist 1 1), (2, np_push 1 (.int 0)), (3, nw_ist 1 2), (4, np_ild 1 2), (5, np_ald 1 0), (6, nw_getf 10 0), (9, nw_alen), (10, nq_ic (fun x y => y ≤ x) 32), (13, np_ald 1 0), (14, nw_getf 10 0), (17, np_ild 1 2), (18, nw_ialdT .int), (19, np_push 1 (.int (-1))), (20, nq_ic (fun x y => x = y) 26), (23, nw_iinc 1 1), (26, nw_iinc 2 1), (29, np_goto 4), (32, np_ild 1 1), (33, np_ret Rt)]
set_option maxRecDepth 20000 in
theorem so_X10_size {X : np_Ctx} {Rt : np_Rt} (hX : np_ok RX10 cX10_size 3 0 0 0 0 .ireturn X) (hR : ∀ st w ce sl, Rt st w ce sl → X.2.2.1 st w ce sl) : ∀ q ∈ is_X10_size Rt, np_S X q.1 q.2 :=
  List.forall_mem_cons.mpr ⟨np_s_iconst hX dX10_size_0 (by decide), List.forall_mem_cons.mpr ⟨np_S.mono (op := np_ist 1 1) (np_s_istore_n hX dX10_size_1 rfl (by decide)) nw_ist_le, List.forall_mem_cons.mpr ⟨np_s_iconst hX dX10_size_2 (by decide), List.forall_mem_cons.mpr ⟨np_S.mono (op := np_ist 1 2) (np_s_istore_n hX dX10_size_3 rfl (by decide)) nw_ist_le, List.forall_mem_cons.mpr ⟨np_s_iload_n hX dX10_size_4 rfl, List.forall_mem_cons.mpr ⟨np_s_aload_n hX dX10_size_5 rfl, List.forall_mem_cons.mpr ⟨np_S.mono (op := np_getf 10 0) (np_s_getf hX dX10_size_6 (C := RX10) (T := TX10) (N := 3) rfl guX10 (by decide) gw291) nw_getf_le, List.forall_mem_cons.mpr ⟨np_S.mono (op := np_alen) (np_s_alen hX dX10_size_9) nw_alen_le, List.forall_mem_cons.mpr ⟨np_S.mono (op := np_ic (fun x y => y ≤ x) 32) (np_s_icmp_ge hX dX10_size_10 (by decide)) nq_ic_le, List.forall_mem_cons.mpr ⟨np_s_aload_n hX dX10_size_13 rfl, List.forall_mem_cons.mpr ⟨np_S.mono (op := np_getf 10 0) (np_s_getf hX dX10_size_14 (C := RX10) (T := TX10) (N := 3) rfl guX10 (by decide) gw291) nw_getf_le, List.forall_mem_cons.mpr ⟨np_s_iload_n hX dX10_size_17 rfl, List.forall_mem_cons.mpr ⟨np_S.mono (op := np_ialdT .int) (np_s_iald hX dX10_size_18) nw_ialdT_le, List.forall_mem_cons.mpr ⟨np_s_iconst hX dX10_size_19 (by decide), List.forall_mem_cons.mpr ⟨np_S.mono (op := np_ic (fun x y => x = y) 26) (np_s_icmp_eq hX dX10_size_20 (by decide)) nq_ic_le, List.forall_mem_cons.mpr ⟨np_S.mono (op := np_iinc 1 1) (np_s_iinc hX dX10_size_23 (by decide)) nw_iinc_le, List.forall_mem_cons.mpr ⟨np_S.mono (op := np_iinc 2 1) (np_s_iinc hX dX10_size_26 (by decide)) nw_iinc_le, List.forall_mem_cons.mpr ⟨np_s_goto hX dX10_size_29 (by decide), List.forall_mem_cons.mpr ⟨np_s_iload_n hX dX10_size_32 rfl, List.forall_mem_cons.mpr ⟨np_S.mono (op := np_ret X.2.2.1) (np_s_ret hX dX10_size_33) (nq_ret_le hR), fun _ h => nomatch h⟩⟩⟩⟩⟩⟩⟩⟩⟩⟩⟩⟩⟩⟩⟩⟩⟩⟩⟩⟩
noncomputable def m_X10_size_4 : Nat → pw_S → Nat → Int32 → Int32 → pw_R Int32
| 0, _, _, _, _ => none
| N + 1, S, v0, v1, v2 =>
 if 8 ≤ v2 then
 (some (S, v1))
 else
 (pw_c (np_inb v2 8) <|
 if (S 19 0 (v2 : Int32).toNatClampNeg) = (-1) then
 (pw_l (v2 + 1 : Int32) fun z1 =>
 m_X10_size_4 N S v0 v1 z1)
 else
 (pw_l (v1 + 1 : Int32) fun z2 =>
 pw_l (v2 + 1 : Int32) fun z3 =>
 m_X10_size_4 N S v0 z2 z3))
set_option maxRecDepth 100000 in
set_option maxHeartbeats 8000000 in
theorem L_X10_size_4 {X : np_Ctx} (hX : np_ok RX10 cX10_size 3 0 0 0 0 .ireturn X) {Q : Option Value → np_W → Prop} {q n : Nat} (hR : ∀ st w ce sl, np_rt (some .int) 0 0 Q st w ce sl → X.2.2.1 st w ce sl) : ∀ (N : Nat) (S : pw_S) (v0 : Nat) (v1 : Int32) (v2 : Int32) (f : Nat → Option np_E) (hv0 : pw_ok q 56 v0 = true), pw_W q (n, f) S → pw_p (m_X10_size_4 N S v0 v1 v2) (fun S' r => ∀ f', pw_W q (n, f') S' → Q (some (.int r)) (n, f')) → np_G X 4 [(0, .ref (pw_pl 56 v0)), (1, .int v1), (2, .int v2)] [] (n, f) 0 0 := by
  intro N
  induction N with
  | zero =>
    intro S v0 v1 v2 f hv0 hW h
    exact (pw_pn h).elim
  | succ N ih =>
    intro S v0 v1 v2 f hv0 hW h
    unfold m_X10_size_4 at h
    refine np_soundW (so_X10_size hX hR) [4] 400 4 _ _ _ _ _ ?_
    conv => whnf
    refine np_rd_i (hW.g hv0) ?_
    conv => whnf
    refine np_rd_i (hW.g rfl) ?_
    conv => whnf
    refine pw_br h (fun _ h => ?_) (fun _ h => ?_)
    · conv => whnf
      exact ⟨Nat.le_of_ble_eq_true rfl, Nat.le_of_ble_eq_true rfl, ⟨_, rfl⟩, _, fun _ _ h9 => h9, pw_ps h _ hW⟩
    · conv => whnf
      refine np_rd_i (hW.g hv0) ?_
      conv => whnf
      refine np_rd_i (hW.g rfl) ?_
      conv => whnf
      refine pw_ck h (fun _ h => ?_)
      conv => whnf
      refine pw_br h (fun _ h => ?_) (fun _ h => ?_)
      · conv => whnf
        refine pw_st h (fun z1 h => ?_)
        conv => whnf
        exact np_gl (ih S v0 v1 z1 f hv0 hW h) ⟨rfl, rfl, rfl, trivial⟩
      · conv => whnf
        refine pw_st h (fun z2 h => ?_)
        conv => whnf
        refine pw_st h (fun z3 h => ?_)
        conv => whnf
        exact np_gl (ih S v0 z2 z3 f hv0 hW h) ⟨rfl, rfl, rfl, trivial⟩
noncomputable def m_X10_size (S : pw_S) (i0 : Nat) : pw_R Int32 :=
 pw_l (0 : Int32) fun z4 =>
 pw_l (0 : Int32) fun z5 =>
 m_X10_size_4 (pw_F 20000) S i0 z4 z5
def sp_X10_size : np_Sp := fun vs w Q => ∃ (q : Nat) (S : pw_S) (i0 : Nat), vs = [.ref (pw_pl 56 i0)] ∧ pw_ok q 56 i0 = true ∧ pw_W q w S ∧ pw_p (m_X10_size S i0) (fun S' r => ∀ f', pw_W q (w.1, f') S' → Q (some (.int r)) (w.1, f'))
set_option maxRecDepth 100000 in
set_option maxHeartbeats 8000000 in
theorem C_X10_size : np_C yX10_size cX10_size 3 (some .int) 0 0 0 0 sp_X10_size := by
  refine np_of (by decide) ?_
  intro X vs w Q hsp hX hmn hRt hlt
  obtain ⟨q, S, i0, rfl, hi0, hW, h⟩ := hsp
  obtain ⟨n, f⟩ := w
  unfold m_X10_size at h
  have hR : ∀ st w ce sl, np_rt (some .int) 0 0 Q st w ce sl → X.2.2.1 st w ce sl := fun _ _ _ _ h => by rw [hRt]; exact h
  refine np_soundW (so_X10_size hX hR) [4] 400 0 _ _ _ _ _ ?_
  conv => whnf
  refine pw_st h (fun z4 h => ?_)
  conv => whnf
  refine pw_st h (fun z5 h => ?_)
  conv => whnf
  exact np_gl (L_X10_size_4 hX hR (pw_F 20000) S i0 z4 z5 f hi0 hW h) ⟨rfl, rfl, rfl, trivial⟩
theorem dX11_item_0 : decode cX11_item 0 = .ok (.iload_n 1, 1) := by decide +kernel
theorem dX11_item_1 : decode cX11_item 1 = .ok (.invokestatic 89, 3) := by decide +kernel
theorem dX11_item_4 : decode cX11_item 4 = .ok (.ifCond .eq 20, 3) := by decide +kernel
theorem dX11_item_7 : decode cX11_item 7 = .ok (.iload_n 2, 1) := by decide +kernel
theorem dX11_item_8 : decode cX11_item 8 = .ok (.invokestatic 93, 3) := by decide +kernel
theorem dX11_item_11 : decode cX11_item 11 = .ok (.ifCond .ne 13, 3) := by decide +kernel
theorem dX11_item_14 : decode cX11_item 14 = .ok (.new 96, 3) := by decide +kernel
theorem dX11_item_17 : decode cX11_item 17 = .ok (.dup, 1) := by decide +kernel
theorem dX11_item_18 : decode cX11_item 18 = .ok (.ldc 98, 2) := by decide +kernel
theorem dX11_item_20 : decode cX11_item 20 = .ok (.invokespecial 100, 3) := by decide +kernel
theorem dX11_item_23 : decode cX11_item 23 = .ok (.athrow, 1) := by decide +kernel
theorem dX11_item_24 : decode cX11_item 24 = .ok (.iload_n 1, 1) := by decide +kernel
theorem dX11_item_25 : decode cX11_item 25 = .ok (.iload_n 2, 1) := by decide +kernel
theorem dX11_item_26 : decode cX11_item 26 = .ok (.iload_n 3, 1) := by decide +kernel
theorem dX11_item_27 : decode cX11_item 27 = .ok (.iload 4, 2) := by decide +kernel
theorem dX11_item_29 : decode cX11_item 29 = .ok (.invokestatic 103, 3) := by decide +kernel
theorem dX11_item_32 : decode cX11_item 32 = .ok (.ifCond .ne 13, 3) := by decide +kernel
theorem dX11_item_35 : decode cX11_item 35 = .ok (.new 107, 3) := by decide +kernel
theorem dX11_item_38 : decode cX11_item 38 = .ok (.dup, 1) := by decide +kernel
theorem dX11_item_39 : decode cX11_item 39 = .ok (.ldc 109, 2) := by decide +kernel
theorem dX11_item_41 : decode cX11_item 41 = .ok (.invokespecial 111, 3) := by decide +kernel
theorem dX11_item_44 : decode cX11_item 44 = .ok (.athrow, 1) := by decide +kernel
theorem dX11_item_45 : decode cX11_item 45 = .ok (.aload_n 0, 1) := by decide +kernel
theorem dX11_item_46 : decode cX11_item 46 = .ok (.getfield 14, 3) := by decide +kernel
theorem dX11_item_49 : decode cX11_item 49 = .ok (.invokevirtual 112, 3) := by decide +kernel
theorem dX11_item_52 : decode cX11_item 52 = .ok (.ifCond .eq 13, 3) := by decide +kernel
theorem dX11_item_55 : decode cX11_item 55 = .ok (.new 116, 3) := by decide +kernel
theorem dX11_item_58 : decode cX11_item 58 = .ok (.dup, 1) := by decide +kernel
theorem dX11_item_59 : decode cX11_item 59 = .ok (.ldc 118, 2) := by decide +kernel
theorem dX11_item_61 : decode cX11_item 61 = .ok (.invokespecial 120, 3) := by decide +kernel
theorem dX11_item_64 : decode cX11_item 64 = .ok (.athrow, 1) := by decide +kernel
theorem dX11_item_65 : decode cX11_item 65 = .ok (.aload_n 0, 1) := by decide +kernel
theorem dX11_item_66 : decode cX11_item 66 = .ok (.getfield 14, 3) := by decide +kernel
theorem dX11_item_69 : decode cX11_item 69 = .ok (.iload_n 1, 1) := by decide +kernel
theorem dX11_item_70 : decode cX11_item 70 = .ok (.iload_n 2, 1) := by decide +kernel
theorem dX11_item_71 : decode cX11_item 71 = .ok (.iload_n 3, 1) := by decide +kernel
theorem dX11_item_72 : decode cX11_item 72 = .ok (.iload 4, 2) := by decide +kernel
theorem dX11_item_74 : decode cX11_item 74 = .ok (.invokevirtual 121, 3) := by decide +kernel
theorem dX11_item_77 : decode cX11_item 77 = .ok (.aload_n 0, 1) := by decide +kernel
theorem dX11_item_78 : decode cX11_item 78 = .ok (.getfield 14, 3) := by decide +kernel
theorem dX11_item_81 : decode cX11_item 81 = .ok (.getfield 125, 3) := by decide +kernel
theorem dX11_item_84 : decode cX11_item 84 = .ok (.ireturn, 1) := by decide +kernel
def is_X11_item (Rt : np_Rt) (Th : np_Th) : List (Nat × np_Op) := [(0, np_ild 1 1), (1, nq_call 1 sp_X2_tellsSlot 1 0 0 1 6), (4, nq_if (fun x => x = 0) 24), (7, np_ild 1 2), (8, nq_call 1 sp_X11_isSlot 1 0 0 1 6), (11, nq_ifne 24), (14, nq_throw Th 0), (24, np_ild 1 1), (25, np_ild 1 2), (26, np_ild 1 3), (27, np_ild 2 4), (29, nq_call 4 sp_X2_inRange 4 0 0 1 6), (32, nq_ifne 45), (35, nq_throw Th 1), (45, np_ald 1 0), (46, nw_getf 11 0), (49, nw_callV 2 1 sp_X2_isFull 1 0 0 1 6), (52, nq_if (fun x => x = 0) 65), (55, nq_throw Th 2), (65, np_ald 1 0), (66, nw_getf 11 0), (69, np_ild 1 1), (70, np_ild 1 2), (71, np_ild 1 3), (72, np_ild 2 4), (74, nw_callV 2 5 sp_X2_add 5 0 0 1 6), (77, np_ald 1 0), (78, nw_getf 11 0), (81, nw_getf 2 4), (84, np_ret Rt)]
set_option maxRecDepth 20000 in
theorem so_X11_item {X : np_Ctx} {Rt : np_Rt} {Th : np_Th} (hX : np_ok RX11 cX11_item 5 6 100 1 6 .ireturn X) (hR : ∀ st w ce sl, Rt st w ce sl → X.2.2.1 st w ce sl) (hT : ∀ i w ce sl, Th i w ce sl → X.2.2.2 i w ce sl) : ∀ q ∈ is_X11_item Rt Th, np_S X q.1 q.2 :=
  List.forall_mem_cons.mpr ⟨np_s_iload_n hX dX11_item_0 rfl, List.forall_mem_cons.mpr ⟨np_S.mono (op := np_call 1 sp_X2_tellsSlot 1 0 0 1 6) (np_s_callS hX C_X2_tellsSlot dX11_item_1 gw512 gw64 gw510 gw511 ⟨by decide, by decide, by decide⟩ (by decide) (by decide)) nq_call_le, List.forall_mem_cons.mpr ⟨np_S.mono (op := np_if (fun x => x = 0) 24) (np_s_if_eq hX dX11_item_4 (by decide)) nq_if_le, List.forall_mem_cons.mpr ⟨np_s_iload_n hX dX11_item_7 rfl, List.forall_mem_cons.mpr ⟨np_S.mono (op := np_call 1 sp_X11_isSlot 1 0 0 1 6) (np_s_callS hX C_X11_isSlot dX11_item_8 gw515 gw63 gw513 gw514 ⟨by decide, by decide, by decide⟩ (by decide) (by decide)) nq_call_le, List.forall_mem_cons.mpr ⟨np_S.mono (op := np_ifne 24) (np_s_if_ne hX dX11_item_11 (by decide)) nq_ifne_le, List.forall_mem_cons.mpr ⟨np_S.mono (op := np_throw X.2.2.2 0) (np_s_throw hX ⟨96, 98, 100, _, gw516, gw78, sw557, twX11_100, toX11_100_96, Or.inl ⟨dX11_item_14, dX11_item_17, dX11_item_18, dX11_item_20, dX11_item_23⟩⟩) (nq_throw_le hT), List.forall_mem_cons.mpr ⟨np_s_iload_n hX dX11_item_24 rfl, List.forall_mem_cons.mpr ⟨np_s_iload_n hX dX11_item_25 rfl, List.forall_mem_cons.mpr ⟨np_s_iload_n hX dX11_item_26 rfl, List.forall_mem_cons.mpr ⟨np_s_iload hX dX11_item_27, List.forall_mem_cons.mpr ⟨np_S.mono (op := np_call 4 sp_X2_inRange 4 0 0 1 6) (np_s_callS hX C_X2_inRange dX11_item_29 gw586 gw64 gw584 gw585 ⟨by decide, by decide, by decide⟩ (by decide) (by decide)) nq_call_le, List.forall_mem_cons.mpr ⟨np_S.mono (op := np_ifne 45) (np_s_if_ne hX dX11_item_32 (by decide)) nq_ifne_le, List.forall_mem_cons.mpr ⟨np_S.mono (op := np_throw X.2.2.2 1) (np_s_throw hX ⟨107, 109, 111, _, gw590, gw79, sw599, twX11_111, toX11_111_107, Or.inl ⟨dX11_item_35, dX11_item_38, dX11_item_39, dX11_item_41, dX11_item_44⟩⟩) (nq_throw_le hT), List.forall_mem_cons.mpr ⟨np_s_aload_n hX dX11_item_45 rfl, List.forall_mem_cons.mpr ⟨np_S.mono (op := np_getf 11 0) (np_s_getf hX dX11_item_46 (C := RX11) (T := TX11) (N := 14) rfl guX11 (by decide) gw441) nw_getf_le, List.forall_mem_cons.mpr ⟨np_S.mono (op := np_callV 2 1 sp_X2_isFull 1 0 0 1 6) (np_s_callV hX C_X2_isFull dX11_item_49 (q := (RX2, TX2, 5)) rfl rfl gw609 gw64 gw606 gw607 gw608 ⟨by decide, by decide, by decide⟩ (by decide) (by decide)) nw_callV_le, List.forall_mem_cons.mpr ⟨np_S.mono (op := np_if (fun x => x = 0) 65) (np_s_if_eq hX dX11_item_52 (by decide)) nq_if_le, List.forall_mem_cons.mpr ⟨np_S.mono (op := np_throw X.2.2.2 2) (np_s_throw hX ⟨116, 118, 120, _, gw610, gw80, sw619, twX11_120, toX11_120_116, Or.inl ⟨dX11_item_55, dX11_item_58, dX11_item_59, dX11_item_61, dX11_item_64⟩⟩) (nq_throw_le hT), List.forall_mem_cons.mpr ⟨np_s_aload_n hX dX11_item_65 rfl, List.forall_mem_cons.mpr ⟨np_S.mono (op := np_getf 11 0) (np_s_getf hX dX11_item_66 (C := RX11) (T := TX11) (N := 14) rfl guX11 (by decide) gw441) nw_getf_le, List.forall_mem_cons.mpr ⟨np_s_iload_n hX dX11_item_69 rfl, List.forall_mem_cons.mpr ⟨np_s_iload_n hX dX11_item_70 rfl, List.forall_mem_cons.mpr ⟨np_s_iload_n hX dX11_item_71 rfl, List.forall_mem_cons.mpr ⟨np_s_iload hX dX11_item_72, List.forall_mem_cons.mpr ⟨np_S.mono (op := np_callV 2 5 sp_X2_add 5 0 0 1 6) (np_s_callV hX C_X2_add dX11_item_74 (q := (RX2, TX2, 5)) rfl rfl gw629 gw64 gw626 gw627 gw628 ⟨by decide, by decide, by decide⟩ (by decide) (by decide)) nw_callV_le, List.forall_mem_cons.mpr ⟨np_s_aload_n hX dX11_item_77 rfl, List.forall_mem_cons.mpr ⟨np_S.mono (op := np_getf 11 0) (np_s_getf hX dX11_item_78 (C := RX11) (T := TX11) (N := 14) rfl guX11 (by decide) gw441) nw_getf_le, List.forall_mem_cons.mpr ⟨np_S.mono (op := np_getf 2 4) (np_s_getN hX dX11_item_81 (C := RX2) (T := TX2) (N := 5) rfl guX2 (by decide) gw104) nw_getf_le, List.forall_mem_cons.mpr ⟨np_S.mono (op := np_ret X.2.2.1) (np_s_ret hX dX11_item_84) (nq_ret_le hR), fun _ h => nomatch h⟩⟩⟩⟩⟩⟩⟩⟩⟩⟩⟩⟩⟩⟩⟩⟩⟩⟩⟩⟩⟩⟩⟩⟩⟩⟩⟩⟩⟩⟩
noncomputable def m_X11_item (S : pw_S) (i0 : Nat) (x1 : Int32) (x2 : Int32) (x3 : Int32) (x4 : Int32) : pw_R (Int32 ⊕ Nat) :=
 pw_b (m_X2_tellsSlot S x1) fun S1 r4 =>
 if r4 = 0 then
 (pw_b (m_X2_inRange S1 x1 x2 x3 x4) fun S6 r9 =>
 if r9 = 0 then
 (some (S6, .inr 1))
 else
 (pw_b (m_X2_isFull S6 6) fun S11 r14 =>
 if r14 = 0 then
 (pw_b (m_X2_add S11 6 x1 x2 x3 x4) fun S16 r19 =>
 some (S16, .inl (S16 51 6 4)))
 else
 (some (S11, .inr 2))))
 else
 (pw_b (m_X11_isSlot S1 x2) fun S21 r24 =>
 if r24 = 0 then
 (some (S21, .inr 0))
 else
 (pw_b (m_X2_inRange S21 x1 x2 x3 x4) fun S26 r29 =>
 if r29 = 0 then
 (some (S26, .inr 1))
 else
 (pw_b (m_X2_isFull S26 6) fun S31 r34 =>
 if r34 = 0 then
 (pw_b (m_X2_add S31 6 x1 x2 x3 x4) fun S36 r39 =>
 some (S36, .inl (S36 51 6 4)))
 else
 (some (S31, .inr 2)))))
def sp_X11_item : np_SpX := fun vs w Q QX => ∃ (q : Nat) (S : pw_S) (i0 : Nat) (x1 : Int32) (x2 : Int32) (x3 : Int32) (x4 : Int32), vs = [.ref (pw_pl 61 i0), .int x1, .int x2, .int x3, .int x4] ∧ pw_ok q 61 i0 = true ∧ pw_W q w S ∧ pw_p (m_X11_item S i0 x1 x2 x3 x4) (fun S' rx => ∀ f', pw_W q (w.1, f') S' → match rx with | .inl r => Q (some (.int r)) (w.1, f') | .inr e => QX e (w.1, f'))
set_option maxRecDepth 100000 in
set_option maxHeartbeats 8000000 in
theorem C_X11_item : np_CX yX11_item cX11_item 5 (some .int) 6 100 1 6 sp_X11_item := by
  refine np_ofX (by decide) (by decide) (by decide) ?_
  intro X vs w Q QX hsp hX hmn hRt hTh
  obtain ⟨q, S, i0, x1, x2, x3, x4, rfl, hi0, hW, h⟩ := hsp
  obtain ⟨n, f⟩ := w
  unfold m_X11_item at h
  have hR : ∀ st w ce sl, np_rq (some .int) 1 6 Q st w ce sl → X.2.2.1 st w ce sl := fun _ _ _ _ h => by rw [hRt]; exact h
  have hT : ∀ i w ce sl, np_thq 1 6 QX i w ce sl → X.2.2.2 i w ce sl := fun _ _ _ _ h => by rw [hTh]; exact h
  refine np_soundW (so_X11_item hX hR hT) [] 400 0 _ _ _ _ _ ?_
  conv => whnf
  refine ⟨q, S, x1, rfl, hW, pw_bd h (fun S1 r4 h f2 hW3 => ?_)⟩
  conv => whnf
  refine pw_br h (fun _ h => ?_) (fun _ h => ?_)
  · conv => whnf
    refine ⟨q, S1, x1, x2, x3, x4, rfl, hW3, pw_bd h (fun S6 r9 h f7 hW8 => ?_)⟩
    conv => whnf
    refine pw_br h (fun _ h => ?_) (fun _ h => ?_)
    · conv => whnf
      exact ⟨Nat.le_of_ble_eq_true rfl, Nat.le_of_ble_eq_true rfl, pw_ps h _ hW8⟩
    · conv => whnf
      refine np_rd_i (hW8.g hi0) ?_
      conv => whnf
      refine np_rd_i (hW8.g rfl) ?_
      conv => whnf
      refine ⟨q, S6, 6, rfl, rfl, hW8, pw_bd h (fun S11 r14 h f12 hW13 => ?_)⟩
      conv => whnf
      refine pw_br h (fun _ h => ?_) (fun _ h => ?_)
      · conv => whnf
        refine np_rd_i (hW13.g hi0) ?_
        conv => whnf
        refine np_rd_i (hW13.g rfl) ?_
        conv => whnf
        refine ⟨q, S11, 6, x1, x2, x3, x4, rfl, rfl, hW13, pw_bd h (fun S16 r19 h f17 hW18 => ?_)⟩
        conv => whnf
        refine np_rd_i (hW18.g hi0) ?_
        conv => whnf
        refine np_rd_i (hW18.g rfl) ?_
        conv => whnf
        exact ⟨Nat.le_of_ble_eq_true rfl, Nat.le_of_ble_eq_true rfl, trivial, pw_ps h _ hW18⟩
      · conv => whnf
        exact ⟨Nat.le_of_ble_eq_true rfl, Nat.le_of_ble_eq_true rfl, pw_ps h _ hW13⟩
  · conv => whnf
    refine ⟨q, S1, x2, rfl, hW3, pw_bd h (fun S21 r24 h f22 hW23 => ?_)⟩
    conv => whnf
    refine pw_br h (fun _ h => ?_) (fun _ h => ?_)
    · conv => whnf
      exact ⟨Nat.le_of_ble_eq_true rfl, Nat.le_of_ble_eq_true rfl, pw_ps h _ hW23⟩
    · conv => whnf
      refine ⟨q, S21, x1, x2, x3, x4, rfl, hW23, pw_bd h (fun S26 r29 h f27 hW28 => ?_)⟩
      conv => whnf
      refine pw_br h (fun _ h => ?_) (fun _ h => ?_)
      · conv => whnf
        exact ⟨Nat.le_of_ble_eq_true rfl, Nat.le_of_ble_eq_true rfl, pw_ps h _ hW28⟩
      · conv => whnf
        refine np_rd_i (hW28.g hi0) ?_
        conv => whnf
        refine np_rd_i (hW28.g rfl) ?_
        conv => whnf
        refine ⟨q, S26, 6, rfl, rfl, hW28, pw_bd h (fun S31 r34 h f32 hW33 => ?_)⟩
        conv => whnf
        refine pw_br h (fun _ h => ?_) (fun _ h => ?_)
        · conv => whnf
          refine np_rd_i (hW33.g hi0) ?_
          conv => whnf
          refine np_rd_i (hW33.g rfl) ?_
          conv => whnf
          refine ⟨q, S31, 6, x1, x2, x3, x4, rfl, rfl, hW33, pw_bd h (fun S36 r39 h f37 hW38 => ?_)⟩
          conv => whnf
          refine np_rd_i (hW38.g hi0) ?_
          conv => whnf
          refine np_rd_i (hW38.g rfl) ?_
          conv => whnf
          exact ⟨Nat.le_of_ble_eq_true rfl, Nat.le_of_ble_eq_true rfl, trivial, pw_ps h _ hW38⟩
        · conv => whnf
          exact ⟨Nat.le_of_ble_eq_true rfl, Nat.le_of_ble_eq_true rfl, pw_ps h _ hW33⟩
theorem dX11_dropItems_0 : decode cX11_dropItems 0 = .ok (.aload_n 0, 1) := by decide +kernel
theorem dX11_dropItems_1 : decode cX11_dropItems 1 = .ok (.getfield 14, 3) := by decide +kernel
theorem dX11_dropItems_4 : decode cX11_dropItems 4 = .ok (.getfield 125, 3) := by decide +kernel
theorem dX11_dropItems_7 : decode cX11_dropItems 7 = .ok (.istore_n 1, 1) := by decide +kernel
theorem dX11_dropItems_8 : decode cX11_dropItems 8 = .ok (.aload_n 0, 1) := by decide +kernel
theorem dX11_dropItems_9 : decode cX11_dropItems 9 = .ok (.getfield 14, 3) := by decide +kernel
theorem dX11_dropItems_12 : decode cX11_dropItems 12 = .ok (.invokevirtual 129, 3) := by decide +kernel
theorem dX11_dropItems_15 : decode cX11_dropItems 15 = .ok (.iload_n 1, 1) := by decide +kernel
theorem dX11_dropItems_16 : decode cX11_dropItems 16 = .ok (.ireturn, 1) := by decide +kernel
def is_X11_dropItems (Rt : np_Rt) : List (Nat × np_Op) := [(0, np_ald 1 0), (1, nw_getf 11 0), (4, nw_getf 2 4), (7, nw_ist 1 1), (8, np_ald 1 0), (9, nw_getf 11 0), (12, nw_callV 2 1 sp_X2_clear 1 0 0 0 0), (15, np_ild 1 1), (16, np_ret Rt)]
set_option maxRecDepth 20000 in
theorem so_X11_dropItems {X : np_Ctx} {Rt : np_Rt} (hX : np_ok RX11 cX11_dropItems 2 1 20 0 0 .ireturn X) (hR : ∀ st w ce sl, Rt st w ce sl → X.2.2.1 st w ce sl) : ∀ q ∈ is_X11_dropItems Rt, np_S X q.1 q.2 :=
  List.forall_mem_cons.mpr ⟨np_s_aload_n hX dX11_dropItems_0 rfl, List.forall_mem_cons.mpr ⟨np_S.mono (op := np_getf 11 0) (np_s_getf hX dX11_dropItems_1 (C := RX11) (T := TX11) (N := 14) rfl guX11 (by decide) gw441) nw_getf_le, List.forall_mem_cons.mpr ⟨np_S.mono (op := np_getf 2 4) (np_s_getN hX dX11_dropItems_4 (C := RX2) (T := TX2) (N := 5) rfl guX2 (by decide) gw104) nw_getf_le, List.forall_mem_cons.mpr ⟨np_S.mono (op := np_ist 1 1) (np_s_istore_n hX dX11_dropItems_7 rfl (by decide)) nw_ist_le, List.forall_mem_cons.mpr ⟨np_s_aload_n hX dX11_dropItems_8 rfl, List.forall_mem_cons.mpr ⟨np_S.mono (op := np_getf 11 0) (np_s_getf hX dX11_dropItems_9 (C := RX11) (T := TX11) (N := 14) rfl guX11 (by decide) gw441) nw_getf_le, List.forall_mem_cons.mpr ⟨np_S.mono (op := np_callV 2 1 sp_X2_clear 1 0 0 0 0) (np_s_callV hX C_X2_clear dX11_dropItems_12 (q := (RX2, TX2, 5)) rfl rfl gw501 gw64 gw498 gw499 gw500 ⟨by decide, by decide, by decide⟩ (by decide) (by decide)) nw_callV_le, List.forall_mem_cons.mpr ⟨np_s_iload_n hX dX11_dropItems_15 rfl, List.forall_mem_cons.mpr ⟨np_S.mono (op := np_ret X.2.2.1) (np_s_ret hX dX11_dropItems_16) (nq_ret_le hR), fun _ h => nomatch h⟩⟩⟩⟩⟩⟩⟩⟩⟩
noncomputable def m_X11_dropItems (S : pw_S) (i0 : Nat) : pw_R Int32 :=
 pw_l ((S 51 6 4) : Int32) fun z1 =>
 pw_b (m_X2_clear S 6) fun S2 r5 =>
 some (S2, z1)
def sp_X11_dropItems : np_Sp := fun vs w Q => ∃ (q : Nat) (S : pw_S) (i0 : Nat), vs = [.ref (pw_pl 61 i0)] ∧ pw_ok q 61 i0 = true ∧ pw_W q w S ∧ pw_p (m_X11_dropItems S i0) (fun S' r => ∀ f', pw_W q (w.1, f') S' → Q (some (.int r)) (w.1, f'))
set_option maxRecDepth 100000 in
set_option maxHeartbeats 8000000 in
theorem C_X11_dropItems : np_C yX11_dropItems cX11_dropItems 2 (some .int) 1 20 0 0 sp_X11_dropItems := by
  refine np_of (by decide) ?_
  intro X vs w Q hsp hX hmn hRt hlt
  obtain ⟨q, S, i0, rfl, hi0, hW, h⟩ := hsp
  obtain ⟨n, f⟩ := w
  unfold m_X11_dropItems at h
  have hR : ∀ st w ce sl, np_rt (some .int) 0 0 Q st w ce sl → X.2.2.1 st w ce sl := fun _ _ _ _ h => by rw [hRt]; exact h
  refine np_soundW (so_X11_dropItems hX hR) [] 400 0 _ _ _ _ _ ?_
  conv => whnf
  refine np_rd_i (hW.g hi0) ?_
  conv => whnf
  refine np_rd_i (hW.g rfl) ?_
  conv => whnf
  refine pw_st h (fun z1 h => ?_)
  conv => whnf
  refine np_rd_i (hW.g hi0) ?_
  conv => whnf
  refine np_rd_i (hW.g rfl) ?_
  conv => whnf
  refine ⟨q, S, 6, rfl, rfl, hW, pw_bd h (fun S2 r5 h f3 hW4 => ?_)⟩
  conv => whnf
  exact ⟨Nat.le_of_ble_eq_true rfl, Nat.le_of_ble_eq_true rfl, ⟨_, rfl⟩, _, fun _ _ h9 => h9, pw_ps h _ hW4⟩
theorem dX11_description_0 : decode cX11_description 0 = .ok (.aload_n 0, 1) := by decide +kernel
theorem dX11_description_1 : decode cX11_description 1 = .ok (.getfield 132, 3) := by decide +kernel
theorem dX11_description_4 : decode cX11_description 4 = .ok (.aload_n 0, 1) := by decide +kernel
theorem dX11_description_5 : decode cX11_description 5 = .ok (.getfield 20, 3) := by decide +kernel
theorem dX11_description_8 : decode cX11_description 8 = .ok (.arraylength, 1) := by decide +kernel
theorem dX11_description_9 : decode cX11_description 9 = .ok (.if_icmp .lt 13, 3) := by decide +kernel
theorem dX11_description_12 : decode cX11_description 12 = .ok (.new 116, 3) := by decide +kernel
theorem dX11_description_15 : decode cX11_description 15 = .ok (.dup, 1) := by decide +kernel
theorem dX11_description_16 : decode cX11_description 16 = .ok (.ldc 135, 2) := by decide +kernel
theorem dX11_description_18 : decode cX11_description 18 = .ok (.invokespecial 120, 3) := by decide +kernel
theorem dX11_description_21 : decode cX11_description 21 = .ok (.athrow, 1) := by decide +kernel
theorem dX11_description_22 : decode cX11_description 22 = .ok (.aload_n 0, 1) := by decide +kernel
theorem dX11_description_23 : decode cX11_description 23 = .ok (.getfield 20, 3) := by decide +kernel
theorem dX11_description_26 : decode cX11_description 26 = .ok (.aload_n 0, 1) := by decide +kernel
theorem dX11_description_27 : decode cX11_description 27 = .ok (.getfield 132, 3) := by decide +kernel
theorem dX11_description_30 : decode cX11_description 30 = .ok (.aaload, 1) := by decide +kernel
theorem dX11_description_31 : decode cX11_description 31 = .ok (.astore_n 1, 1) := by decide +kernel
theorem dX11_description_32 : decode cX11_description 32 = .ok (.aload_n 1, 1) := by decide +kernel
theorem dX11_description_33 : decode cX11_description 33 = .ok (.ifnull 13, 3) := by decide +kernel
theorem dX11_description_36 : decode cX11_description 36 = .ok (.aload_n 0, 1) := by decide +kernel
theorem dX11_description_37 : decode cX11_description 37 = .ok (.getfield 14, 3) := by decide +kernel
theorem dX11_description_40 : decode cX11_description 40 = .ok (.invokevirtual 137, 3) := by decide +kernel
theorem dX11_description_43 : decode cX11_description 43 = .ok (.ifCond .ne 5, 3) := by decide +kernel
theorem dX11_description_46 : decode cX11_description 46 = .ok (.iconst (-1), 1) := by decide +kernel
theorem dX11_description_47 : decode cX11_description 47 = .ok (.ireturn, 1) := by decide +kernel
theorem dX11_description_48 : decode cX11_description 48 = .ok (.aload_n 1, 1) := by decide +kernel
theorem dX11_description_49 : decode cX11_description 49 = .ok (.getfield 140, 3) := by decide +kernel
theorem dX11_description_52 : decode cX11_description 52 = .ok (.aload_n 0, 1) := by decide +kernel
theorem dX11_description_53 : decode cX11_description 53 = .ok (.getfield 14, 3) := by decide +kernel
theorem dX11_description_56 : decode cX11_description 56 = .ok (.invokevirtual 143, 3) := by decide +kernel
theorem dX11_description_59 : decode cX11_description 59 = .ok (.aload_n 0, 1) := by decide +kernel
theorem dX11_description_60 : decode cX11_description 60 = .ok (.getfield 14, 3) := by decide +kernel
theorem dX11_description_63 : decode cX11_description 63 = .ok (.invokevirtual 129, 3) := by decide +kernel
theorem dX11_description_66 : decode cX11_description 66 = .ok (.aload_n 0, 1) := by decide +kernel
theorem dX11_description_67 : decode cX11_description 67 = .ok (.dup, 1) := by decide +kernel
theorem dX11_description_68 : decode cX11_description 68 = .ok (.getfield 132, 3) := by decide +kernel
theorem dX11_description_71 : decode cX11_description 71 = .ok (.iconst 1, 1) := by decide +kernel
theorem dX11_description_72 : decode cX11_description 72 = .ok (.iadd, 1) := by decide +kernel
theorem dX11_description_73 : decode cX11_description 73 = .ok (.putfield 132, 3) := by decide +kernel
theorem dX11_description_76 : decode cX11_description 76 = .ok (.aload_n 0, 1) := by decide +kernel
theorem dX11_description_77 : decode cX11_description 77 = .ok (.getfield 132, 3) := by decide +kernel
theorem dX11_description_80 : decode cX11_description 80 = .ok (.iconst 1, 1) := by decide +kernel
theorem dX11_description_81 : decode cX11_description 81 = .ok (.isub, 1) := by decide +kernel
theorem dX11_description_82 : decode cX11_description 82 = .ok (.ireturn, 1) := by decide +kernel
def is_X11_description (Rt : np_Rt) (Th : np_Th) : List (Nat × np_Op) := [(0, np_ald 1 0), (1, nw_getf 11 2), (4, np_ald 1 0), (5, nw_getf 11 1), (8, nw_alen), (9, nq_ic (fun x y => x < y) 22), (12, nq_throw Th 2), (22, np_ald 1 0), (23, nw_getf 11 1), (26, np_ald 1 0), (27, nw_getf 11 2), (30, nw_aald "NotationPress$Description"), (31, np_ast 1 1), (32, np_ald 1 1), (33, np_ifnull 46), (36, np_ald 1 0), (37, nw_getf 11 0), (40, nw_callV 2 1 sp_X2_isDescription 2 0 0 1 6), (43, nq_ifne 48), (46, np_push 1 (.int (-1))), (47, np_ret Rt), (48, np_ald 1 1), (49, nw_getf 1 0), (52, np_ald 1 0), (53, nw_getf 11 0), (56, nw_callV 2 2 sp_X2_copyFrom 3 0 0 1 6), (59, np_ald 1 0), (60, nw_getf 11 0), (63, nw_callV 2 1 sp_X2_clear 1 0 0 1 6), (66, np_ald 1 0), (67, nq_dup), (68, nw_getf 11 2), (71, np_push 1 (.int 1)), (72, np_ib (fun x y => x + y)), (73, nw_putf 11 2 (.int)), (76, np_ald 1 0), (77, nw_getf 11 2), (80, np_push 1 (.int 1)), (81, np_ib (fun x y => x - y)), (82, np_ret Rt)]
set_option maxRecDepth 20000 in
theorem so_X11_description {X : np_Ctx} {Rt : np_Rt} {Th : np_Th} (hX : np_ok RX11 cX11_description 2 6 131 1 6 .ireturn X) (hR : ∀ st w ce sl, Rt st w ce sl → X.2.2.1 st w ce sl) (hT : ∀ i w ce sl, Th i w ce sl → X.2.2.2 i w ce sl) : ∀ q ∈ is_X11_description Rt Th, np_S X q.1 q.2 :=
  List.forall_mem_cons.mpr ⟨np_s_aload_n hX dX11_description_0 rfl, List.forall_mem_cons.mpr ⟨np_S.mono (op := np_getf 11 2) (np_s_getf hX dX11_description_1 (C := RX11) (T := TX11) (N := 14) rfl guX11 (by decide) gw443) nw_getf_le, List.forall_mem_cons.mpr ⟨np_s_aload_n hX dX11_description_4 rfl, List.forall_mem_cons.mpr ⟨np_S.mono (op := np_getf 11 1) (np_s_getf hX dX11_description_5 (C := RX11) (T := TX11) (N := 14) rfl guX11 (by decide) gw442) nw_getf_le, List.forall_mem_cons.mpr ⟨np_S.mono (op := np_alen) (np_s_alen hX dX11_description_8) nw_alen_le, List.forall_mem_cons.mpr ⟨np_S.mono (op := np_ic (fun x y => x < y) 22) (np_s_icmp_lt hX dX11_description_9 (by decide)) nq_ic_le, List.forall_mem_cons.mpr ⟨np_S.mono (op := np_throw X.2.2.2 2) (np_s_throw hX ⟨116, 135, 120, _, gw610, gw80, sw638, twX11_120, toX11_120_116, Or.inl ⟨dX11_description_12, dX11_description_15, dX11_description_16, dX11_description_18, dX11_description_21⟩⟩) (nq_throw_le hT), List.forall_mem_cons.mpr ⟨np_s_aload_n hX dX11_description_22 rfl, List.forall_mem_cons.mpr ⟨np_S.mono (op := np_getf 11 1) (np_s_getf hX dX11_description_23 (C := RX11) (T := TX11) (N := 14) rfl guX11 (by decide) gw442) nw_getf_le, List.forall_mem_cons.mpr ⟨np_s_aload_n hX dX11_description_26 rfl, List.forall_mem_cons.mpr ⟨np_S.mono (op := np_getf 11 2) (np_s_getf hX dX11_description_27 (C := RX11) (T := TX11) (N := 14) rfl guX11 (by decide) gw443) nw_getf_le, List.forall_mem_cons.mpr ⟨np_S.mono (op := np_aald "NotationPress$Description") (np_s_aald hX dX11_description_30) nw_aald_le, List.forall_mem_cons.mpr ⟨np_s_astore_n hX dX11_description_31 rfl (by decide), List.forall_mem_cons.mpr ⟨np_s_aload_n hX dX11_description_32 rfl, List.forall_mem_cons.mpr ⟨np_s_ifnull hX dX11_description_33 (by decide), List.forall_mem_cons.mpr ⟨np_s_aload_n hX dX11_description_36 rfl, List.forall_mem_cons.mpr ⟨np_S.mono (op := np_getf 11 0) (np_s_getf hX dX11_description_37 (C := RX11) (T := TX11) (N := 14) rfl guX11 (by decide) gw441) nw_getf_le, List.forall_mem_cons.mpr ⟨np_S.mono (op := np_callV 2 1 sp_X2_isDescription 2 0 0 1 6) (np_s_callV hX C_X2_isDescription dX11_description_40 (q := (RX2, TX2, 5)) rfl rfl gw642 gw64 gw639 gw640 gw641 ⟨by decide, by decide, by decide⟩ (by decide) (by decide)) nw_callV_le, List.forall_mem_cons.mpr ⟨np_S.mono (op := np_ifne 48) (np_s_if_ne hX dX11_description_43 (by decide)) nq_ifne_le, List.forall_mem_cons.mpr ⟨np_s_iconst hX dX11_description_46 (by decide), List.forall_mem_cons.mpr ⟨np_S.mono (op := np_ret X.2.2.1) (np_s_ret hX dX11_description_47) (nq_ret_le hR), List.forall_mem_cons.mpr ⟨np_s_aload_n hX dX11_description_48 rfl, List.forall_mem_cons.mpr ⟨np_S.mono (op := np_getf 1 0) (np_s_getN hX dX11_description_49 (C := RX1) (T := TX1) (N := 7) rfl guX1 (by decide) gw315) nw_getf_le, List.forall_mem_cons.mpr ⟨np_s_aload_n hX dX11_description_52 rfl, List.forall_mem_cons.mpr ⟨np_S.mono (op := np_getf 11 0) (np_s_getf hX dX11_description_53 (C := RX11) (T := TX11) (N := 14) rfl guX11 (by decide) gw441) nw_getf_le, List.forall_mem_cons.mpr ⟨np_S.mono (op := np_callV 2 2 sp_X2_copyFrom 3 0 0 1 6) (np_s_callV hX C_X2_copyFrom dX11_description_56 (q := (RX2, TX2, 5)) rfl rfl gw685 gw64 gw682 gw683 gw684 ⟨by decide, by decide, by decide⟩ (by decide) (by decide)) nw_callV_le, List.forall_mem_cons.mpr ⟨np_s_aload_n hX dX11_description_59 rfl, List.forall_mem_cons.mpr ⟨np_S.mono (op := np_getf 11 0) (np_s_getf hX dX11_description_60 (C := RX11) (T := TX11) (N := 14) rfl guX11 (by decide) gw441) nw_getf_le, List.forall_mem_cons.mpr ⟨np_S.mono (op := np_callV 2 1 sp_X2_clear 1 0 0 1 6) (np_s_callV hX C_X2_clear dX11_description_63 (q := (RX2, TX2, 5)) rfl rfl gw501 gw64 gw498 gw499 gw500 ⟨by decide, by decide, by decide⟩ (by decide) (by decide)) nw_callV_le, List.forall_mem_cons.mpr ⟨np_s_aload_n hX dX11_description_66 rfl, List.forall_mem_cons.mpr ⟨np_S.mono (op := np_dup) (np_s_dup hX dX11_description_67) nq_dup_le, List.forall_mem_cons.mpr ⟨np_S.mono (op := np_getf 11 2) (np_s_getf hX dX11_description_68 (C := RX11) (T := TX11) (N := 14) rfl guX11 (by decide) gw443) nw_getf_le, List.forall_mem_cons.mpr ⟨np_s_iconst hX dX11_description_71 (by decide), List.forall_mem_cons.mpr ⟨np_s_iadd hX dX11_description_72, List.forall_mem_cons.mpr ⟨np_S.mono (op := np_putf 11 2 (.int)) (np_s_putf hX dX11_description_73 (C := RX11) (T := TX11) (N := 14) (ty0 := tyX11) rfl guX11 tyX11_ok nmX11 (by decide) gw443 rfl rfl) nw_putf_le, List.forall_mem_cons.mpr ⟨np_s_aload_n hX dX11_description_76 rfl, List.forall_mem_cons.mpr ⟨np_S.mono (op := np_getf 11 2) (np_s_getf hX dX11_description_77 (C := RX11) (T := TX11) (N := 14) rfl guX11 (by decide) gw443) nw_getf_le, List.forall_mem_cons.mpr ⟨np_s_iconst hX dX11_description_80 (by decide), List.forall_mem_cons.mpr ⟨np_s_isub hX dX11_description_81, List.forall_mem_cons.mpr ⟨np_S.mono (op := np_ret X.2.2.1) (np_s_ret hX dX11_description_82) (nq_ret_le hR), fun _ h => nomatch h⟩⟩⟩⟩⟩⟩⟩⟩⟩⟩⟩⟩⟩⟩⟩⟩⟩⟩⟩⟩⟩⟩⟩⟩⟩⟩⟩⟩⟩⟩⟩⟩⟩⟩⟩⟩⟩⟩⟩⟩
noncomputable def m_X11_description (S : pw_S) (i0 : Nat) : pw_R (Int32 ⊕ Nat) :=
 if (S 61 i0 2) < 6 then
 (pw_c (np_inb (S 61 i0 2) 6) <|
 pw_b (m_X2_isDescription S 6) fun S2 r5 =>
 if r5 = 0 then
 (some (S2, .inl (-1)))
 else
 (pw_b (m_X2_copyFrom S2 (pw_dn 6 (S 61 i0 2)) 6) fun S7 r10 =>
 pw_b (m_X2_clear S7 6) fun S12 r15 =>
 pw_l (pw_up S12 61 i0 (upd (S12 61 i0) 2 ((S12 61 i0 2) + 1))) fun S17 =>
 some (S17, .inl ((S17 61 i0 2) - 1))))
 else
 (some (S, .inr 2))
def sp_X11_description : np_SpX := fun vs w Q QX => ∃ (q : Nat) (S : pw_S) (i0 : Nat), vs = [.ref (pw_pl 61 i0)] ∧ pw_ok q 61 i0 = true ∧ pw_W q w S ∧ pw_p (m_X11_description S i0) (fun S' rx => ∀ f', pw_W q (w.1, f') S' → match rx with | .inl r => Q (some (.int r)) (w.1, f') | .inr e => QX e (w.1, f'))
set_option maxRecDepth 100000 in
set_option maxHeartbeats 8000000 in
theorem C_X11_description : np_CX yX11_description cX11_description 2 (some .int) 6 131 1 6 sp_X11_description := by
  refine np_ofX (by decide) (by decide) (by decide) ?_
  intro X vs w Q QX hsp hX hmn hRt hTh
  obtain ⟨q, S, i0, rfl, hi0, hW, h⟩ := hsp
  obtain ⟨n, f⟩ := w
  unfold m_X11_description at h
  have hR : ∀ st w ce sl, np_rq (some .int) 1 6 Q st w ce sl → X.2.2.1 st w ce sl := fun _ _ _ _ h => by rw [hRt]; exact h
  have hT : ∀ i w ce sl, np_thq 1 6 QX i w ce sl → X.2.2.2 i w ce sl := fun _ _ _ _ h => by rw [hTh]; exact h
  refine np_soundW (so_X11_description hX hR hT) [] 400 0 _ _ _ _ _ ?_
  conv => whnf
  refine np_rd_i (hW.g hi0) ?_
  conv => whnf
  refine np_rd_i (hW.g hi0) ?_
  conv => whnf
  refine np_rd_i (hW.g rfl) ?_
  conv => whnf
  refine pw_br h (fun _ h => ?_) (fun _ h => ?_)
  · conv => whnf
    refine np_rd_i (hW.g hi0) ?_
    conv => whnf
    refine np_rd_i (hW.g hi0) ?_
    conv => whnf
    refine np_rd_i (hW.g rfl) ?_
    conv => whnf
    refine ⟨rfl, ?_⟩
    conv => whnf
    refine pw_ck h (fun hb1 h => ?_)
    conv => whnf
    refine np_rd_i (hW.g hi0) ?_
    conv => whnf
    refine np_rd_i (hW.g rfl) ?_
    conv => whnf
    refine ⟨q, S, 6, rfl, rfl, hW, pw_bd h (fun S2 r5 h f3 hW4 => ?_)⟩
    conv => whnf
    refine pw_br h (fun _ h => ?_) (fun _ h => ?_)
    · conv => whnf
      exact ⟨Nat.le_of_ble_eq_true rfl, Nat.le_of_ble_eq_true rfl, trivial, pw_ps h _ hW4⟩
    · conv => whnf
      refine np_rd_i (hW4.g (pw_okd (a := 52) (n := 6) rfl rfl rfl)) ?_
      conv => whnf
      refine np_rd_i (hW4.g hi0) ?_
      conv => whnf
      refine np_rd_i (hW4.g (pw_okd (a := 51) (n := 6) rfl rfl rfl)) ?_
      conv => whnf
      refine ⟨q, S2, (pw_dn 6 (S 61 i0 2)), 6, rfl, (pw_okd (a := 51) (n := 6) rfl rfl rfl), rfl, hW4, pw_bd h (fun S7 r10 h f8 hW9 => ?_)⟩
      conv => whnf
      refine np_rd_i (hW9.g hi0) ?_
      conv => whnf
      refine np_rd_i (hW9.g rfl) ?_
      conv => whnf
      refine ⟨q, S7, 6, rfl, rfl, hW9, pw_bd h (fun S12 r15 h f13 hW14 => ?_)⟩
      conv => whnf
      refine np_rd_i (hW14.g hi0) ?_
      conv => whnf
      refine np_rd_i (hW14.g hi0) ?_
      conv => whnf
      refine pw_wr (a := 61) (i := i0) (d := upd (S12 61 i0) 2 ((S12 61 i0 2) + 1)) hW14 hi0 rfl h (fun S17 f18 hW19 h => ?_)
      conv => whnf
      refine np_rd_i (hW19.g hi0) ?_
      conv => whnf
      exact ⟨Nat.le_of_ble_eq_true rfl, Nat.le_of_ble_eq_true rfl, trivial, pw_ps h _ hW19⟩
  · conv => whnf
    exact ⟨Nat.le_of_ble_eq_true rfl, Nat.le_of_ble_eq_true rfl, pw_ps h _ hW⟩
theorem dX11_descriptionOf_0 : decode cX11_descriptionOf 0 = .ok (.iload_n 1, 1) := by decide +kernel
theorem dX11_descriptionOf_1 : decode cX11_descriptionOf 1 = .ok (.ifCond .lt 24, 3) := by decide +kernel
theorem dX11_descriptionOf_4 : decode cX11_descriptionOf 4 = .ok (.iload_n 1, 1) := by decide +kernel
theorem dX11_descriptionOf_5 : decode cX11_descriptionOf 5 = .ok (.aload_n 0, 1) := by decide +kernel
theorem dX11_descriptionOf_6 : decode cX11_descriptionOf 6 = .ok (.getfield 132, 3) := by decide +kernel
theorem dX11_descriptionOf_9 : decode cX11_descriptionOf 9 = .ok (.if_icmp .ge 16, 3) := by decide +kernel
theorem dX11_descriptionOf_12 : decode cX11_descriptionOf 12 = .ok (.iload_n 1, 1) := by decide +kernel
theorem dX11_descriptionOf_13 : decode cX11_descriptionOf 13 = .ok (.aload_n 0, 1) := by decide +kernel
theorem dX11_descriptionOf_14 : decode cX11_descriptionOf 14 = .ok (.getfield 20, 3) := by decide +kernel
theorem dX11_descriptionOf_17 : decode cX11_descriptionOf 17 = .ok (.arraylength, 1) := by decide +kernel
theorem dX11_descriptionOf_18 : decode cX11_descriptionOf 18 = .ok (.if_icmp .ge 7, 3) := by decide +kernel
theorem dX11_descriptionOf_21 : decode cX11_descriptionOf 21 = .ok (.iconst 1, 1) := by decide +kernel
theorem dX11_descriptionOf_22 : decode cX11_descriptionOf 22 = .ok (.goto 4, 3) := by decide +kernel
theorem dX11_descriptionOf_25 : decode cX11_descriptionOf 25 = .ok (.iconst 0, 1) := by decide +kernel
theorem dX11_descriptionOf_26 : decode cX11_descriptionOf 26 = .ok (.istore_n 2, 1) := by decide +kernel
theorem dX11_descriptionOf_27 : decode cX11_descriptionOf 27 = .ok (.iload_n 2, 1) := by decide +kernel
theorem dX11_descriptionOf_28 : decode cX11_descriptionOf 28 = .ok (.ifCond .eq 12, 3) := by decide +kernel
theorem dX11_descriptionOf_31 : decode cX11_descriptionOf 31 = .ok (.aload_n 0, 1) := by decide +kernel
theorem dX11_descriptionOf_32 : decode cX11_descriptionOf 32 = .ok (.getfield 20, 3) := by decide +kernel
theorem dX11_descriptionOf_35 : decode cX11_descriptionOf 35 = .ok (.iload_n 1, 1) := by decide +kernel
theorem dX11_descriptionOf_36 : decode cX11_descriptionOf 36 = .ok (.aaload, 1) := by decide +kernel
theorem dX11_descriptionOf_37 : decode cX11_descriptionOf 37 = .ok (.goto 4, 3) := by decide +kernel
theorem dX11_descriptionOf_40 : decode cX11_descriptionOf 40 = .ok (.aconst_null, 1) := by decide +kernel
theorem dX11_descriptionOf_41 : decode cX11_descriptionOf 41 = .ok (.areturn, 1) := by decide +kernel
def is_X11_descriptionOf (Rt : np_Rt) : List (Nat × np_Op) := [(0, np_ild 1 1), (1, nq_if (fun x => x < 0) 25), (4, np_ild 1 1), (5, np_ald 1 0), (6, nw_getf 11 2), (9, nq_ic (fun x y => y ≤ x) 25), (12, np_ild 1 1), (13, np_ald 1 0), (14, nw_getf 11 1), (17, nw_alen), (18, nq_ic (fun x y => y ≤ x) 25), (21, np_push 1 (.int 1)), (22, np_goto 26), (25, np_push 1 (.int 0)), (26, nw_ist 1 2), (27, np_ild 1 2), (28, nq_if (fun x => x = 0) 40), (31, np_ald 1 0), (32, nw_getf 11 1), (35, np_ild 1 1), (36, nw_aald "NotationPress$Description"), (37, np_goto 41), (40, np_push 1 .null), (41, np_ret Rt)]
set_option maxRecDepth 20000 in
theorem so_X11_descriptionOf {X : np_Ctx} {Rt : np_Rt} (hX : np_ok RX11 cX11_descriptionOf 3 0 0 0 0 .areturn X) (hR : ∀ st w ce sl, Rt st w ce sl → X.2.2.1 st w ce sl) : ∀ q ∈ is_X11_descriptionOf Rt, np_S X q.1 q.2 :=
  List.forall_mem_cons.mpr ⟨np_s_iload_n hX dX11_descriptionOf_0 rfl, List.forall_mem_cons.mpr ⟨np_S.mono (op := np_if (fun x => x < 0) 25) (np_s_if_lt hX dX11_descriptionOf_1 (by decide)) nq_if_le, List.forall_mem_cons.mpr ⟨np_s_iload_n hX dX11_descriptionOf_4 rfl, List.forall_mem_cons.mpr ⟨np_s_aload_n hX dX11_descriptionOf_5 rfl, List.forall_mem_cons.mpr ⟨np_S.mono (op := np_getf 11 2) (np_s_getf hX dX11_descriptionOf_6 (C := RX11) (T := TX11) (N := 14) rfl guX11 (by decide) gw443) nw_getf_le, List.forall_mem_cons.mpr ⟨np_S.mono (op := np_ic (fun x y => y ≤ x) 25) (np_s_icmp_ge hX dX11_descriptionOf_9 (by decide)) nq_ic_le, List.forall_mem_cons.mpr ⟨np_s_iload_n hX dX11_descriptionOf_12 rfl, List.forall_mem_cons.mpr ⟨np_s_aload_n hX dX11_descriptionOf_13 rfl, List.forall_mem_cons.mpr ⟨np_S.mono (op := np_getf 11 1) (np_s_getf hX dX11_descriptionOf_14 (C := RX11) (T := TX11) (N := 14) rfl guX11 (by decide) gw442) nw_getf_le, List.forall_mem_cons.mpr ⟨np_S.mono (op := np_alen) (np_s_alen hX dX11_descriptionOf_17) nw_alen_le, List.forall_mem_cons.mpr ⟨np_S.mono (op := np_ic (fun x y => y ≤ x) 25) (np_s_icmp_ge hX dX11_descriptionOf_18 (by decide)) nq_ic_le, List.forall_mem_cons.mpr ⟨np_s_iconst hX dX11_descriptionOf_21 (by decide), List.forall_mem_cons.mpr ⟨np_s_goto hX dX11_descriptionOf_22 (by decide), List.forall_mem_cons.mpr ⟨np_s_iconst hX dX11_descriptionOf_25 (by decide), List.forall_mem_cons.mpr ⟨np_S.mono (op := np_ist 1 2) (np_s_istore_n hX dX11_descriptionOf_26 rfl (by decide)) nw_ist_le, List.forall_mem_cons.mpr ⟨np_s_iload_n hX dX11_descriptionOf_27 rfl, List.forall_mem_cons.mpr ⟨np_S.mono (op := np_if (fun x => x = 0) 40) (np_s_if_eq hX dX11_descriptionOf_28 (by decide)) nq_if_le, List.forall_mem_cons.mpr ⟨np_s_aload_n hX dX11_descriptionOf_31 rfl, List.forall_mem_cons.mpr ⟨np_S.mono (op := np_getf 11 1) (np_s_getf hX dX11_descriptionOf_32 (C := RX11) (T := TX11) (N := 14) rfl guX11 (by decide) gw442) nw_getf_le, List.forall_mem_cons.mpr ⟨np_s_iload_n hX dX11_descriptionOf_35 rfl, List.forall_mem_cons.mpr ⟨np_S.mono (op := np_aald "NotationPress$Description") (np_s_aald hX dX11_descriptionOf_36) nw_aald_le, List.forall_mem_cons.mpr ⟨np_s_goto hX dX11_descriptionOf_37 (by decide), List.forall_mem_cons.mpr ⟨np_s_null hX dX11_descriptionOf_40, List.forall_mem_cons.mpr ⟨np_S.mono (op := np_ret X.2.2.1) (np_s_ret hX dX11_descriptionOf_41) (nq_ret_le hR), fun _ h => nomatch h⟩⟩⟩⟩⟩⟩⟩⟩⟩⟩⟩⟩⟩⟩⟩⟩⟩⟩⟩⟩⟩⟩⟩⟩
noncomputable def m_X11_descriptionOf (S : pw_S) (i0 : Nat) (x1 : Int32) : pw_R (Option Nat) :=
 if x1 < 0 then
 (pw_l (0 : Int32) fun z1 =>
 if z1 = 0 then
 (some (S, none))
 else
 (pw_c (np_inb x1 6) <|
 some (S, some (pw_dn 6 x1))))
 else
 (if (S 61 i0 2) ≤ x1 then
 (pw_l (0 : Int32) fun z3 =>
 if z3 = 0 then
 (some (S, none))
 else
 (pw_c (np_inb x1 6) <|
 some (S, some (pw_dn 6 x1))))
 else
 (if 6 ≤ x1 then
 (pw_l (0 : Int32) fun z5 =>
 if z5 = 0 then
 (some (S, none))
 else
 (pw_c (np_inb x1 6) <|
 some (S, some (pw_dn 6 x1))))
 else
 (pw_l (1 : Int32) fun z7 =>
 if z7 = 0 then
 (some (S, none))
 else
 (pw_c (np_inb x1 6) <|
 some (S, some (pw_dn 6 x1))))))
def sp_X11_descriptionOf : np_Sp := fun vs w Q => ∃ (q : Nat) (S : pw_S) (i0 : Nat) (x1 : Int32), vs = [.ref (pw_pl 61 i0), .int x1] ∧ pw_ok q 61 i0 = true ∧ pw_W q w S ∧ pw_p (m_X11_descriptionOf S i0 x1) (fun S' r => ∀ f', pw_W q (w.1, f') S' → pw_oo q 52 r = true → Q (some (pw_v 52 r)) (w.1, f'))
set_option maxRecDepth 100000 in
set_option maxHeartbeats 8000000 in
theorem C_X11_descriptionOf : np_C yX11_descriptionOf cX11_descriptionOf 3 (some (.object "NotationPress$Description")) 0 0 0 0 sp_X11_descriptionOf := by
  refine np_of (by decide) ?_
  intro X vs w Q hsp hX hmn hRt hlt
  obtain ⟨q, S, i0, x1, rfl, hi0, hW, h⟩ := hsp
  obtain ⟨n, f⟩ := w
  unfold m_X11_descriptionOf at h
  have hR : ∀ st w ce sl, np_rt (some (.object "NotationPress$Description")) 0 0 Q st w ce sl → X.2.2.1 st w ce sl := fun _ _ _ _ h => by rw [hRt]; exact h
  refine np_soundW (so_X11_descriptionOf hX hR) [] 400 0 _ _ _ _ _ ?_
  conv => whnf
  refine pw_br h (fun _ h => ?_) (fun _ h => ?_)
  · conv => whnf
    refine pw_st h (fun z1 h => ?_)
    conv => whnf
    refine pw_br h (fun _ h => ?_) (fun _ h => ?_)
    · conv => whnf
      exact ⟨Nat.le_of_ble_eq_true rfl, Nat.le_of_ble_eq_true rfl, Or.inl rfl, _, fun _ _ h9 => h9, pw_ps h _ hW rfl⟩
    · conv => whnf
      refine np_rd_i (hW.g hi0) ?_
      conv => whnf
      refine np_rd_i (hW.g rfl) ?_
      conv => whnf
      refine ⟨rfl, ?_⟩
      conv => whnf
      refine pw_ck h (fun hb2 h => ?_)
      conv => whnf
      exact ⟨Nat.le_of_ble_eq_true rfl, Nat.le_of_ble_eq_true rfl, Or.inr ⟨_, rfl⟩, _, fun _ _ h9 => h9, pw_ps h _ hW (pw_okd (a := 52) (n := 6) rfl rfl rfl)⟩
  · conv => whnf
    refine np_rd_i (hW.g hi0) ?_
    conv => whnf
    refine pw_br h (fun _ h => ?_) (fun _ h => ?_)
    · conv => whnf
      refine pw_st h (fun z3 h => ?_)
      conv => whnf
      refine pw_br h (fun _ h => ?_) (fun _ h => ?_)
      · conv => whnf
        exact ⟨Nat.le_of_ble_eq_true rfl, Nat.le_of_ble_eq_true rfl, Or.inl rfl, _, fun _ _ h9 => h9, pw_ps h _ hW rfl⟩
      · conv => whnf
        refine np_rd_i (hW.g hi0) ?_
        conv => whnf
        refine np_rd_i (hW.g rfl) ?_
        conv => whnf
        refine ⟨rfl, ?_⟩
        conv => whnf
        refine pw_ck h (fun hb4 h => ?_)
        conv => whnf
        exact ⟨Nat.le_of_ble_eq_true rfl, Nat.le_of_ble_eq_true rfl, Or.inr ⟨_, rfl⟩, _, fun _ _ h9 => h9, pw_ps h _ hW (pw_okd (a := 52) (n := 6) rfl rfl rfl)⟩
    · conv => whnf
      refine np_rd_i (hW.g hi0) ?_
      conv => whnf
      refine np_rd_i (hW.g rfl) ?_
      conv => whnf
      refine pw_br h (fun _ h => ?_) (fun _ h => ?_)
      · conv => whnf
        refine pw_st h (fun z5 h => ?_)
        conv => whnf
        refine pw_br h (fun _ h => ?_) (fun _ h => ?_)
        · conv => whnf
          exact ⟨Nat.le_of_ble_eq_true rfl, Nat.le_of_ble_eq_true rfl, Or.inl rfl, _, fun _ _ h9 => h9, pw_ps h _ hW rfl⟩
        · conv => whnf
          refine np_rd_i (hW.g hi0) ?_
          conv => whnf
          refine np_rd_i (hW.g rfl) ?_
          conv => whnf
          refine ⟨rfl, ?_⟩
          conv => whnf
          refine pw_ck h (fun hb6 h => ?_)
          conv => whnf
          exact ⟨Nat.le_of_ble_eq_true rfl, Nat.le_of_ble_eq_true rfl, Or.inr ⟨_, rfl⟩, _, fun _ _ h9 => h9, pw_ps h _ hW (pw_okd (a := 52) (n := 6) rfl rfl rfl)⟩
      · conv => whnf
        refine pw_st h (fun z7 h => ?_)
        conv => whnf
        refine pw_br h (fun _ h => ?_) (fun _ h => ?_)
        · conv => whnf
          exact ⟨Nat.le_of_ble_eq_true rfl, Nat.le_of_ble_eq_true rfl, Or.inl rfl, _, fun _ _ h9 => h9, pw_ps h _ hW rfl⟩
        · conv => whnf
          refine np_rd_i (hW.g hi0) ?_
          conv => whnf
          refine np_rd_i (hW.g rfl) ?_
          conv => whnf
          refine ⟨rfl, ?_⟩
          conv => whnf
          refine pw_ck h (fun hb8 h => ?_)
          conv => whnf
          exact ⟨Nat.le_of_ble_eq_true rfl, Nat.le_of_ble_eq_true rfl, Or.inr ⟨_, rfl⟩, _, fun _ _ h9 => h9, pw_ps h _ hW (pw_okd (a := 52) (n := 6) rfl rfl rfl)⟩
theorem dX11_sure_0 : decode cX11_sure 0 = .ok (.aload_n 0, 1) := by decide +kernel
theorem dX11_sure_1 : decode cX11_sure 1 = .ok (.iload_n 1, 1) := by decide +kernel
theorem dX11_sure_2 : decode cX11_sure 2 = .ok (.invokevirtual 147, 3) := by decide +kernel
theorem dX11_sure_5 : decode cX11_sure 5 = .ok (.astore_n 2, 1) := by decide +kernel
theorem dX11_sure_6 : decode cX11_sure 6 = .ok (.aload_n 2, 1) := by decide +kernel
theorem dX11_sure_7 : decode cX11_sure 7 = .ok (.ifnonnull 13, 3) := by decide +kernel
theorem dX11_sure_10 : decode cX11_sure 10 = .ok (.new 96, 3) := by decide +kernel
theorem dX11_sure_13 : decode cX11_sure 13 = .ok (.dup, 1) := by decide +kernel
theorem dX11_sure_14 : decode cX11_sure 14 = .ok (.ldc 151, 2) := by decide +kernel
theorem dX11_sure_16 : decode cX11_sure 16 = .ok (.invokespecial 100, 3) := by decide +kernel
theorem dX11_sure_19 : decode cX11_sure 19 = .ok (.athrow, 1) := by decide +kernel
theorem dX11_sure_20 : decode cX11_sure 20 = .ok (.aload_n 2, 1) := by decide +kernel
theorem dX11_sure_21 : decode cX11_sure 21 = .ok (.getfield 140, 3) := by decide +kernel
theorem dX11_sure_24 : decode cX11_sure 24 = .ok (.invokevirtual 153, 3) := by decide +kernel
theorem dX11_sure_27 : decode cX11_sure 27 = .ok (.ireturn, 1) := by decide +kernel
def is_X11_sure (Rt : np_Rt) (Th : np_Th) : List (Nat × np_Op) := [(0, np_ald 1 0), (1, np_ild 1 1), (2, nw_callV 11 2 sp_X11_descriptionOf 3 0 0 1 6), (5, np_ast 1 2), (6, np_ald 1 2), (7, np_ifnonnull 20), (10, nq_throw Th 0), (20, np_ald 1 2), (21, nw_getf 1 0), (24, nw_callV 2 1 sp_X2_firstUnsure 2 0 0 1 6), (27, np_ret Rt)]
set_option maxRecDepth 20000 in
theorem so_X11_sure {X : np_Ctx} {Rt : np_Rt} {Th : np_Th} (hX : np_ok RX11 cX11_sure 3 6 100 1 6 .ireturn X) (hR : ∀ st w ce sl, Rt st w ce sl → X.2.2.1 st w ce sl) (hT : ∀ i w ce sl, Th i w ce sl → X.2.2.2 i w ce sl) : ∀ q ∈ is_X11_sure Rt Th, np_S X q.1 q.2 :=
  List.forall_mem_cons.mpr ⟨np_s_aload_n hX dX11_sure_0 rfl, List.forall_mem_cons.mpr ⟨np_s_iload_n hX dX11_sure_1 rfl, List.forall_mem_cons.mpr ⟨np_S.mono (op := np_callV 11 2 sp_X11_descriptionOf 3 0 0 1 6) (np_s_callV hX C_X11_descriptionOf dX11_sure_2 (q := (RX11, TX11, 14)) rfl rfl gw699 gw63 gw696 gw698 gw3 ⟨by decide, by decide, by decide⟩ (by decide) (by decide)) nw_callV_le, List.forall_mem_cons.mpr ⟨np_s_astore_n hX dX11_sure_5 rfl (by decide), List.forall_mem_cons.mpr ⟨np_s_aload_n hX dX11_sure_6 rfl, List.forall_mem_cons.mpr ⟨np_s_ifnonnull hX dX11_sure_7 (by decide), List.forall_mem_cons.mpr ⟨np_S.mono (op := np_throw X.2.2.2 0) (np_s_throw hX ⟨96, 151, 100, _, gw516, gw78, sw700, twX11_100, toX11_100_96, Or.inl ⟨dX11_sure_10, dX11_sure_13, dX11_sure_14, dX11_sure_16, dX11_sure_19⟩⟩) (nq_throw_le hT), List.forall_mem_cons.mpr ⟨np_s_aload_n hX dX11_sure_20 rfl, List.forall_mem_cons.mpr ⟨np_S.mono (op := np_getf 1 0) (np_s_getN hX dX11_sure_21 (C := RX1) (T := TX1) (N := 7) rfl guX1 (by decide) gw315) nw_getf_le, List.forall_mem_cons.mpr ⟨np_S.mono (op := np_callV 2 1 sp_X2_firstUnsure 2 0 0 1 6) (np_s_callV hX C_X2_firstUnsure dX11_sure_24 (q := (RX2, TX2, 5)) rfl rfl gw704 gw64 gw701 gw702 gw703 ⟨by decide, by decide, by decide⟩ (by decide) (by decide)) nw_callV_le, List.forall_mem_cons.mpr ⟨np_S.mono (op := np_ret X.2.2.1) (np_s_ret hX dX11_sure_27) (nq_ret_le hR), fun _ h => nomatch h⟩⟩⟩⟩⟩⟩⟩⟩⟩⟩⟩
noncomputable def m_X11_sure (S : pw_S) (i0 : Nat) (x1 : Int32) : pw_R (Int32 ⊕ Nat) :=
 pw_b (m_X11_descriptionOf S i0 x1) fun S1 r4 =>
 pw_o r4 (
 (some (S1, .inr 0))) (fun j6 =>
 (pw_b (m_X2_firstUnsure S1 j6) fun S7 r10 =>
 some (S7, .inl r10)))
def sp_X11_sure : np_SpX := fun vs w Q QX => ∃ (q : Nat) (S : pw_S) (i0 : Nat) (x1 : Int32), vs = [.ref (pw_pl 61 i0), .int x1] ∧ pw_ok q 61 i0 = true ∧ pw_W q w S ∧ pw_p (m_X11_sure S i0 x1) (fun S' rx => ∀ f', pw_W q (w.1, f') S' → match rx with | .inl r => Q (some (.int r)) (w.1, f') | .inr e => QX e (w.1, f'))
set_option maxRecDepth 100000 in
set_option maxHeartbeats 8000000 in
theorem C_X11_sure : np_CX yX11_sure cX11_sure 3 (some .int) 6 100 1 6 sp_X11_sure := by
  refine np_ofX (by decide) (by decide) (by decide) ?_
  intro X vs w Q QX hsp hX hmn hRt hTh
  obtain ⟨q, S, i0, x1, rfl, hi0, hW, h⟩ := hsp
  obtain ⟨n, f⟩ := w
  unfold m_X11_sure at h
  have hR : ∀ st w ce sl, np_rq (some .int) 1 6 Q st w ce sl → X.2.2.1 st w ce sl := fun _ _ _ _ h => by rw [hRt]; exact h
  have hT : ∀ i w ce sl, np_thq 1 6 QX i w ce sl → X.2.2.2 i w ce sl := fun _ _ _ _ h => by rw [hTh]; exact h
  refine np_soundW (so_X11_sure hX hR hT) [] 400 0 _ _ _ _ _ ?_
  conv => whnf
  refine np_rd_i (hW.g hi0) ?_
  conv => whnf
  refine ⟨q, S, i0, x1, rfl, hi0, hW, pw_bd h (fun S1 r4 h f2 hW3 ho5 => ?_)⟩
  rcases r4 with _ | j6
  · replace h := pw_on h
    conv => whnf
    exact ⟨Nat.le_of_ble_eq_true rfl, Nat.le_of_ble_eq_true rfl, pw_ps h _ hW3⟩
  · replace h := pw_os h
    replace ho5 : pw_ok q 52 j6 = true := ho5
    conv => whnf
    refine np_rd_i (hW3.g ho5) ?_
    conv => whnf
    refine np_rd_i (hW3.g (pw_okl (a := 52) (b := 51) rfl rfl rfl ho5)) ?_
    conv => whnf
    refine ⟨q, S1, j6, rfl, (pw_okl (a := 52) (b := 51) rfl rfl rfl ho5), hW3, pw_bd h (fun S7 r10 h f8 hW9 => ?_)⟩
    conv => whnf
    exact ⟨Nat.le_of_ble_eq_true rfl, Nat.le_of_ble_eq_true rfl, trivial, pw_ps h _ hW9⟩
theorem dX11_constrain_0 : decode cX11_constrain 0 = .ok (.aload_n 0, 1) := by decide +kernel
theorem dX11_constrain_1 : decode cX11_constrain 1 = .ok (.iload_n 1, 1) := by decide +kernel
theorem dX11_constrain_2 : decode cX11_constrain 2 = .ok (.invokevirtual 147, 3) := by decide +kernel
theorem dX11_constrain_5 : decode cX11_constrain 5 = .ok (.astore 7, 2) := by decide +kernel
theorem dX11_constrain_7 : decode cX11_constrain 7 = .ok (.aload 7, 2) := by decide +kernel
theorem dX11_constrain_9 : decode cX11_constrain 9 = .ok (.ifnonnull 13, 3) := by decide +kernel
theorem dX11_constrain_12 : decode cX11_constrain 12 = .ok (.new 96, 3) := by decide +kernel
theorem dX11_constrain_15 : decode cX11_constrain 15 = .ok (.dup, 1) := by decide +kernel
theorem dX11_constrain_16 : decode cX11_constrain 16 = .ok (.ldc 151, 2) := by decide +kernel
theorem dX11_constrain_18 : decode cX11_constrain 18 = .ok (.invokespecial 100, 3) := by decide +kernel
theorem dX11_constrain_21 : decode cX11_constrain 21 = .ok (.athrow, 1) := by decide +kernel
theorem dX11_constrain_22 : decode cX11_constrain 22 = .ok (.iload_n 2, 1) := by decide +kernel
theorem dX11_constrain_23 : decode cX11_constrain 23 = .ok (.iload_n 3, 1) := by decide +kernel
theorem dX11_constrain_24 : decode cX11_constrain 24 = .ok (.iload 4, 2) := by decide +kernel
theorem dX11_constrain_26 : decode cX11_constrain 26 = .ok (.iload 5, 2) := by decide +kernel
theorem dX11_constrain_28 : decode cX11_constrain 28 = .ok (.invokestatic 157, 3) := by decide +kernel
theorem dX11_constrain_31 : decode cX11_constrain 31 = .ok (.ifCond .ne 13, 3) := by decide +kernel
theorem dX11_constrain_34 : decode cX11_constrain 34 = .ok (.new 96, 3) := by decide +kernel
theorem dX11_constrain_37 : decode cX11_constrain 37 = .ok (.dup, 1) := by decide +kernel
theorem dX11_constrain_38 : decode cX11_constrain 38 = .ok (.ldc 98, 2) := by decide +kernel
theorem dX11_constrain_40 : decode cX11_constrain 40 = .ok (.invokespecial 100, 3) := by decide +kernel
theorem dX11_constrain_43 : decode cX11_constrain 43 = .ok (.athrow, 1) := by decide +kernel
theorem dX11_constrain_44 : decode cX11_constrain 44 = .ok (.aload 7, 2) := by decide +kernel
theorem dX11_constrain_46 : decode cX11_constrain 46 = .ok (.iload_n 2, 1) := by decide +kernel
theorem dX11_constrain_47 : decode cX11_constrain 47 = .ok (.iload_n 3, 1) := by decide +kernel
theorem dX11_constrain_48 : decode cX11_constrain 48 = .ok (.iload 4, 2) := by decide +kernel
theorem dX11_constrain_50 : decode cX11_constrain 50 = .ok (.iload 5, 2) := by decide +kernel
theorem dX11_constrain_52 : decode cX11_constrain 52 = .ok (.invokevirtual 160, 3) := by decide +kernel
theorem dX11_constrain_55 : decode cX11_constrain 55 = .ok (.ifCond .eq 16, 3) := by decide +kernel
theorem dX11_constrain_58 : decode cX11_constrain 58 = .ok (.iload 6, 2) := by decide +kernel
theorem dX11_constrain_60 : decode cX11_constrain 60 = .ok (.iconst 1, 1) := by decide +kernel
theorem dX11_constrain_61 : decode cX11_constrain 61 = .ok (.if_icmp .lt 10, 3) := by decide +kernel
theorem dX11_constrain_64 : decode cX11_constrain 64 = .ok (.iload 6, 2) := by decide +kernel
theorem dX11_constrain_66 : decode cX11_constrain 66 = .ok (.bipush 99, 2) := by decide +kernel
theorem dX11_constrain_68 : decode cX11_constrain 68 = .ok (.if_icmp .le 13, 3) := by decide +kernel
theorem dX11_constrain_71 : decode cX11_constrain 71 = .ok (.new 107, 3) := by decide +kernel
theorem dX11_constrain_74 : decode cX11_constrain 74 = .ok (.dup, 1) := by decide +kernel
theorem dX11_constrain_75 : decode cX11_constrain 75 = .ok (.ldc 163, 2) := by decide +kernel
theorem dX11_constrain_77 : decode cX11_constrain 77 = .ok (.invokespecial 111, 3) := by decide +kernel
theorem dX11_constrain_80 : decode cX11_constrain 80 = .ok (.athrow, 1) := by decide +kernel
theorem dX11_constrain_81 : decode cX11_constrain 81 = .ok (.aload 7, 2) := by decide +kernel
theorem dX11_constrain_83 : decode cX11_constrain 83 = .ok (.invokevirtual 165, 3) := by decide +kernel
theorem dX11_constrain_86 : decode cX11_constrain 86 = .ok (.ifCond .eq 13, 3) := by decide +kernel
theorem dX11_constrain_89 : decode cX11_constrain 89 = .ok (.new 116, 3) := by decide +kernel
theorem dX11_constrain_92 : decode cX11_constrain 92 = .ok (.dup, 1) := by decide +kernel
theorem dX11_constrain_93 : decode cX11_constrain 93 = .ok (.ldc 166, 2) := by decide +kernel
theorem dX11_constrain_95 : decode cX11_constrain 95 = .ok (.invokespecial 120, 3) := by decide +kernel
theorem dX11_constrain_98 : decode cX11_constrain 98 = .ok (.athrow, 1) := by decide +kernel
theorem dX11_constrain_99 : decode cX11_constrain 99 = .ok (.aload 7, 2) := by decide +kernel
theorem dX11_constrain_101 : decode cX11_constrain 101 = .ok (.iload_n 2, 1) := by decide +kernel
theorem dX11_constrain_102 : decode cX11_constrain 102 = .ok (.iload_n 3, 1) := by decide +kernel
theorem dX11_constrain_103 : decode cX11_constrain 103 = .ok (.iload 4, 2) := by decide +kernel
theorem dX11_constrain_105 : decode cX11_constrain 105 = .ok (.iload 5, 2) := by decide +kernel
theorem dX11_constrain_107 : decode cX11_constrain 107 = .ok (.iload 6, 2) := by decide +kernel
theorem dX11_constrain_109 : decode cX11_constrain 109 = .ok (.invokevirtual 168, 3) := by decide +kernel
theorem dX11_constrain_112 : decode cX11_constrain 112 = .ok (.aload 7, 2) := by decide +kernel
theorem dX11_constrain_114 : decode cX11_constrain 114 = .ok (.getfield 171, 3) := by decide +kernel
theorem dX11_constrain_117 : decode cX11_constrain 117 = .ok (.ireturn, 1) := by decide +kernel
def is_X11_constrain (Rt : np_Rt) (Th : np_Th) : List (Nat × np_Op) := [(0, np_ald 1 0), (1, np_ild 1 1), (2, nw_callV 11 2 sp_X11_descriptionOf 3 0 0 1 6), (5, np_ast 2 7), (7, np_ald 2 7), (9, np_ifnonnull 22), (12, nq_throw Th 0), (22, np_ild 1 2), (23, np_ild 1 3), (24, np_ild 2 4), (26, np_ild 2 5), (28, nq_call 4 sp_X1_tellsSlots 5 0 0 1 6), (31, nq_ifne 44), (34, nq_throw Th 0), (44, np_ald 2 7), (46, np_ild 1 2), (47, np_ild 1 3), (48, np_ild 2 4), (50, np_ild 2 5), (52, nw_callV 1 5 sp_X1_allows 5 0 0 1 6), (55, nq_if (fun x => x = 0) 71), (58, np_ild 2 6), (60, np_push 1 (.int 1)), (61, nq_ic (fun x y => x < y) 71), (64, np_ild 2 6), (66, np_push 2 (.int 99)), (68, nq_ic (fun x y => x ≤ y) 81), (71, nq_throw Th 1), (81, np_ald 2 7), (83, nw_callV 1 1 sp_X1_isFull 1 0 0 1 6), (86, nq_if (fun x => x = 0) 99), (89, nq_throw Th 2), (99, np_ald 2 7), (101, np_ild 1 2), (102, np_ild 1 3), (103, np_ild 2 4), (105, np_ild 2 5), (107, np_ild 2 6), (109, nw_callV 1 6 sp_X1_add 6 0 0 1 6), (112, np_ald 2 7), (114, nw_getf 1 6), (117, np_ret Rt)]
set_option maxRecDepth 20000 in
theorem so_X11_constrain {X : np_Ctx} {Rt : np_Rt} {Th : np_Th} (hX : np_ok RX11 cX11_constrain 8 6 134 1 6 .ireturn X) (hR : ∀ st w ce sl, Rt st w ce sl → X.2.2.1 st w ce sl) (hT : ∀ i w ce sl, Th i w ce sl → X.2.2.2 i w ce sl) : ∀ q ∈ is_X11_constrain Rt Th, np_S X q.1 q.2 :=
  List.forall_mem_cons.mpr ⟨np_s_aload_n hX dX11_constrain_0 rfl, List.forall_mem_cons.mpr ⟨np_s_iload_n hX dX11_constrain_1 rfl, List.forall_mem_cons.mpr ⟨np_S.mono (op := np_callV 11 2 sp_X11_descriptionOf 3 0 0 1 6) (np_s_callV hX C_X11_descriptionOf dX11_constrain_2 (q := (RX11, TX11, 14)) rfl rfl gw699 gw63 gw696 gw698 gw3 ⟨by decide, by decide, by decide⟩ (by decide) (by decide)) nw_callV_le, List.forall_mem_cons.mpr ⟨np_s_astore hX dX11_constrain_5 (by decide), List.forall_mem_cons.mpr ⟨np_s_aload hX dX11_constrain_7, List.forall_mem_cons.mpr ⟨np_s_ifnonnull hX dX11_constrain_9 (by decide), List.forall_mem_cons.mpr ⟨np_S.mono (op := np_throw X.2.2.2 0) (np_s_throw hX ⟨96, 151, 100, _, gw516, gw78, sw700, twX11_100, toX11_100_96, Or.inl ⟨dX11_constrain_12, dX11_constrain_15, dX11_constrain_16, dX11_constrain_18, dX11_constrain_21⟩⟩) (nq_throw_le hT), List.forall_mem_cons.mpr ⟨np_s_iload_n hX dX11_constrain_22 rfl, List.forall_mem_cons.mpr ⟨np_s_iload_n hX dX11_constrain_23 rfl, List.forall_mem_cons.mpr ⟨np_s_iload hX dX11_constrain_24, List.forall_mem_cons.mpr ⟨np_s_iload hX dX11_constrain_26, List.forall_mem_cons.mpr ⟨np_S.mono (op := np_call 4 sp_X1_tellsSlots 5 0 0 1 6) (np_s_callS hX C_X1_tellsSlots dX11_constrain_28 gw1216 gw71 gw1214 gw1215 ⟨by decide, by decide, by decide⟩ (by decide) (by decide)) nq_call_le, List.forall_mem_cons.mpr ⟨np_S.mono (op := np_ifne 44) (np_s_if_ne hX dX11_constrain_31 (by decide)) nq_ifne_le, List.forall_mem_cons.mpr ⟨np_S.mono (op := np_throw X.2.2.2 0) (np_s_throw hX ⟨96, 98, 100, _, gw516, gw78, sw557, twX11_100, toX11_100_96, Or.inl ⟨dX11_constrain_34, dX11_constrain_37, dX11_constrain_38, dX11_constrain_40, dX11_constrain_43⟩⟩) (nq_throw_le hT), List.forall_mem_cons.mpr ⟨np_s_aload hX dX11_constrain_44, List.forall_mem_cons.mpr ⟨np_s_iload_n hX dX11_constrain_46 rfl, List.forall_mem_cons.mpr ⟨np_s_iload_n hX dX11_constrain_47 rfl, List.forall_mem_cons.mpr ⟨np_s_iload hX dX11_constrain_48, List.forall_mem_cons.mpr ⟨np_s_iload hX dX11_constrain_50, List.forall_mem_cons.mpr ⟨np_S.mono (op := np_callV 1 5 sp_X1_allows 5 0 0 1 6) (np_s_callV hX C_X1_allows dX11_constrain_52 (q := (RX1, TX1, 7)) rfl rfl gw1220 gw71 gw1217 gw1218 gw1219 ⟨by decide, by decide, by decide⟩ (by decide) (by decide)) nw_callV_le, List.forall_mem_cons.mpr ⟨np_S.mono (op := np_if (fun x => x = 0) 71) (np_s_if_eq hX dX11_constrain_55 (by decide)) nq_if_le, List.forall_mem_cons.mpr ⟨np_s_iload hX dX11_constrain_58, List.forall_mem_cons.mpr ⟨np_s_iconst hX dX11_constrain_60 (by decide), List.forall_mem_cons.mpr ⟨np_S.mono (op := np_ic (fun x y => x < y) 71) (np_s_icmp_lt hX dX11_constrain_61 (by decide)) nq_ic_le, List.forall_mem_cons.mpr ⟨np_s_iload hX dX11_constrain_64, List.forall_mem_cons.mpr ⟨np_s_bipush hX dX11_constrain_66 (by decide), List.forall_mem_cons.mpr ⟨np_S.mono (op := np_ic (fun x y => x ≤ y) 81) (np_s_icmp_le hX dX11_constrain_68 (by decide)) nq_ic_le, List.forall_mem_cons.mpr ⟨np_S.mono (op := np_throw X.2.2.2 1) (np_s_throw hX ⟨107, 163, 111, _, gw590, gw79, sw1226, twX11_111, toX11_111_107, Or.inl ⟨dX11_constrain_71, dX11_constrain_74, dX11_constrain_75, dX11_constrain_77, dX11_constrain_80⟩⟩) (nq_throw_le hT), List.forall_mem_cons.mpr ⟨np_s_aload hX dX11_constrain_81, List.forall_mem_cons.mpr ⟨np_S.mono (op := np_callV 1 1 sp_X1_isFull 1 0 0 1 6) (np_s_callV hX C_X1_isFull dX11_constrain_83 (q := (RX1, TX1, 7)) rfl rfl gw1230 gw71 gw1227 gw1228 gw1229 ⟨by decide, by decide, by decide⟩ (by decide) (by decide)) nw_callV_le, List.forall_mem_cons.mpr ⟨np_S.mono (op := np_if (fun x => x = 0) 99) (np_s_if_eq hX dX11_constrain_86 (by decide)) nq_if_le, List.forall_mem_cons.mpr ⟨np_S.mono (op := np_throw X.2.2.2 2) (np_s_throw hX ⟨116, 166, 120, _, gw610, gw80, sw1231, twX11_120, toX11_120_116, Or.inl ⟨dX11_constrain_89, dX11_constrain_92, dX11_constrain_93, dX11_constrain_95, dX11_constrain_98⟩⟩) (nq_throw_le hT), List.forall_mem_cons.mpr ⟨np_s_aload hX dX11_constrain_99, List.forall_mem_cons.mpr ⟨np_s_iload_n hX dX11_constrain_101 rfl, List.forall_mem_cons.mpr ⟨np_s_iload_n hX dX11_constrain_102 rfl, List.forall_mem_cons.mpr ⟨np_s_iload hX dX11_constrain_103, List.forall_mem_cons.mpr ⟨np_s_iload hX dX11_constrain_105, List.forall_mem_cons.mpr ⟨np_s_iload hX dX11_constrain_107, List.forall_mem_cons.mpr ⟨np_S.mono (op := np_callV 1 6 sp_X1_add 6 0 0 1 6) (np_s_callV hX C_X1_add dX11_constrain_109 (q := (RX1, TX1, 7)) rfl rfl gw1235 gw71 gw1232 gw1233 gw1234 ⟨by decide, by decide, by decide⟩ (by decide) (by decide)) nw_callV_le, List.forall_mem_cons.mpr ⟨np_s_aload hX dX11_constrain_112, List.forall_mem_cons.mpr ⟨np_S.mono (op := np_getf 1 6) (np_s_getN hX dX11_constrain_114 (C := RX1) (T := TX1) (N := 7) rfl guX1 (by decide) gw322) nw_getf_le, List.forall_mem_cons.mpr ⟨np_S.mono (op := np_ret X.2.2.1) (np_s_ret hX dX11_constrain_117) (nq_ret_le hR), fun _ h => nomatch h⟩⟩⟩⟩⟩⟩⟩⟩⟩⟩⟩⟩⟩⟩⟩⟩⟩⟩⟩⟩⟩⟩⟩⟩⟩⟩⟩⟩⟩⟩⟩⟩⟩⟩⟩⟩⟩⟩⟩⟩⟩⟩
noncomputable def m_X11_constrain (S : pw_S) (i0 : Nat) (x1 : Int32) (x2 : Int32) (x3 : Int32) (x4 : Int32) (x5 : Int32) (x6 : Int32) : pw_R (Int32 ⊕ Nat) :=
 pw_b (m_X11_descriptionOf S i0 x1) fun S1 r4 =>
 pw_o r4 (
 (some (S1, .inr 0))) (fun j6 =>
 (pw_b (m_X1_tellsSlots S1 x2 x3 x4 x5) fun S7 r10 =>
 if r10 = 0 then
 (some (S7, .inr 0))
 else
 (pw_b (m_X1_allows S7 j6 x2 x3 x4 x5) fun S12 r15 =>
 if r15 = 0 then
 (some (S12, .inr 1))
 else
 (if x6 < 1 then
 (some (S12, .inr 1))
 else
 (if x6 ≤ 99 then
 (pw_b (m_X1_isFull S12 j6) fun S17 r20 =>
 if r20 = 0 then
 (pw_b (m_X1_add S17 j6 x2 x3 x4 x5 x6) fun S22 r25 =>
 some (S22, .inl (S22 52 j6 6)))
 else
 (some (S17, .inr 2)))
 else
 (some (S12, .inr 1)))))))
def sp_X11_constrain : np_SpX := fun vs w Q QX => ∃ (q : Nat) (S : pw_S) (i0 : Nat) (x1 : Int32) (x2 : Int32) (x3 : Int32) (x4 : Int32) (x5 : Int32) (x6 : Int32), vs = [.ref (pw_pl 61 i0), .int x1, .int x2, .int x3, .int x4, .int x5, .int x6] ∧ pw_ok q 61 i0 = true ∧ pw_W q w S ∧ pw_p (m_X11_constrain S i0 x1 x2 x3 x4 x5 x6) (fun S' rx => ∀ f', pw_W q (w.1, f') S' → match rx with | .inl r => Q (some (.int r)) (w.1, f') | .inr e => QX e (w.1, f'))
set_option maxRecDepth 100000 in
set_option maxHeartbeats 8000000 in
theorem C_X11_constrain : np_CX yX11_constrain cX11_constrain 8 (some .int) 6 134 1 6 sp_X11_constrain := by
  refine np_ofX (by decide) (by decide) (by decide) ?_
  intro X vs w Q QX hsp hX hmn hRt hTh
  obtain ⟨q, S, i0, x1, x2, x3, x4, x5, x6, rfl, hi0, hW, h⟩ := hsp
  obtain ⟨n, f⟩ := w
  unfold m_X11_constrain at h
  have hR : ∀ st w ce sl, np_rq (some .int) 1 6 Q st w ce sl → X.2.2.1 st w ce sl := fun _ _ _ _ h => by rw [hRt]; exact h
  have hT : ∀ i w ce sl, np_thq 1 6 QX i w ce sl → X.2.2.2 i w ce sl := fun _ _ _ _ h => by rw [hTh]; exact h
  refine np_soundW (so_X11_constrain hX hR hT) [] 400 0 _ _ _ _ _ ?_
  conv => whnf
  refine np_rd_i (hW.g hi0) ?_
  conv => whnf
  refine ⟨q, S, i0, x1, rfl, hi0, hW, pw_bd h (fun S1 r4 h f2 hW3 ho5 => ?_)⟩
  rcases r4 with _ | j6
  · replace h := pw_on h
    conv => whnf
    exact ⟨Nat.le_of_ble_eq_true rfl, Nat.le_of_ble_eq_true rfl, pw_ps h _ hW3⟩
  · replace h := pw_os h
    replace ho5 : pw_ok q 52 j6 = true := ho5
    conv => whnf
    refine ⟨q, S1, x2, x3, x4, x5, rfl, hW3, pw_bd h (fun S7 r10 h f8 hW9 => ?_)⟩
    conv => whnf
    refine pw_br h (fun _ h => ?_) (fun _ h => ?_)
    · conv => whnf
      exact ⟨Nat.le_of_ble_eq_true rfl, Nat.le_of_ble_eq_true rfl, pw_ps h _ hW9⟩
    · conv => whnf
      refine np_rd_i (hW9.g ho5) ?_
      conv => whnf
      refine ⟨q, S7, j6, x2, x3, x4, x5, rfl, ho5, hW9, pw_bd h (fun S12 r15 h f13 hW14 => ?_)⟩
      conv => whnf
      refine pw_br h (fun _ h => ?_) (fun _ h => ?_)
      · conv => whnf
        exact ⟨Nat.le_of_ble_eq_true rfl, Nat.le_of_ble_eq_true rfl, pw_ps h _ hW14⟩
      · conv => whnf
        refine pw_br h (fun _ h => ?_) (fun _ h => ?_)
        · conv => whnf
          exact ⟨Nat.le_of_ble_eq_true rfl, Nat.le_of_ble_eq_true rfl, pw_ps h _ hW14⟩
        · conv => whnf
          refine pw_br h (fun _ h => ?_) (fun _ h => ?_)
          · conv => whnf
            refine np_rd_i (hW14.g ho5) ?_
            conv => whnf
            refine ⟨q, S12, j6, rfl, ho5, hW14, pw_bd h (fun S17 r20 h f18 hW19 => ?_)⟩
            conv => whnf
            refine pw_br h (fun _ h => ?_) (fun _ h => ?_)
            · conv => whnf
              refine np_rd_i (hW19.g ho5) ?_
              conv => whnf
              refine ⟨q, S17, j6, x2, x3, x4, x5, x6, rfl, ho5, hW19, pw_bd h (fun S22 r25 h f23 hW24 => ?_)⟩
              conv => whnf
              refine np_rd_i (hW24.g ho5) ?_
              conv => whnf
              exact ⟨Nat.le_of_ble_eq_true rfl, Nat.le_of_ble_eq_true rfl, trivial, pw_ps h _ hW24⟩
            · conv => whnf
              exact ⟨Nat.le_of_ble_eq_true rfl, Nat.le_of_ble_eq_true rfl, pw_ps h _ hW19⟩
          · conv => whnf
            exact ⟨Nat.le_of_ble_eq_true rfl, Nat.le_of_ble_eq_true rfl, pw_ps h _ hW14⟩
