theorem gw62 : (Jvm.Cond.selects "NotationPressModel" ({ cls := "NotationPressModel", name := "dropsSteps", desc := "()V" } : Jvm.MethodName) ({ cls := "NotationPressModel", name := "dropsSteps", desc := "()V" } : Jvm.MethodName)) ∈ np_gw := np_gwi 62 (by decide +kernel) rfl
theorem gw132 : (Jvm.Cond.initialized "NotationPress$Printer") ∈ np_gw := np_gwi 132 (by decide +kernel) rfl
theorem gw134 : (Jvm.Cond.initialized "NotationPress$Reader") ∈ np_gw := np_gwi 134 (by decide +kernel) rfl
theorem gw136 : (Jvm.Cond.initialized "NotationPress$Sampler") ∈ np_gw := np_gwi 136 (by decide +kernel) rfl
theorem gw137 : (Jvm.Cond.initialized "NotationPress$UpgradeDraft") ∈ np_gw := np_gwi 137 (by decide +kernel) rfl
theorem gw138 : (Jvm.Cond.initialized "NotationPress$Description") ∈ np_gw := np_gwi 138 (by decide +kernel) rfl
theorem gw139 : (Jvm.Cond.initialized "NotationPress$Table") ∈ np_gw := np_gwi 139 (by decide +kernel) rfl
theorem gw140 : (Jvm.Cond.initialized "NotationPress$Column") ∈ np_gw := np_gwi 140 (by decide +kernel) rfl
theorem gw141 : (Jvm.Cond.initialized "NotationPress$Upgrade") ∈ np_gw := np_gwi 141 (by decide +kernel) rfl
theorem gw142 : (Jvm.Cond.initialized "NotationPressModel") ∈ np_gw := np_gwi 142 (by decide +kernel) rfl
theorem gw151 : (Jvm.Cond.classLink "NotationPressLaw" (8 : Nat) "NotationPress") ∈ np_gw := np_gwi 151 (by decide +kernel) rfl
theorem gw152 : (Jvm.Cond.instantiable "NotationPress" (14 : Nat)) ∈ np_gw := np_gwi 152 (by decide +kernel) rfl
theorem gw153 : (Jvm.Cond.methodLink "NotationPressLaw" (123 : Nat) ({ cls := "NotationPress", name := "<init>", desc := "()V" } : Jvm.MethodName)) ∈ np_gw := np_gwi 153 (by decide +kernel) rfl
theorem gw154 : (Jvm.Cond.instanceMethod ({ cls := "NotationPress", name := "<init>", desc := "()V" } : Jvm.MethodName)) ∈ np_gw := np_gwi 154 (by decide +kernel) rfl
theorem gw155 : (Jvm.Cond.code ({ cls := "NotationPress", name := "<init>", desc := "()V" } : Jvm.MethodName) prog_1_method_1_code (2 : Nat) (Option.none : Option Jvm.ClassFile.FieldType)) ∈ np_gw := np_gwi 155 (by decide +kernel) rfl
theorem gw156 : (Jvm.Cond.methodLink "NotationPress" (5 : Nat) ({ cls := "java/lang/Object", name := "<init>", desc := "()V" } : Jvm.MethodName)) ∈ np_gw := np_gwi 156 (by decide +kernel) rfl
theorem gw159 : (Jvm.Cond.classLink "NotationPress" (11 : Nat) "NotationPress$Items") ∈ np_gw := np_gwi 159 (by decide +kernel) rfl
theorem gw161 : (Jvm.Cond.methodLinkNest "NotationPress" (13 : Nat) ({ cls := "NotationPress$Items", name := "<init>", desc := "()V" } : Jvm.MethodName) "NotationPress") ∈ np_nw := np_nwi 161 (by decide +kernel) rfl
theorem gw184 : (Jvm.Cond.classLink "NotationPress" (18 : Nat) "NotationPress$Description") ∈ np_gw := np_gwi 184 (by decide +kernel) rfl
theorem gw186 : (Jvm.Cond.methodLink "NotationPress" (24 : Nat) ({ cls := "NotationPress", name := "emptyCells", desc := "()[I" } : Jvm.MethodName)) ∈ np_gw := np_gwi 186 (by decide +kernel) rfl
theorem gw193 : (Jvm.Cond.classLink "NotationPress" (32 : Nat) "NotationPress$Text") ∈ np_gw := np_gwi 193 (by decide +kernel) rfl
theorem gw195 : (Jvm.Cond.classLink "NotationPress" (38 : Nat) "NotationPress$Table") ∈ np_gw := np_gwi 195 (by decide +kernel) rfl
theorem gw197 : (Jvm.Cond.classLink "NotationPress" (44 : Nat) "NotationPress$Printer") ∈ np_gw := np_gwi 197 (by decide +kernel) rfl
theorem gw198 : (Jvm.Cond.instantiable "NotationPress$Printer" (3 : Nat)) ∈ np_gw := np_gwi 198 (by decide +kernel) rfl
theorem gw199 : (Jvm.Cond.methodLinkNest "NotationPress" (46 : Nat) ({ cls := "NotationPress$Printer", name := "<init>", desc := "()V" } : Jvm.MethodName) "NotationPress") ∈ np_nw := np_nwi 199 (by decide +kernel) rfl
theorem gw200 : (Jvm.Cond.instanceMethod ({ cls := "NotationPress$Printer", name := "<init>", desc := "()V" } : Jvm.MethodName)) ∈ np_gw := np_gwi 200 (by decide +kernel) rfl
theorem gw201 : (Jvm.Cond.code ({ cls := "NotationPress$Printer", name := "<init>", desc := "()V" } : Jvm.MethodName) prog_5_method_1_code (1 : Nat) (Option.none : Option Jvm.ClassFile.FieldType)) ∈ np_gw := np_gwi 201 (by decide +kernel) rfl
theorem gw257 : (Jvm.Cond.classLink "NotationPress" (51 : Nat) "NotationPress$Reader") ∈ np_gw := np_gwi 257 (by decide +kernel) rfl
theorem gw258 : (Jvm.Cond.instantiable "NotationPress$Reader" (11 : Nat)) ∈ np_gw := np_gwi 258 (by decide +kernel) rfl
theorem gw259 : (Jvm.Cond.methodLink "NotationPress" (53 : Nat) ({ cls := "NotationPress$Reader", name := "<init>", desc := "()V" } : Jvm.MethodName)) ∈ np_gw := np_gwi 259 (by decide +kernel) rfl
theorem gw260 : (Jvm.Cond.instanceMethod ({ cls := "NotationPress$Reader", name := "<init>", desc := "()V" } : Jvm.MethodName)) ∈ np_gw := np_gwi 260 (by decide +kernel) rfl
theorem gw261 : (Jvm.Cond.code ({ cls := "NotationPress$Reader", name := "<init>", desc := "()V" } : Jvm.MethodName) prog_6_method_1_code (2 : Nat) (Option.none : Option Jvm.ClassFile.FieldType)) ∈ np_gw := np_gwi 261 (by decide +kernel) rfl
theorem gw323 : (Jvm.Cond.classLink "NotationPress" (58 : Nat) "NotationPress$Sampler") ∈ np_gw := np_gwi 323 (by decide +kernel) rfl
theorem gw324 : (Jvm.Cond.instantiable "NotationPress$Sampler" (5 : Nat)) ∈ np_gw := np_gwi 324 (by decide +kernel) rfl
theorem gw325 : (Jvm.Cond.methodLink "NotationPress" (60 : Nat) ({ cls := "NotationPress$Sampler", name := "<init>", desc := "()V" } : Jvm.MethodName)) ∈ np_gw := np_gwi 325 (by decide +kernel) rfl
theorem gw326 : (Jvm.Cond.instanceMethod ({ cls := "NotationPress$Sampler", name := "<init>", desc := "()V" } : Jvm.MethodName)) ∈ np_gw := np_gwi 326 (by decide +kernel) rfl
theorem gw327 : (Jvm.Cond.code ({ cls := "NotationPress$Sampler", name := "<init>", desc := "()V" } : Jvm.MethodName) prog_7_method_1_code (2 : Nat) (Option.none : Option Jvm.ClassFile.FieldType)) ∈ np_gw := np_gwi 327 (by decide +kernel) rfl
theorem gw347 : (Jvm.Cond.classLink "NotationPress" (65 : Nat) "NotationPress$Column") ∈ np_gw := np_gwi 347 (by decide +kernel) rfl
theorem gw349 : (Jvm.Cond.classLink "NotationPress" (71 : Nat) "NotationPress$UpgradeDraft") ∈ np_gw := np_gwi 349 (by decide +kernel) rfl
theorem gw350 : (Jvm.Cond.instantiable "NotationPress$UpgradeDraft" (3 : Nat)) ∈ np_gw := np_gwi 350 (by decide +kernel) rfl
theorem gw351 : (Jvm.Cond.methodLink "NotationPress" (73 : Nat) ({ cls := "NotationPress$UpgradeDraft", name := "<init>", desc := "()V" } : Jvm.MethodName)) ∈ np_gw := np_gwi 351 (by decide +kernel) rfl
theorem gw352 : (Jvm.Cond.instanceMethod ({ cls := "NotationPress$UpgradeDraft", name := "<init>", desc := "()V" } : Jvm.MethodName)) ∈ np_gw := np_gwi 352 (by decide +kernel) rfl
theorem gw353 : (Jvm.Cond.code ({ cls := "NotationPress$UpgradeDraft", name := "<init>", desc := "()V" } : Jvm.MethodName) prog_12_method_1_code (1 : Nat) (Option.none : Option Jvm.ClassFile.FieldType)) ∈ np_gw := np_gwi 353 (by decide +kernel) rfl
theorem gw369 : (Jvm.Cond.classLink "NotationPress" (78 : Nat) "NotationPress$Upgrade") ∈ np_gw := np_gwi 369 (by decide +kernel) rfl
theorem gw371 : (Jvm.Cond.instantiable "NotationPress$Description" (7 : Nat)) ∈ np_gw := np_gwi 371 (by decide +kernel) rfl
theorem gw372 : (Jvm.Cond.methodLinkNest "NotationPress" (84 : Nat) ({ cls := "NotationPress$Description", name := "<init>", desc := "()V" } : Jvm.MethodName) "NotationPress") ∈ np_nw := np_nwi 372 (by decide +kernel) rfl
theorem gw373 : (Jvm.Cond.instanceMethod ({ cls := "NotationPress$Description", name := "<init>", desc := "()V" } : Jvm.MethodName)) ∈ np_gw := np_gwi 373 (by decide +kernel) rfl
theorem gw374 : (Jvm.Cond.code ({ cls := "NotationPress$Description", name := "<init>", desc := "()V" } : Jvm.MethodName) prog_3_method_1_code (1 : Nat) (Option.none : Option Jvm.ClassFile.FieldType)) ∈ np_gw := np_gwi 374 (by decide +kernel) rfl
theorem gw403 : (Jvm.Cond.methodLinkNest "NotationPress" (85 : Nat) ({ cls := "NotationPress$Text", name := "<init>", desc := "()V" } : Jvm.MethodName) "NotationPress") ∈ np_nw := np_nwi 403 (by decide +kernel) rfl
theorem gw404 : (Jvm.Cond.instantiable "NotationPress$Table" (12 : Nat)) ∈ np_gw := np_gwi 404 (by decide +kernel) rfl
theorem gw405 : (Jvm.Cond.methodLink "NotationPress" (86 : Nat) ({ cls := "NotationPress$Table", name := "<init>", desc := "()V" } : Jvm.MethodName)) ∈ np_gw := np_gwi 405 (by decide +kernel) rfl
theorem gw406 : (Jvm.Cond.instanceMethod ({ cls := "NotationPress$Table", name := "<init>", desc := "()V" } : Jvm.MethodName)) ∈ np_gw := np_gwi 406 (by decide +kernel) rfl
theorem gw407 : (Jvm.Cond.code ({ cls := "NotationPress$Table", name := "<init>", desc := "()V" } : Jvm.MethodName) prog_8_method_1_code (1 : Nat) (Option.none : Option Jvm.ClassFile.FieldType)) ∈ np_gw := np_gwi 407 (by decide +kernel) rfl
theorem gw454 : (Jvm.Cond.instantiable "NotationPress$Column" (6 : Nat)) ∈ np_gw := np_gwi 454 (by decide +kernel) rfl
theorem gw455 : (Jvm.Cond.methodLinkNest "NotationPress" (87 : Nat) ({ cls := "NotationPress$Column", name := "<init>", desc := "()V" } : Jvm.MethodName) "NotationPress") ∈ np_nw := np_nwi 455 (by decide +kernel) rfl
theorem gw456 : (Jvm.Cond.instanceMethod ({ cls := "NotationPress$Column", name := "<init>", desc := "()V" } : Jvm.MethodName)) ∈ np_gw := np_gwi 456 (by decide +kernel) rfl
theorem gw457 : (Jvm.Cond.code ({ cls := "NotationPress$Column", name := "<init>", desc := "()V" } : Jvm.MethodName) prog_2_method_1_code (1 : Nat) (Option.none : Option Jvm.ClassFile.FieldType)) ∈ np_gw := np_gwi 457 (by decide +kernel) rfl
theorem gw478 : (Jvm.Cond.instantiable "NotationPress$Upgrade" (7 : Nat)) ∈ np_gw := np_gwi 478 (by decide +kernel) rfl
theorem gw479 : (Jvm.Cond.methodLinkNest "NotationPress" (88 : Nat) ({ cls := "NotationPress$Upgrade", name := "<init>", desc := "()V" } : Jvm.MethodName) "NotationPress") ∈ np_nw := np_nwi 479 (by decide +kernel) rfl
theorem gw480 : (Jvm.Cond.instanceMethod ({ cls := "NotationPress$Upgrade", name := "<init>", desc := "()V" } : Jvm.MethodName)) ∈ np_gw := np_gwi 480 (by decide +kernel) rfl
theorem gw481 : (Jvm.Cond.code ({ cls := "NotationPress$Upgrade", name := "<init>", desc := "()V" } : Jvm.MethodName) prog_11_method_1_code (1 : Nat) (Option.none : Option Jvm.ClassFile.FieldType)) ∈ np_gw := np_gwi 481 (by decide +kernel) rfl
theorem gw506 : (Jvm.Cond.fieldLink "NotationPress" (14 : Nat) "NotationPress" "draft" "LNotationPress$Items;") ∈ np_gw := np_gwi 506 (by decide +kernel) rfl
theorem gw507 : (Jvm.Cond.fieldLink "NotationPress" (20 : Nat) "NotationPress" "descriptions" "[LNotationPress$Description;") ∈ np_gw := np_gwi 507 (by decide +kernel) rfl
theorem gw509 : (Jvm.Cond.fieldLink "NotationPress" (28 : Nat) "NotationPress" "record" "[I") ∈ np_gw := np_gwi 509 (by decide +kernel) rfl
theorem gw510 : (Jvm.Cond.fieldLink "NotationPress" (34 : Nat) "NotationPress" "files" "[LNotationPress$Text;") ∈ np_gw := np_gwi 510 (by decide +kernel) rfl
theorem gw511 : (Jvm.Cond.fieldLink "NotationPress" (40 : Nat) "NotationPress" "tables" "[LNotationPress$Table;") ∈ np_gw := np_gwi 511 (by decide +kernel) rfl
theorem gw512 : (Jvm.Cond.fieldLink "NotationPress" (47 : Nat) "NotationPress" "printer" "LNotationPress$Printer;") ∈ np_gw := np_gwi 512 (by decide +kernel) rfl
theorem gw513 : (Jvm.Cond.fieldLink "NotationPress" (54 : Nat) "NotationPress" "reader" "LNotationPress$Reader;") ∈ np_gw := np_gwi 513 (by decide +kernel) rfl
theorem gw514 : (Jvm.Cond.fieldLink "NotationPress" (61 : Nat) "NotationPress" "sampler" "LNotationPress$Sampler;") ∈ np_gw := np_gwi 514 (by decide +kernel) rfl
theorem gw515 : (Jvm.Cond.fieldLink "NotationPress" (67 : Nat) "NotationPress" "columns" "[LNotationPress$Column;") ∈ np_gw := np_gwi 515 (by decide +kernel) rfl
theorem gw517 : (Jvm.Cond.fieldLink "NotationPress" (74 : Nat) "NotationPress" "upgradeDraft" "LNotationPress$UpgradeDraft;") ∈ np_gw := np_gwi 517 (by decide +kernel) rfl
theorem gw518 : (Jvm.Cond.fieldLink "NotationPress" (80 : Nat) "NotationPress" "upgrades" "[LNotationPress$Upgrade;") ∈ np_gw := np_gwi 518 (by decide +kernel) rfl
theorem gw520 : (Jvm.Cond.laysFinal "NotationPress" "NotationPress" "draft" "LNotationPress$Items;") ∈ np_gw := np_gwi 520 (by decide +kernel) rfl
theorem gw522 : (Jvm.Cond.laysFinal "NotationPress" "NotationPress" "descriptions" "[LNotationPress$Description;") ∈ np_gw := np_gwi 522 (by decide +kernel) rfl
theorem gw524 : (Jvm.Cond.lays "NotationPress" "NotationPress" "descriptionCount" "I") ∈ np_gw := np_gwi 524 (by decide +kernel) rfl
theorem gw526 : (Jvm.Cond.laysFinal "NotationPress" "NotationPress" "record" "[I") ∈ np_gw := np_gwi 526 (by decide +kernel) rfl
theorem gw528 : (Jvm.Cond.laysFinal "NotationPress" "NotationPress" "files" "[LNotationPress$Text;") ∈ np_gw := np_gwi 528 (by decide +kernel) rfl
theorem gw530 : (Jvm.Cond.laysFinal "NotationPress" "NotationPress" "tables" "[LNotationPress$Table;") ∈ np_gw := np_gwi 530 (by decide +kernel) rfl
theorem gw532 : (Jvm.Cond.laysFinal "NotationPress" "NotationPress" "printer" "LNotationPress$Printer;") ∈ np_gw := np_gwi 532 (by decide +kernel) rfl
theorem gw534 : (Jvm.Cond.laysFinal "NotationPress" "NotationPress" "reader" "LNotationPress$Reader;") ∈ np_gw := np_gwi 534 (by decide +kernel) rfl
theorem gw536 : (Jvm.Cond.laysFinal "NotationPress" "NotationPress" "sampler" "LNotationPress$Sampler;") ∈ np_gw := np_gwi 536 (by decide +kernel) rfl
theorem gw538 : (Jvm.Cond.laysFinal "NotationPress" "NotationPress" "columns" "[LNotationPress$Column;") ∈ np_gw := np_gwi 538 (by decide +kernel) rfl
theorem gw540 : (Jvm.Cond.lays "NotationPress" "NotationPress" "columnCount" "I") ∈ np_gw := np_gwi 540 (by decide +kernel) rfl
theorem gw542 : (Jvm.Cond.laysFinal "NotationPress" "NotationPress" "upgradeDraft" "LNotationPress$UpgradeDraft;") ∈ np_gw := np_gwi 542 (by decide +kernel) rfl
theorem gw544 : (Jvm.Cond.laysFinal "NotationPress" "NotationPress" "upgrades" "[LNotationPress$Upgrade;") ∈ np_gw := np_gwi 544 (by decide +kernel) rfl
theorem gw546 : (Jvm.Cond.lays "NotationPress" "NotationPress" "upgradeCount" "I") ∈ np_gw := np_gwi 546 (by decide +kernel) rfl
theorem gw1626 : (Jvm.Cond.classLink "NotationPressLaw" (124 : Nat) "NotationPressModel") ∈ np_gw := np_gwi 1626 (by decide +kernel) rfl
theorem gw1627 : (Jvm.Cond.instantiable "NotationPressModel" (77 : Nat)) ∈ np_gw := np_gwi 1627 (by decide +kernel) rfl
theorem gw1628 : (Jvm.Cond.methodLink "NotationPressLaw" (126 : Nat) ({ cls := "NotationPressModel", name := "<init>", desc := "()V" } : Jvm.MethodName)) ∈ np_gw := np_gwi 1628 (by decide +kernel) rfl
theorem gw1629 : (Jvm.Cond.instanceMethod ({ cls := "NotationPressModel", name := "<init>", desc := "()V" } : Jvm.MethodName)) ∈ np_gw := np_gwi 1629 (by decide +kernel) rfl
theorem gw1630 : (Jvm.Cond.code ({ cls := "NotationPressModel", name := "<init>", desc := "()V" } : Jvm.MethodName) prog_14_method_1_code (1 : Nat) (Option.none : Option Jvm.ClassFile.FieldType)) ∈ np_gw := np_gwi 1630 (by decide +kernel) rfl
theorem gw1631 : (Jvm.Cond.methodLink "NotationPressModel" (1 : Nat) ({ cls := "java/lang/Object", name := "<init>", desc := "()V" } : Jvm.MethodName)) ∈ np_gw := np_gwi 1631 (by decide +kernel) rfl
theorem gw1632 : (Jvm.Cond.methodLink "NotationPressModel" (177 : Nat) ({ cls := "NotationPressModel", name := "dropsSteps", desc := "()V" } : Jvm.MethodName)) ∈ np_gw := np_gwi 1632 (by decide +kernel) rfl
theorem gw1634 : (Jvm.Cond.instanceMethod ({ cls := "NotationPressModel", name := "dropsSteps", desc := "()V" } : Jvm.MethodName)) ∈ np_gw := np_gwi 1634 (by decide +kernel) rfl
theorem gw1635 : (Jvm.Cond.code ({ cls := "NotationPressModel", name := "dropsSteps", desc := "()V" } : Jvm.MethodName) prog_14_method_92_code (2 : Nat) (Option.none : Option Jvm.ClassFile.FieldType)) ∈ np_gw := np_gwi 1635 (by decide +kernel) rfl
theorem gw1637 : (Jvm.Cond.fieldLink "NotationPressModel" (7 : Nat) "NotationPressModel" "draftKind" "[I") ∈ np_gw := np_gwi 1637 (by decide +kernel) rfl
theorem gw1638 : (Jvm.Cond.fieldLink "NotationPressModel" (13 : Nat) "NotationPressModel" "draftA" "[I") ∈ np_gw := np_gwi 1638 (by decide +kernel) rfl
theorem gw1639 : (Jvm.Cond.fieldLink "NotationPressModel" (16 : Nat) "NotationPressModel" "draftB" "[I") ∈ np_gw := np_gwi 1639 (by decide +kernel) rfl
theorem gw1640 : (Jvm.Cond.fieldLink "NotationPressModel" (19 : Nat) "NotationPressModel" "draftC" "[I") ∈ np_gw := np_gwi 1640 (by decide +kernel) rfl
theorem gw1642 : (Jvm.Cond.fieldLink "NotationPressModel" (22 : Nat) "NotationPressModel" "many" "[I") ∈ np_gw := np_gwi 1642 (by decide +kernel) rfl
theorem gw1643 : (Jvm.Cond.fieldLink "NotationPressModel" (25 : Nat) "NotationPressModel" "kind" "[I") ∈ np_gw := np_gwi 1643 (by decide +kernel) rfl
theorem gw1644 : (Jvm.Cond.fieldLink "NotationPressModel" (28 : Nat) "NotationPressModel" "a" "[I") ∈ np_gw := np_gwi 1644 (by decide +kernel) rfl
theorem gw1645 : (Jvm.Cond.fieldLink "NotationPressModel" (31 : Nat) "NotationPressModel" "b" "[I") ∈ np_gw := np_gwi 1645 (by decide +kernel) rfl
theorem gw1646 : (Jvm.Cond.fieldLink "NotationPressModel" (34 : Nat) "NotationPressModel" "c" "[I") ∈ np_gw := np_gwi 1646 (by decide +kernel) rfl
theorem gw1647 : (Jvm.Cond.fieldLink "NotationPressModel" (37 : Nat) "NotationPressModel" "loopOf" "[I") ∈ np_gw := np_gwi 1647 (by decide +kernel) rfl
theorem gw1648 : (Jvm.Cond.fieldLink "NotationPressModel" (40 : Nat) "NotationPressModel" "constraints" "[I") ∈ np_gw := np_gwi 1648 (by decide +kernel) rfl
theorem gw1649 : (Jvm.Cond.fieldLink "NotationPressModel" (43 : Nat) "NotationPressModel" "ruleKind" "[I") ∈ np_gw := np_gwi 1649 (by decide +kernel) rfl
theorem gw1650 : (Jvm.Cond.fieldLink "NotationPressModel" (46 : Nat) "NotationPressModel" "ruleA" "[I") ∈ np_gw := np_gwi 1650 (by decide +kernel) rfl
theorem gw1651 : (Jvm.Cond.fieldLink "NotationPressModel" (49 : Nat) "NotationPressModel" "ruleB" "[I") ∈ np_gw := np_gwi 1651 (by decide +kernel) rfl
theorem gw1652 : (Jvm.Cond.fieldLink "NotationPressModel" (52 : Nat) "NotationPressModel" "ruleC" "[I") ∈ np_gw := np_gwi 1652 (by decide +kernel) rfl
theorem gw1653 : (Jvm.Cond.fieldLink "NotationPressModel" (55 : Nat) "NotationPressModel" "ruleMessage" "[I") ∈ np_gw := np_gwi 1653 (by decide +kernel) rfl
theorem gw1654 : (Jvm.Cond.fieldLink "NotationPressModel" (58 : Nat) "NotationPressModel" "record" "[I") ∈ np_gw := np_gwi 1654 (by decide +kernel) rfl
theorem gw1656 : (Jvm.Cond.fieldLink "NotationPressModel" (61 : Nat) "NotationPressModel" "text" "[I") ∈ np_gw := np_gwi 1656 (by decide +kernel) rfl
theorem gw1657 : (Jvm.Cond.fieldLink "NotationPressModel" (64 : Nat) "NotationPressModel" "units" "[I") ∈ np_gw := np_gwi 1657 (by decide +kernel) rfl
theorem gw1658 : (Jvm.Cond.fieldLink "NotationPressModel" (67 : Nat) "NotationPressModel" "isClosed" "[Z") ∈ np_gw := np_gwi 1658 (by decide +kernel) rfl
theorem gw1659 : (Jvm.Cond.fieldLink "NotationPressModel" (71 : Nat) "NotationPressModel" "streamOf" "[I") ∈ np_gw := np_gwi 1659 (by decide +kernel) rfl
theorem gw1660 : (Jvm.Cond.fieldLink "NotationPressModel" (74 : Nat) "NotationPressModel" "place" "[I") ∈ np_gw := np_gwi 1660 (by decide +kernel) rfl
theorem gw1661 : (Jvm.Cond.fieldLink "NotationPressModel" (77 : Nat) "NotationPressModel" "rows" "[I") ∈ np_gw := np_gwi 1661 (by decide +kernel) rfl
theorem gw1662 : (Jvm.Cond.fieldLink "NotationPressModel" (80 : Nat) "NotationPressModel" "doubts" "[I") ∈ np_gw := np_gwi 1662 (by decide +kernel) rfl
theorem gw1663 : (Jvm.Cond.fieldLink "NotationPressModel" (83 : Nat) "NotationPressModel" "table" "[I") ∈ np_gw := np_gwi 1663 (by decide +kernel) rfl
theorem gw1664 : (Jvm.Cond.fieldLink "NotationPressModel" (86 : Nat) "NotationPressModel" "rowHas" "[I") ∈ np_gw := np_gwi 1664 (by decide +kernel) rfl
theorem gw1665 : (Jvm.Cond.fieldLink "NotationPressModel" (89 : Nat) "NotationPressModel" "entries" "[I") ∈ np_gw := np_gwi 1665 (by decide +kernel) rfl
theorem gw1666 : (Jvm.Cond.fieldLink "NotationPressModel" (92 : Nat) "NotationPressModel" "why" "[I") ∈ np_gw := np_gwi 1666 (by decide +kernel) rfl
theorem gw1667 : (Jvm.Cond.fieldLink "NotationPressModel" (95 : Nat) "NotationPressModel" "from" "[I") ∈ np_gw := np_gwi 1667 (by decide +kernel) rfl
theorem gw1668 : (Jvm.Cond.fieldLink "NotationPressModel" (98 : Nat) "NotationPressModel" "behind" "[I") ∈ np_gw := np_gwi 1668 (by decide +kernel) rfl
theorem gw1670 : (Jvm.Cond.fieldLink "NotationPressModel" (101 : Nat) "NotationPressModel" "columnFile" "[I") ∈ np_gw := np_gwi 1670 (by decide +kernel) rfl
theorem gw1671 : (Jvm.Cond.fieldLink "NotationPressModel" (104 : Nat) "NotationPressModel" "columnKind" "[I") ∈ np_gw := np_gwi 1671 (by decide +kernel) rfl
theorem gw1672 : (Jvm.Cond.fieldLink "NotationPressModel" (107 : Nat) "NotationPressModel" "columnSlot" "[I") ∈ np_gw := np_gwi 1672 (by decide +kernel) rfl
theorem gw1673 : (Jvm.Cond.fieldLink "NotationPressModel" (110 : Nat) "NotationPressModel" "columnWindow" "[I") ∈ np_gw := np_gwi 1673 (by decide +kernel) rfl
theorem gw1674 : (Jvm.Cond.fieldLink "NotationPressModel" (113 : Nat) "NotationPressModel" "stepKind" "[I") ∈ np_gw := np_gwi 1674 (by decide +kernel) rfl
theorem gw1675 : (Jvm.Cond.fieldLink "NotationPressModel" (116 : Nat) "NotationPressModel" "stepA" "[I") ∈ np_gw := np_gwi 1675 (by decide +kernel) rfl
theorem gw1676 : (Jvm.Cond.fieldLink "NotationPressModel" (119 : Nat) "NotationPressModel" "stepB" "[I") ∈ np_gw := np_gwi 1676 (by decide +kernel) rfl
theorem gw1678 : (Jvm.Cond.fieldLink "NotationPressModel" (122 : Nat) "NotationPressModel" "partKind" "[I") ∈ np_gw := np_gwi 1678 (by decide +kernel) rfl
theorem gw1679 : (Jvm.Cond.fieldLink "NotationPressModel" (125 : Nat) "NotationPressModel" "partNumber" "[I") ∈ np_gw := np_gwi 1679 (by decide +kernel) rfl
theorem gw1680 : (Jvm.Cond.fieldLink "NotationPressModel" (128 : Nat) "NotationPressModel" "codeFrom" "[I") ∈ np_gw := np_gwi 1680 (by decide +kernel) rfl
theorem gw1681 : (Jvm.Cond.fieldLink "NotationPressModel" (131 : Nat) "NotationPressModel" "codeLength" "[I") ∈ np_gw := np_gwi 1681 (by decide +kernel) rfl
theorem gw1683 : (Jvm.Cond.fieldLink "NotationPressModel" (134 : Nat) "NotationPressModel" "joinedBy" "[I") ∈ np_gw := np_gwi 1683 (by decide +kernel) rfl
theorem gw1684 : (Jvm.Cond.fieldLink "NotationPressModel" (137 : Nat) "NotationPressModel" "joinedAs" "[I") ∈ np_gw := np_gwi 1684 (by decide +kernel) rfl
theorem gw1685 : (Jvm.Cond.fieldLink "NotationPressModel" (140 : Nat) "NotationPressModel" "stack" "[J") ∈ np_gw := np_gwi 1685 (by decide +kernel) rfl
theorem gw1686 : (Jvm.Cond.fieldLink "NotationPressModel" (144 : Nat) "NotationPressModel" "waiting" "[I") ∈ np_gw := np_gwi 1686 (by decide +kernel) rfl
theorem gw1687 : (Jvm.Cond.fieldLink "NotationPressModel" (147 : Nat) "NotationPressModel" "value" "[I") ∈ np_gw := np_gwi 1687 (by decide +kernel) rfl
theorem gw1697 : (Jvm.Cond.fieldLink "NotationPressModel" (150 : Nat) "NotationPressModel" "itemAt" "[I") ∈ np_gw := np_gwi 1697 (by decide +kernel) rfl
theorem gw1698 : (Jvm.Cond.fieldLink "NotationPressModel" (153 : Nat) "NotationPressModel" "roundAt" "[I") ∈ np_gw := np_gwi 1698 (by decide +kernel) rfl
theorem gw1699 : (Jvm.Cond.fieldLink "NotationPressModel" (156 : Nat) "NotationPressModel" "placeAt" "[I") ∈ np_gw := np_gwi 1699 (by decide +kernel) rfl
theorem gw1700 : (Jvm.Cond.fieldLink "NotationPressModel" (159 : Nat) "NotationPressModel" "choiceAt" "[I") ∈ np_gw := np_gwi 1700 (by decide +kernel) rfl
theorem gw1701 : (Jvm.Cond.fieldLink "NotationPressModel" (162 : Nat) "NotationPressModel" "manyAt" "[I") ∈ np_gw := np_gwi 1701 (by decide +kernel) rfl
theorem gw1703 : (Jvm.Cond.fieldLink "NotationPressModel" (165 : Nat) "NotationPressModel" "source" "[I") ∈ np_gw := np_gwi 1703 (by decide +kernel) rfl
theorem gw1705 : (Jvm.Cond.fieldLink "NotationPressModel" (168 : Nat) "NotationPressModel" "out" "[I") ∈ np_gw := np_gwi 1705 (by decide +kernel) rfl
theorem gw1708 : (Jvm.Cond.fieldLink "NotationPressModel" (171 : Nat) "NotationPressModel" "printedAt" "[I") ∈ np_gw := np_gwi 1708 (by decide +kernel) rfl
theorem gw1709 : (Jvm.Cond.fieldLink "NotationPressModel" (174 : Nat) "NotationPressModel" "digits" "[I") ∈ np_gw := np_gwi 1709 (by decide +kernel) rfl
theorem gw1713 : (Jvm.Cond.lays "NotationPressModel" "NotationPressModel" "drafted" "I") ∈ np_gw := np_gwi 1713 (by decide +kernel) rfl
theorem gw1715 : (Jvm.Cond.laysFinal "NotationPressModel" "NotationPressModel" "draftKind" "[I") ∈ np_gw := np_gwi 1715 (by decide +kernel) rfl
theorem gw1717 : (Jvm.Cond.laysFinal "NotationPressModel" "NotationPressModel" "draftA" "[I") ∈ np_gw := np_gwi 1717 (by decide +kernel) rfl
theorem gw1719 : (Jvm.Cond.laysFinal "NotationPressModel" "NotationPressModel" "draftB" "[I") ∈ np_gw := np_gwi 1719 (by decide +kernel) rfl
theorem gw1721 : (Jvm.Cond.laysFinal "NotationPressModel" "NotationPressModel" "draftC" "[I") ∈ np_gw := np_gwi 1721 (by decide +kernel) rfl
theorem gw1723 : (Jvm.Cond.lays "NotationPressModel" "NotationPressModel" "descriptions" "I") ∈ np_gw := np_gwi 1723 (by decide +kernel) rfl
theorem gw1725 : (Jvm.Cond.laysFinal "NotationPressModel" "NotationPressModel" "many" "[I") ∈ np_gw := np_gwi 1725 (by decide +kernel) rfl
theorem gw1727 : (Jvm.Cond.laysFinal "NotationPressModel" "NotationPressModel" "kind" "[I") ∈ np_gw := np_gwi 1727 (by decide +kernel) rfl
theorem gw1729 : (Jvm.Cond.laysFinal "NotationPressModel" "NotationPressModel" "a" "[I") ∈ np_gw := np_gwi 1729 (by decide +kernel) rfl
theorem gw1731 : (Jvm.Cond.laysFinal "NotationPressModel" "NotationPressModel" "b" "[I") ∈ np_gw := np_gwi 1731 (by decide +kernel) rfl
theorem gw1733 : (Jvm.Cond.laysFinal "NotationPressModel" "NotationPressModel" "c" "[I") ∈ np_gw := np_gwi 1733 (by decide +kernel) rfl
theorem gw1735 : (Jvm.Cond.laysFinal "NotationPressModel" "NotationPressModel" "loopOf" "[I") ∈ np_gw := np_gwi 1735 (by decide +kernel) rfl
theorem gw1737 : (Jvm.Cond.laysFinal "NotationPressModel" "NotationPressModel" "constraints" "[I") ∈ np_gw := np_gwi 1737 (by decide +kernel) rfl
theorem gw1739 : (Jvm.Cond.laysFinal "NotationPressModel" "NotationPressModel" "ruleKind" "[I") ∈ np_gw := np_gwi 1739 (by decide +kernel) rfl
theorem gw1741 : (Jvm.Cond.laysFinal "NotationPressModel" "NotationPressModel" "ruleA" "[I") ∈ np_gw := np_gwi 1741 (by decide +kernel) rfl
theorem gw1743 : (Jvm.Cond.laysFinal "NotationPressModel" "NotationPressModel" "ruleB" "[I") ∈ np_gw := np_gwi 1743 (by decide +kernel) rfl
theorem gw1745 : (Jvm.Cond.laysFinal "NotationPressModel" "NotationPressModel" "ruleC" "[I") ∈ np_gw := np_gwi 1745 (by decide +kernel) rfl
theorem gw1747 : (Jvm.Cond.laysFinal "NotationPressModel" "NotationPressModel" "ruleMessage" "[I") ∈ np_gw := np_gwi 1747 (by decide +kernel) rfl
theorem gw1749 : (Jvm.Cond.laysFinal "NotationPressModel" "NotationPressModel" "record" "[I") ∈ np_gw := np_gwi 1749 (by decide +kernel) rfl
theorem gw1751 : (Jvm.Cond.lays "NotationPressModel" "NotationPressModel" "recordHas" "I") ∈ np_gw := np_gwi 1751 (by decide +kernel) rfl
theorem gw1753 : (Jvm.Cond.laysFinal "NotationPressModel" "NotationPressModel" "text" "[I") ∈ np_gw := np_gwi 1753 (by decide +kernel) rfl
theorem gw1755 : (Jvm.Cond.laysFinal "NotationPressModel" "NotationPressModel" "units" "[I") ∈ np_gw := np_gwi 1755 (by decide +kernel) rfl
theorem gw1757 : (Jvm.Cond.laysFinal "NotationPressModel" "NotationPressModel" "isClosed" "[Z") ∈ np_gw := np_gwi 1757 (by decide +kernel) rfl
theorem gw1759 : (Jvm.Cond.laysFinal "NotationPressModel" "NotationPressModel" "streamOf" "[I") ∈ np_gw := np_gwi 1759 (by decide +kernel) rfl
theorem gw1761 : (Jvm.Cond.laysFinal "NotationPressModel" "NotationPressModel" "place" "[I") ∈ np_gw := np_gwi 1761 (by decide +kernel) rfl
theorem gw1763 : (Jvm.Cond.laysFinal "NotationPressModel" "NotationPressModel" "rows" "[I") ∈ np_gw := np_gwi 1763 (by decide +kernel) rfl
theorem gw1765 : (Jvm.Cond.laysFinal "NotationPressModel" "NotationPressModel" "doubts" "[I") ∈ np_gw := np_gwi 1765 (by decide +kernel) rfl
theorem gw1767 : (Jvm.Cond.laysFinal "NotationPressModel" "NotationPressModel" "table" "[I") ∈ np_gw := np_gwi 1767 (by decide +kernel) rfl
theorem gw1769 : (Jvm.Cond.laysFinal "NotationPressModel" "NotationPressModel" "rowHas" "[I") ∈ np_gw := np_gwi 1769 (by decide +kernel) rfl
theorem gw1771 : (Jvm.Cond.laysFinal "NotationPressModel" "NotationPressModel" "entries" "[I") ∈ np_gw := np_gwi 1771 (by decide +kernel) rfl
theorem gw1773 : (Jvm.Cond.laysFinal "NotationPressModel" "NotationPressModel" "why" "[I") ∈ np_gw := np_gwi 1773 (by decide +kernel) rfl
theorem gw1775 : (Jvm.Cond.laysFinal "NotationPressModel" "NotationPressModel" "from" "[I") ∈ np_gw := np_gwi 1775 (by decide +kernel) rfl
theorem gw1777 : (Jvm.Cond.laysFinal "NotationPressModel" "NotationPressModel" "behind" "[I") ∈ np_gw := np_gwi 1777 (by decide +kernel) rfl
theorem gw1779 : (Jvm.Cond.lays "NotationPressModel" "NotationPressModel" "columns" "I") ∈ np_gw := np_gwi 1779 (by decide +kernel) rfl
theorem gw1781 : (Jvm.Cond.laysFinal "NotationPressModel" "NotationPressModel" "columnFile" "[I") ∈ np_gw := np_gwi 1781 (by decide +kernel) rfl
theorem gw1783 : (Jvm.Cond.laysFinal "NotationPressModel" "NotationPressModel" "columnKind" "[I") ∈ np_gw := np_gwi 1783 (by decide +kernel) rfl
theorem gw1785 : (Jvm.Cond.laysFinal "NotationPressModel" "NotationPressModel" "columnSlot" "[I") ∈ np_gw := np_gwi 1785 (by decide +kernel) rfl
theorem gw1787 : (Jvm.Cond.laysFinal "NotationPressModel" "NotationPressModel" "columnWindow" "[I") ∈ np_gw := np_gwi 1787 (by decide +kernel) rfl
theorem gw1789 : (Jvm.Cond.laysFinal "NotationPressModel" "NotationPressModel" "stepKind" "[I") ∈ np_gw := np_gwi 1789 (by decide +kernel) rfl
theorem gw1791 : (Jvm.Cond.laysFinal "NotationPressModel" "NotationPressModel" "stepA" "[I") ∈ np_gw := np_gwi 1791 (by decide +kernel) rfl
theorem gw1793 : (Jvm.Cond.laysFinal "NotationPressModel" "NotationPressModel" "stepB" "[I") ∈ np_gw := np_gwi 1793 (by decide +kernel) rfl
theorem gw1795 : (Jvm.Cond.lays "NotationPressModel" "NotationPressModel" "upgrades" "I") ∈ np_gw := np_gwi 1795 (by decide +kernel) rfl
theorem gw1797 : (Jvm.Cond.laysFinal "NotationPressModel" "NotationPressModel" "partKind" "[I") ∈ np_gw := np_gwi 1797 (by decide +kernel) rfl
theorem gw1799 : (Jvm.Cond.laysFinal "NotationPressModel" "NotationPressModel" "partNumber" "[I") ∈ np_gw := np_gwi 1799 (by decide +kernel) rfl
theorem gw1801 : (Jvm.Cond.laysFinal "NotationPressModel" "NotationPressModel" "codeFrom" "[I") ∈ np_gw := np_gwi 1801 (by decide +kernel) rfl
theorem gw1803 : (Jvm.Cond.laysFinal "NotationPressModel" "NotationPressModel" "codeLength" "[I") ∈ np_gw := np_gwi 1803 (by decide +kernel) rfl
theorem gw1805 : (Jvm.Cond.lays "NotationPressModel" "NotationPressModel" "made" "I") ∈ np_gw := np_gwi 1805 (by decide +kernel) rfl
theorem gw1807 : (Jvm.Cond.laysFinal "NotationPressModel" "NotationPressModel" "joinedBy" "[I") ∈ np_gw := np_gwi 1807 (by decide +kernel) rfl
theorem gw1809 : (Jvm.Cond.laysFinal "NotationPressModel" "NotationPressModel" "joinedAs" "[I") ∈ np_gw := np_gwi 1809 (by decide +kernel) rfl
theorem gw1811 : (Jvm.Cond.laysFinal "NotationPressModel" "NotationPressModel" "stack" "[J") ∈ np_gw := np_gwi 1811 (by decide +kernel) rfl
theorem gw1813 : (Jvm.Cond.laysFinal "NotationPressModel" "NotationPressModel" "waiting" "[I") ∈ np_gw := np_gwi 1813 (by decide +kernel) rfl
theorem gw1815 : (Jvm.Cond.laysFinal "NotationPressModel" "NotationPressModel" "value" "[I") ∈ np_gw := np_gwi 1815 (by decide +kernel) rfl
theorem gw1817 : (Jvm.Cond.lays "NotationPressModel" "NotationPressModel" "valueHas" "I") ∈ np_gw := np_gwi 1817 (by decide +kernel) rfl
theorem gw1819 : (Jvm.Cond.lays "NotationPressModel" "NotationPressModel" "nextItem" "I") ∈ np_gw := np_gwi 1819 (by decide +kernel) rfl
theorem gw1821 : (Jvm.Cond.lays "NotationPressModel" "NotationPressModel" "nextRound" "I") ∈ np_gw := np_gwi 1821 (by decide +kernel) rfl
theorem gw1823 : (Jvm.Cond.lays "NotationPressModel" "NotationPressModel" "file" "I") ∈ np_gw := np_gwi 1823 (by decide +kernel) rfl
theorem gw1825 : (Jvm.Cond.lays "NotationPressModel" "NotationPressModel" "description" "I") ∈ np_gw := np_gwi 1825 (by decide +kernel) rfl
theorem gw1827 : (Jvm.Cond.lays "NotationPressModel" "NotationPressModel" "start" "I") ∈ np_gw := np_gwi 1827 (by decide +kernel) rfl
theorem gw1829 : (Jvm.Cond.lays "NotationPressModel" "NotationPressModel" "end" "I") ∈ np_gw := np_gwi 1829 (by decide +kernel) rfl
theorem gw1831 : (Jvm.Cond.lays "NotationPressModel" "NotationPressModel" "begun" "I") ∈ np_gw := np_gwi 1831 (by decide +kernel) rfl
theorem gw1833 : (Jvm.Cond.lays "NotationPressModel" "NotationPressModel" "depth" "I") ∈ np_gw := np_gwi 1833 (by decide +kernel) rfl
theorem gw1835 : (Jvm.Cond.laysFinal "NotationPressModel" "NotationPressModel" "itemAt" "[I") ∈ np_gw := np_gwi 1835 (by decide +kernel) rfl
theorem gw1837 : (Jvm.Cond.laysFinal "NotationPressModel" "NotationPressModel" "roundAt" "[I") ∈ np_gw := np_gwi 1837 (by decide +kernel) rfl
theorem gw1839 : (Jvm.Cond.laysFinal "NotationPressModel" "NotationPressModel" "placeAt" "[I") ∈ np_gw := np_gwi 1839 (by decide +kernel) rfl
theorem gw1841 : (Jvm.Cond.laysFinal "NotationPressModel" "NotationPressModel" "choiceAt" "[I") ∈ np_gw := np_gwi 1841 (by decide +kernel) rfl
theorem gw1843 : (Jvm.Cond.laysFinal "NotationPressModel" "NotationPressModel" "manyAt" "[I") ∈ np_gw := np_gwi 1843 (by decide +kernel) rfl
theorem gw1845 : (Jvm.Cond.lays "NotationPressModel" "NotationPressModel" "taken" "I") ∈ np_gw := np_gwi 1845 (by decide +kernel) rfl
theorem gw1847 : (Jvm.Cond.laysFinal "NotationPressModel" "NotationPressModel" "source" "[I") ∈ np_gw := np_gwi 1847 (by decide +kernel) rfl
theorem gw1849 : (Jvm.Cond.lays "NotationPressModel" "NotationPressModel" "sourceHas" "I") ∈ np_gw := np_gwi 1849 (by decide +kernel) rfl
theorem gw1851 : (Jvm.Cond.laysFinal "NotationPressModel" "NotationPressModel" "out" "[I") ∈ np_gw := np_gwi 1851 (by decide +kernel) rfl
theorem gw1853 : (Jvm.Cond.lays "NotationPressModel" "NotationPressModel" "printed" "I") ∈ np_gw := np_gwi 1853 (by decide +kernel) rfl
theorem gw1855 : (Jvm.Cond.lays "NotationPressModel" "NotationPressModel" "fails" "Z") ∈ np_gw := np_gwi 1855 (by decide +kernel) rfl
theorem gw1857 : (Jvm.Cond.laysFinal "NotationPressModel" "NotationPressModel" "printedAt" "[I") ∈ np_gw := np_gwi 1857 (by decide +kernel) rfl
theorem gw1859 : (Jvm.Cond.laysFinal "NotationPressModel" "NotationPressModel" "digits" "[I") ∈ np_gw := np_gwi 1859 (by decide +kernel) rfl
theorem gw1861 : (Jvm.Cond.lays "NotationPressModel" "NotationPressModel" "seed" "J") ∈ np_gw := np_gwi 1861 (by decide +kernel) rfl
theorem gw1863 : (Jvm.Cond.lays "NotationPressModel" "NotationPressModel" "tries" "I") ∈ np_gw := np_gwi 1863 (by decide +kernel) rfl
theorem gw1865 : (Jvm.Cond.lays "NotationPressModel" "NotationPressModel" "thrown" "I") ∈ np_gw := np_gwi 1865 (by decide +kernel) rfl
theorem gw1868 : (Jvm.Cond.arrayClass Jvm.ClassFile.FieldType.boolean) ∈ np_gw := np_gwi 1868 (by decide +kernel) rfl
theorem gw1869 : (Jvm.Cond.arrayClass Jvm.ClassFile.FieldType.long) ∈ np_gw := np_gwi 1869 (by decide +kernel) rfl
set_option maxRecDepth 20000 in
theorem guX11 : ∀ w ∈ u_ws RX11 TX11 14, w ∈ np_gw := by
  show ∀ w ∈ [(Jvm.Cond.laysFinal "NotationPress" "NotationPress" "draft" "LNotationPress$Items;"), (Jvm.Cond.laysFinal "NotationPress" "NotationPress" "descriptions" "[LNotationPress$Description;"), (Jvm.Cond.lays "NotationPress" "NotationPress" "descriptionCount" "I"), (Jvm.Cond.laysFinal "NotationPress" "NotationPress" "record" "[I"), (Jvm.Cond.laysFinal "NotationPress" "NotationPress" "files" "[LNotationPress$Text;"), (Jvm.Cond.laysFinal "NotationPress" "NotationPress" "tables" "[LNotationPress$Table;"), (Jvm.Cond.laysFinal "NotationPress" "NotationPress" "printer" "LNotationPress$Printer;"), (Jvm.Cond.laysFinal "NotationPress" "NotationPress" "reader" "LNotationPress$Reader;"), (Jvm.Cond.laysFinal "NotationPress" "NotationPress" "sampler" "LNotationPress$Sampler;"), (Jvm.Cond.laysFinal "NotationPress" "NotationPress" "columns" "[LNotationPress$Column;"), (Jvm.Cond.lays "NotationPress" "NotationPress" "columnCount" "I"), (Jvm.Cond.laysFinal "NotationPress" "NotationPress" "upgradeDraft" "LNotationPress$UpgradeDraft;"), (Jvm.Cond.laysFinal "NotationPress" "NotationPress" "upgrades" "[LNotationPress$Upgrade;"), (Jvm.Cond.lays "NotationPress" "NotationPress" "upgradeCount" "I")], w ∈ np_gw
  exact List.forall_mem_cons.mpr ⟨gw520, List.forall_mem_cons.mpr ⟨gw522, List.forall_mem_cons.mpr ⟨gw524, List.forall_mem_cons.mpr ⟨gw526, List.forall_mem_cons.mpr ⟨gw528, List.forall_mem_cons.mpr ⟨gw530, List.forall_mem_cons.mpr ⟨gw532, List.forall_mem_cons.mpr ⟨gw534, List.forall_mem_cons.mpr ⟨gw536, List.forall_mem_cons.mpr ⟨gw538, List.forall_mem_cons.mpr ⟨gw540, List.forall_mem_cons.mpr ⟨gw542, List.forall_mem_cons.mpr ⟨gw544, List.forall_mem_cons.mpr ⟨gw546, fun _ h => nomatch h⟩⟩⟩⟩⟩⟩⟩⟩⟩⟩⟩⟩⟩⟩
theorem ndX11 : ∀ j, j < 14 → defaultValue (tyX11 j) = vp_V [.null, .null, .int 0, .null, .null, .null, .null, .null, .null, .null, .int 0, .null, .null, .int 0] j := by decide +kernel
theorem nfX11 : ∀ v ∈ ([.null, .null, .int 0, .null, .null, .null, .null, .null, .null, .null, .int 0, .null, .null, .int 0] : List Value), ∀ ad : Nat → Nat, np_v ad v = v := by
  intro v hv ad
  simp only [List.mem_cons, List.not_mem_nil, or_false] at hv
  rcases hv with rfl | rfl | rfl | rfl | rfl | rfl | rfl | rfl | rfl | rfl | rfl | rfl | rfl | rfl <;> rfl
set_option maxRecDepth 20000 in
theorem guX12 : ∀ w ∈ u_ws RX12 TX12 77, w ∈ np_gw := by
  show ∀ w ∈ [(Jvm.Cond.lays "NotationPressModel" "NotationPressModel" "drafted" "I"), (Jvm.Cond.laysFinal "NotationPressModel" "NotationPressModel" "draftKind" "[I"), (Jvm.Cond.laysFinal "NotationPressModel" "NotationPressModel" "draftA" "[I"), (Jvm.Cond.laysFinal "NotationPressModel" "NotationPressModel" "draftB" "[I"), (Jvm.Cond.laysFinal "NotationPressModel" "NotationPressModel" "draftC" "[I"), (Jvm.Cond.lays "NotationPressModel" "NotationPressModel" "descriptions" "I"), (Jvm.Cond.laysFinal "NotationPressModel" "NotationPressModel" "many" "[I"), (Jvm.Cond.laysFinal "NotationPressModel" "NotationPressModel" "kind" "[I"), (Jvm.Cond.laysFinal "NotationPressModel" "NotationPressModel" "a" "[I"), (Jvm.Cond.laysFinal "NotationPressModel" "NotationPressModel" "b" "[I"), (Jvm.Cond.laysFinal "NotationPressModel" "NotationPressModel" "c" "[I"), (Jvm.Cond.laysFinal "NotationPressModel" "NotationPressModel" "loopOf" "[I"), (Jvm.Cond.laysFinal "NotationPressModel" "NotationPressModel" "constraints" "[I"), (Jvm.Cond.laysFinal "NotationPressModel" "NotationPressModel" "ruleKind" "[I"), (Jvm.Cond.laysFinal "NotationPressModel" "NotationPressModel" "ruleA" "[I"), (Jvm.Cond.laysFinal "NotationPressModel" "NotationPressModel" "ruleB" "[I"), (Jvm.Cond.laysFinal "NotationPressModel" "NotationPressModel" "ruleC" "[I"), (Jvm.Cond.laysFinal "NotationPressModel" "NotationPressModel" "ruleMessage" "[I"), (Jvm.Cond.laysFinal "NotationPressModel" "NotationPressModel" "record" "[I"), (Jvm.Cond.lays "NotationPressModel" "NotationPressModel" "recordHas" "I"), (Jvm.Cond.laysFinal "NotationPressModel" "NotationPressModel" "text" "[I"), (Jvm.Cond.laysFinal "NotationPressModel" "NotationPressModel" "units" "[I"), (Jvm.Cond.laysFinal "NotationPressModel" "NotationPressModel" "isClosed" "[Z"), (Jvm.Cond.laysFinal "NotationPressModel" "NotationPressModel" "streamOf" "[I"), (Jvm.Cond.laysFinal "NotationPressModel" "NotationPressModel" "place" "[I"), (Jvm.Cond.laysFinal "NotationPressModel" "NotationPressModel" "rows" "[I"), (Jvm.Cond.laysFinal "NotationPressModel" "NotationPressModel" "doubts" "[I"), (Jvm.Cond.laysFinal "NotationPressModel" "NotationPressModel" "table" "[I"), (Jvm.Cond.laysFinal "NotationPressModel" "NotationPressModel" "rowHas" "[I"), (Jvm.Cond.laysFinal "NotationPressModel" "NotationPressModel" "entries" "[I"), (Jvm.Cond.laysFinal "NotationPressModel" "NotationPressModel" "why" "[I"), (Jvm.Cond.laysFinal "NotationPressModel" "NotationPressModel" "from" "[I"), (Jvm.Cond.laysFinal "NotationPressModel" "NotationPressModel" "behind" "[I"), (Jvm.Cond.lays "NotationPressModel" "NotationPressModel" "columns" "I"), (Jvm.Cond.laysFinal "NotationPressModel" "NotationPressModel" "columnFile" "[I"), (Jvm.Cond.laysFinal "NotationPressModel" "NotationPressModel" "columnKind" "[I"), (Jvm.Cond.laysFinal "NotationPressModel" "NotationPressModel" "columnSlot" "[I"), (Jvm.Cond.laysFinal "NotationPressModel" "NotationPressModel" "columnWindow" "[I"), (Jvm.Cond.laysFinal "NotationPressModel" "NotationPressModel" "stepKind" "[I"), (Jvm.Cond.laysFinal "NotationPressModel" "NotationPressModel" "stepA" "[I"), (Jvm.Cond.laysFinal "NotationPressModel" "NotationPressModel" "stepB" "[I"), (Jvm.Cond.lays "NotationPressModel" "NotationPressModel" "upgrades" "I"), (Jvm.Cond.laysFinal "NotationPressModel" "NotationPressModel" "partKind" "[I"), (Jvm.Cond.laysFinal "NotationPressModel" "NotationPressModel" "partNumber" "[I"), (Jvm.Cond.laysFinal "NotationPressModel" "NotationPressModel" "codeFrom" "[I"), (Jvm.Cond.laysFinal "NotationPressModel" "NotationPressModel" "codeLength" "[I"), (Jvm.Cond.lays "NotationPressModel" "NotationPressModel" "made" "I"), (Jvm.Cond.laysFinal "NotationPressModel" "NotationPressModel" "joinedBy" "[I"), (Jvm.Cond.laysFinal "NotationPressModel" "NotationPressModel" "joinedAs" "[I"), (Jvm.Cond.laysFinal "NotationPressModel" "NotationPressModel" "stack" "[J"), (Jvm.Cond.laysFinal "NotationPressModel" "NotationPressModel" "waiting" "[I"), (Jvm.Cond.laysFinal "NotationPressModel" "NotationPressModel" "value" "[I"), (Jvm.Cond.lays "NotationPressModel" "NotationPressModel" "valueHas" "I"), (Jvm.Cond.lays "NotationPressModel" "NotationPressModel" "nextItem" "I"), (Jvm.Cond.lays "NotationPressModel" "NotationPressModel" "nextRound" "I"), (Jvm.Cond.lays "NotationPressModel" "NotationPressModel" "file" "I"), (Jvm.Cond.lays "NotationPressModel" "NotationPressModel" "description" "I"), (Jvm.Cond.lays "NotationPressModel" "NotationPressModel" "start" "I"), (Jvm.Cond.lays "NotationPressModel" "NotationPressModel" "end" "I"), (Jvm.Cond.lays "NotationPressModel" "NotationPressModel" "begun" "I"), (Jvm.Cond.lays "NotationPressModel" "NotationPressModel" "depth" "I"), (Jvm.Cond.laysFinal "NotationPressModel" "NotationPressModel" "itemAt" "[I"), (Jvm.Cond.laysFinal "NotationPressModel" "NotationPressModel" "roundAt" "[I"), (Jvm.Cond.laysFinal "NotationPressModel" "NotationPressModel" "placeAt" "[I"), (Jvm.Cond.laysFinal "NotationPressModel" "NotationPressModel" "choiceAt" "[I"), (Jvm.Cond.laysFinal "NotationPressModel" "NotationPressModel" "manyAt" "[I"), (Jvm.Cond.lays "NotationPressModel" "NotationPressModel" "taken" "I"), (Jvm.Cond.laysFinal "NotationPressModel" "NotationPressModel" "source" "[I"), (Jvm.Cond.lays "NotationPressModel" "NotationPressModel" "sourceHas" "I"), (Jvm.Cond.laysFinal "NotationPressModel" "NotationPressModel" "out" "[I"), (Jvm.Cond.lays "NotationPressModel" "NotationPressModel" "printed" "I"), (Jvm.Cond.lays "NotationPressModel" "NotationPressModel" "fails" "Z"), (Jvm.Cond.laysFinal "NotationPressModel" "NotationPressModel" "printedAt" "[I"), (Jvm.Cond.laysFinal "NotationPressModel" "NotationPressModel" "digits" "[I"), (Jvm.Cond.lays "NotationPressModel" "NotationPressModel" "seed" "J"), (Jvm.Cond.lays "NotationPressModel" "NotationPressModel" "tries" "I"), (Jvm.Cond.lays "NotationPressModel" "NotationPressModel" "thrown" "I")], w ∈ np_gw
  exact List.forall_mem_cons.mpr ⟨gw1713, List.forall_mem_cons.mpr ⟨gw1715, List.forall_mem_cons.mpr ⟨gw1717, List.forall_mem_cons.mpr ⟨gw1719, List.forall_mem_cons.mpr ⟨gw1721, List.forall_mem_cons.mpr ⟨gw1723, List.forall_mem_cons.mpr ⟨gw1725, List.forall_mem_cons.mpr ⟨gw1727, List.forall_mem_cons.mpr ⟨gw1729, List.forall_mem_cons.mpr ⟨gw1731, List.forall_mem_cons.mpr ⟨gw1733, List.forall_mem_cons.mpr ⟨gw1735, List.forall_mem_cons.mpr ⟨gw1737, List.forall_mem_cons.mpr ⟨gw1739, List.forall_mem_cons.mpr ⟨gw1741, List.forall_mem_cons.mpr ⟨gw1743, List.forall_mem_cons.mpr ⟨gw1745, List.forall_mem_cons.mpr ⟨gw1747, List.forall_mem_cons.mpr ⟨gw1749, List.forall_mem_cons.mpr ⟨gw1751, List.forall_mem_cons.mpr ⟨gw1753, List.forall_mem_cons.mpr ⟨gw1755, List.forall_mem_cons.mpr ⟨gw1757, List.forall_mem_cons.mpr ⟨gw1759, List.forall_mem_cons.mpr ⟨gw1761, List.forall_mem_cons.mpr ⟨gw1763, List.forall_mem_cons.mpr ⟨gw1765, List.forall_mem_cons.mpr ⟨gw1767, List.forall_mem_cons.mpr ⟨gw1769, List.forall_mem_cons.mpr ⟨gw1771, List.forall_mem_cons.mpr ⟨gw1773, List.forall_mem_cons.mpr ⟨gw1775, List.forall_mem_cons.mpr ⟨gw1777, List.forall_mem_cons.mpr ⟨gw1779, List.forall_mem_cons.mpr ⟨gw1781, List.forall_mem_cons.mpr ⟨gw1783, List.forall_mem_cons.mpr ⟨gw1785, List.forall_mem_cons.mpr ⟨gw1787, List.forall_mem_cons.mpr ⟨gw1789, List.forall_mem_cons.mpr ⟨gw1791, List.forall_mem_cons.mpr ⟨gw1793, List.forall_mem_cons.mpr ⟨gw1795, List.forall_mem_cons.mpr ⟨gw1797, List.forall_mem_cons.mpr ⟨gw1799, List.forall_mem_cons.mpr ⟨gw1801, List.forall_mem_cons.mpr ⟨gw1803, List.forall_mem_cons.mpr ⟨gw1805, List.forall_mem_cons.mpr ⟨gw1807, List.forall_mem_cons.mpr ⟨gw1809, List.forall_mem_cons.mpr ⟨gw1811, List.forall_mem_cons.mpr ⟨gw1813, List.forall_mem_cons.mpr ⟨gw1815, List.forall_mem_cons.mpr ⟨gw1817, List.forall_mem_cons.mpr ⟨gw1819, List.forall_mem_cons.mpr ⟨gw1821, List.forall_mem_cons.mpr ⟨gw1823, List.forall_mem_cons.mpr ⟨gw1825, List.forall_mem_cons.mpr ⟨gw1827, List.forall_mem_cons.mpr ⟨gw1829, List.forall_mem_cons.mpr ⟨gw1831, List.forall_mem_cons.mpr ⟨gw1833, List.forall_mem_cons.mpr ⟨gw1835, List.forall_mem_cons.mpr ⟨gw1837, List.forall_mem_cons.mpr ⟨gw1839, List.forall_mem_cons.mpr ⟨gw1841, List.forall_mem_cons.mpr ⟨gw1843, List.forall_mem_cons.mpr ⟨gw1845, List.forall_mem_cons.mpr ⟨gw1847, List.forall_mem_cons.mpr ⟨gw1849, List.forall_mem_cons.mpr ⟨gw1851, List.forall_mem_cons.mpr ⟨gw1853, List.forall_mem_cons.mpr ⟨gw1855, List.forall_mem_cons.mpr ⟨gw1857, List.forall_mem_cons.mpr ⟨gw1859, List.forall_mem_cons.mpr ⟨gw1861, List.forall_mem_cons.mpr ⟨gw1863, List.forall_mem_cons.mpr ⟨gw1865, fun _ h => nomatch h⟩⟩⟩⟩⟩⟩⟩⟩⟩⟩⟩⟩⟩⟩⟩⟩⟩⟩⟩⟩⟩⟩⟩⟩⟩⟩⟩⟩⟩⟩⟩⟩⟩⟩⟩⟩⟩⟩⟩⟩⟩⟩⟩⟩⟩⟩⟩⟩⟩⟩⟩⟩⟩⟩⟩⟩⟩⟩⟩⟩⟩⟩⟩⟩⟩⟩⟩⟩⟩⟩⟩⟩⟩⟩⟩⟩⟩
theorem ndX12 : ∀ j, j < 77 → defaultValue (tyX12 j) = vp_V [.int 0, .null, .null, .null, .null, .int 0, .null, .null, .null, .null, .null, .null, .null, .null, .null, .null, .null, .null, .null, .int 0, .null, .null, .null, .null, .null, .null, .null, .null, .null, .null, .null, .null, .null, .int 0, .null, .null, .null, .null, .null, .null, .null, .int 0, .null, .null, .null, .null, .int 0, .null, .null, .null, .null, .null, .int 0, .int 0, .int 0, .int 0, .int 0, .int 0, .int 0, .int 0, .int 0, .null, .null, .null, .null, .null, .int 0, .null, .int 0, .null, .int 0, .int 0, .null, .null, .long 0, .int 0, .int 0] j := by decide +kernel
theorem nfX12 : ∀ v ∈ ([.int 0, .null, .null, .null, .null, .int 0, .null, .null, .null, .null, .null, .null, .null, .null, .null, .null, .null, .null, .null, .int 0, .null, .null, .null, .null, .null, .null, .null, .null, .null, .null, .null, .null, .null, .int 0, .null, .null, .null, .null, .null, .null, .null, .int 0, .null, .null, .null, .null, .int 0, .null, .null, .null, .null, .null, .int 0, .int 0, .int 0, .int 0, .int 0, .int 0, .int 0, .int 0, .int 0, .null, .null, .null, .null, .null, .int 0, .null, .int 0, .null, .int 0, .int 0, .null, .null, .long 0, .int 0, .int 0] : List Value), ∀ ad : Nat → Nat, np_v ad v = v := by
  intro v hv ad
  simp only [List.mem_cons, List.not_mem_nil, or_false] at hv
  rcases hv with rfl | rfl | rfl | rfl | rfl | rfl | rfl | rfl | rfl | rfl | rfl | rfl | rfl | rfl | rfl | rfl | rfl | rfl | rfl | rfl | rfl | rfl | rfl | rfl | rfl | rfl | rfl | rfl | rfl | rfl | rfl | rfl | rfl | rfl | rfl | rfl | rfl | rfl | rfl | rfl | rfl | rfl | rfl | rfl | rfl | rfl | rfl | rfl | rfl | rfl | rfl | rfl | rfl | rfl | rfl | rfl | rfl | rfl | rfl | rfl | rfl | rfl | rfl | rfl | rfl | rfl | rfl | rfl | rfl | rfl | rfl | rfl | rfl | rfl | rfl | rfl | rfl <;> rfl
theorem dX12_dropsSteps_0 : decode cX12_dropsSteps 0 = .ok (.iconst 0, 1) := by decide +kernel
theorem dX12_dropsSteps_1 : decode cX12_dropsSteps 1 = .ok (.istore_n 1, 1) := by decide +kernel
theorem dX12_dropsSteps_2 : decode cX12_dropsSteps 2 = .ok (.iload_n 1, 1) := by decide +kernel
theorem dX12_dropsSteps_3 : decode cX12_dropsSteps 3 = .ok (.bipush 8, 2) := by decide +kernel
theorem dX12_dropsSteps_5 : decode cX12_dropsSteps 5 = .ok (.if_icmp .ge 16, 3) := by decide +kernel
theorem dX12_dropsSteps_8 : decode cX12_dropsSteps 8 = .ok (.aload_n 0, 1) := by decide +kernel
theorem dX12_dropsSteps_9 : decode cX12_dropsSteps 9 = .ok (.getfield 113, 3) := by decide +kernel
theorem dX12_dropsSteps_12 : decode cX12_dropsSteps 12 = .ok (.iload_n 1, 1) := by decide +kernel
theorem dX12_dropsSteps_13 : decode cX12_dropsSteps 13 = .ok (.iconst (-1), 1) := by decide +kernel
theorem dX12_dropsSteps_14 : decode cX12_dropsSteps 14 = .ok (.iastore, 1) := by decide +kernel
theorem dX12_dropsSteps_15 : decode cX12_dropsSteps 15 = .ok (.iinc 1 1, 3) := by decide +kernel
theorem dX12_dropsSteps_18 : decode cX12_dropsSteps 18 = .ok (.goto (-16), 3) := by decide +kernel
theorem dX12_dropsSteps_21 : decode cX12_dropsSteps 21 = .ok (.return_, 1) := by decide +kernel
def is_X12_dropsSteps (Rt : np_Rt) : List (Nat × np_Op) := [(0, np_push 1 (.int 0)), (1, np_ist 1 1), (2, np_ild 1 1), (3, np_push 2 (.int 8)), (5, nq_ic (fun x y => y ≤ x) 21), (8, np_ald 1 0), (9, nq_getf 12 38), (12, np_ild 1 1), (13, np_push 1 (.int (-1))), (14, nq_iastT .int), (15, np_iinc 1 1), (18, np_goto 2), (21, np_ret Rt)]
set_option maxRecDepth 20000 in
theorem so_X12_dropsSteps {X : np_Ctx} {Rt : np_Rt} (hX : np_ok RX12 cX12_dropsSteps 2 0 0 0 0 .return_ X) (hR : ∀ st w ce sl, Rt st w ce sl → X.2.2.1 st w ce sl) : ∀ q ∈ is_X12_dropsSteps Rt, np_S X q.1 q.2 :=
  List.forall_mem_cons.mpr ⟨np_s_iconst hX dX12_dropsSteps_0 (by decide), List.forall_mem_cons.mpr ⟨np_s_istore_n hX dX12_dropsSteps_1 rfl (by decide), List.forall_mem_cons.mpr ⟨np_s_iload_n hX dX12_dropsSteps_2 rfl, List.forall_mem_cons.mpr ⟨np_s_bipush hX dX12_dropsSteps_3 (by decide), List.forall_mem_cons.mpr ⟨np_S.mono (op := np_ic (fun x y => y ≤ x) 21) (np_s_icmp_ge hX dX12_dropsSteps_5 (by decide)) nq_ic_le, List.forall_mem_cons.mpr ⟨np_s_aload_n hX dX12_dropsSteps_8 rfl, List.forall_mem_cons.mpr ⟨np_S.mono (op := np_getf 12 38) (np_s_getf hX dX12_dropsSteps_9 (C := RX12) (T := TX12) (N := 77) rfl guX12 (by decide) gw1674) nq_getf_le, List.forall_mem_cons.mpr ⟨np_s_iload_n hX dX12_dropsSteps_12 rfl, List.forall_mem_cons.mpr ⟨np_s_iconst hX dX12_dropsSteps_13 (by decide), List.forall_mem_cons.mpr ⟨np_S.mono (op := np_iastT .int) (np_s_iast hX dX12_dropsSteps_14) nq_iastT_le, List.forall_mem_cons.mpr ⟨np_s_iinc hX dX12_dropsSteps_15 (by decide), List.forall_mem_cons.mpr ⟨np_s_goto hX dX12_dropsSteps_18 (by decide), List.forall_mem_cons.mpr ⟨np_S.mono (op := np_ret X.2.2.1) (np_s_ret hX dX12_dropsSteps_21) (nq_ret_le hR), fun _ h => nomatch h⟩⟩⟩⟩⟩⟩⟩⟩⟩⟩⟩⟩⟩
abbrev sp_X12_dropsSteps : np_Sp := nq_in is_X12_dropsSteps none 0 0 100
theorem C_X12_dropsSteps : np_C yX12_dropsSteps cX12_dropsSteps 2 none 0 0 0 0 sp_X12_dropsSteps := nq_inC 100 (by decide) (fun X Rt hX hmn hR => so_X12_dropsSteps hX hR)
theorem dX11_init_0 : decode cX11_init 0 = .ok (.aload_n 0, 1) := by decide +kernel
theorem dX11_init_1 : decode cX11_init 1 = .ok (.invokespecial 5, 3) := by decide +kernel
theorem dX11_init_4 : decode cX11_init 4 = .ok (.aload_n 0, 1) := by decide +kernel
theorem dX11_init_5 : decode cX11_init 5 = .ok (.new 11, 3) := by decide +kernel
theorem dX11_init_8 : decode cX11_init 8 = .ok (.dup, 1) := by decide +kernel
theorem dX11_init_9 : decode cX11_init 9 = .ok (.invokespecial 13, 3) := by decide +kernel
theorem dX11_init_12 : decode cX11_init 12 = .ok (.putfield 14, 3) := by decide +kernel
theorem dX11_init_15 : decode cX11_init 15 = .ok (.aload_n 0, 1) := by decide +kernel
theorem dX11_init_16 : decode cX11_init 16 = .ok (.bipush 6, 2) := by decide +kernel
theorem dX11_init_18 : decode cX11_init 18 = .ok (.anewarray 18, 3) := by decide +kernel
theorem dX11_init_21 : decode cX11_init 21 = .ok (.putfield 20, 3) := by decide +kernel
theorem dX11_init_24 : decode cX11_init 24 = .ok (.aload_n 0, 1) := by decide +kernel
theorem dX11_init_25 : decode cX11_init 25 = .ok (.invokestatic 24, 3) := by decide +kernel
theorem dX11_init_28 : decode cX11_init 28 = .ok (.putfield 28, 3) := by decide +kernel
theorem dX11_init_31 : decode cX11_init 31 = .ok (.aload_n 0, 1) := by decide +kernel
theorem dX11_init_32 : decode cX11_init 32 = .ok (.iconst 2, 1) := by decide +kernel
theorem dX11_init_33 : decode cX11_init 33 = .ok (.anewarray 32, 3) := by decide +kernel
theorem dX11_init_36 : decode cX11_init 36 = .ok (.putfield 34, 3) := by decide +kernel
theorem dX11_init_39 : decode cX11_init 39 = .ok (.aload_n 0, 1) := by decide +kernel
theorem dX11_init_40 : decode cX11_init 40 = .ok (.iconst 2, 1) := by decide +kernel
theorem dX11_init_41 : decode cX11_init 41 = .ok (.anewarray 38, 3) := by decide +kernel
theorem dX11_init_44 : decode cX11_init 44 = .ok (.putfield 40, 3) := by decide +kernel
theorem dX11_init_47 : decode cX11_init 47 = .ok (.aload_n 0, 1) := by decide +kernel
theorem dX11_init_48 : decode cX11_init 48 = .ok (.new 44, 3) := by decide +kernel
theorem dX11_init_51 : decode cX11_init 51 = .ok (.dup, 1) := by decide +kernel
theorem dX11_init_52 : decode cX11_init 52 = .ok (.invokespecial 46, 3) := by decide +kernel
theorem dX11_init_55 : decode cX11_init 55 = .ok (.putfield 47, 3) := by decide +kernel
theorem dX11_init_58 : decode cX11_init 58 = .ok (.aload_n 0, 1) := by decide +kernel
theorem dX11_init_59 : decode cX11_init 59 = .ok (.new 51, 3) := by decide +kernel
theorem dX11_init_62 : decode cX11_init 62 = .ok (.dup, 1) := by decide +kernel
theorem dX11_init_63 : decode cX11_init 63 = .ok (.invokespecial 53, 3) := by decide +kernel
theorem dX11_init_66 : decode cX11_init 66 = .ok (.putfield 54, 3) := by decide +kernel
theorem dX11_init_69 : decode cX11_init 69 = .ok (.aload_n 0, 1) := by decide +kernel
theorem dX11_init_70 : decode cX11_init 70 = .ok (.new 58, 3) := by decide +kernel
theorem dX11_init_73 : decode cX11_init 73 = .ok (.dup, 1) := by decide +kernel
theorem dX11_init_74 : decode cX11_init 74 = .ok (.invokespecial 60, 3) := by decide +kernel
theorem dX11_init_77 : decode cX11_init 77 = .ok (.putfield 61, 3) := by decide +kernel
theorem dX11_init_80 : decode cX11_init 80 = .ok (.aload_n 0, 1) := by decide +kernel
theorem dX11_init_81 : decode cX11_init 81 = .ok (.bipush 6, 2) := by decide +kernel
theorem dX11_init_83 : decode cX11_init 83 = .ok (.anewarray 65, 3) := by decide +kernel
theorem dX11_init_86 : decode cX11_init 86 = .ok (.putfield 67, 3) := by decide +kernel
theorem dX11_init_89 : decode cX11_init 89 = .ok (.aload_n 0, 1) := by decide +kernel
theorem dX11_init_90 : decode cX11_init 90 = .ok (.new 71, 3) := by decide +kernel
theorem dX11_init_93 : decode cX11_init 93 = .ok (.dup, 1) := by decide +kernel
theorem dX11_init_94 : decode cX11_init 94 = .ok (.invokespecial 73, 3) := by decide +kernel
theorem dX11_init_97 : decode cX11_init 97 = .ok (.putfield 74, 3) := by decide +kernel
theorem dX11_init_100 : decode cX11_init 100 = .ok (.aload_n 0, 1) := by decide +kernel
theorem dX11_init_101 : decode cX11_init 101 = .ok (.bipush 8, 2) := by decide +kernel
theorem dX11_init_103 : decode cX11_init 103 = .ok (.anewarray 78, 3) := by decide +kernel
theorem dX11_init_106 : decode cX11_init 106 = .ok (.putfield 80, 3) := by decide +kernel
theorem dX11_init_109 : decode cX11_init 109 = .ok (.iconst 0, 1) := by decide +kernel
theorem dX11_init_110 : decode cX11_init 110 = .ok (.istore_n 1, 1) := by decide +kernel
theorem dX11_init_111 : decode cX11_init 111 = .ok (.iload_n 1, 1) := by decide +kernel
theorem dX11_init_112 : decode cX11_init 112 = .ok (.aload_n 0, 1) := by decide +kernel
theorem dX11_init_113 : decode cX11_init 113 = .ok (.getfield 20, 3) := by decide +kernel
theorem dX11_init_116 : decode cX11_init 116 = .ok (.arraylength, 1) := by decide +kernel
theorem dX11_init_117 : decode cX11_init 117 = .ok (.if_icmp .ge 22, 3) := by decide +kernel
theorem dX11_init_120 : decode cX11_init 120 = .ok (.aload_n 0, 1) := by decide +kernel
theorem dX11_init_121 : decode cX11_init 121 = .ok (.getfield 20, 3) := by decide +kernel
theorem dX11_init_124 : decode cX11_init 124 = .ok (.iload_n 1, 1) := by decide +kernel
theorem dX11_init_125 : decode cX11_init 125 = .ok (.new 18, 3) := by decide +kernel
theorem dX11_init_128 : decode cX11_init 128 = .ok (.dup, 1) := by decide +kernel
theorem dX11_init_129 : decode cX11_init 129 = .ok (.invokespecial 84, 3) := by decide +kernel
theorem dX11_init_132 : decode cX11_init 132 = .ok (.aastore, 1) := by decide +kernel
theorem dX11_init_133 : decode cX11_init 133 = .ok (.iinc 1 1, 3) := by decide +kernel
theorem dX11_init_136 : decode cX11_init 136 = .ok (.goto (-25), 3) := by decide +kernel
theorem dX11_init_139 : decode cX11_init 139 = .ok (.iconst 0, 1) := by decide +kernel
theorem dX11_init_140 : decode cX11_init 140 = .ok (.istore_n 1, 1) := by decide +kernel
theorem dX11_init_141 : decode cX11_init 141 = .ok (.iload_n 1, 1) := by decide +kernel
theorem dX11_init_142 : decode cX11_init 142 = .ok (.aload_n 0, 1) := by decide +kernel
theorem dX11_init_143 : decode cX11_init 143 = .ok (.getfield 34, 3) := by decide +kernel
theorem dX11_init_146 : decode cX11_init 146 = .ok (.arraylength, 1) := by decide +kernel
theorem dX11_init_147 : decode cX11_init 147 = .ok (.if_icmp .ge 22, 3) := by decide +kernel
theorem dX11_init_150 : decode cX11_init 150 = .ok (.aload_n 0, 1) := by decide +kernel
theorem dX11_init_151 : decode cX11_init 151 = .ok (.getfield 34, 3) := by decide +kernel
theorem dX11_init_154 : decode cX11_init 154 = .ok (.iload_n 1, 1) := by decide +kernel
theorem dX11_init_155 : decode cX11_init 155 = .ok (.new 32, 3) := by decide +kernel
theorem dX11_init_158 : decode cX11_init 158 = .ok (.dup, 1) := by decide +kernel
theorem dX11_init_159 : decode cX11_init 159 = .ok (.invokespecial 85, 3) := by decide +kernel
theorem dX11_init_162 : decode cX11_init 162 = .ok (.aastore, 1) := by decide +kernel
theorem dX11_init_163 : decode cX11_init 163 = .ok (.iinc 1 1, 3) := by decide +kernel
theorem dX11_init_166 : decode cX11_init 166 = .ok (.goto (-25), 3) := by decide +kernel
theorem dX11_init_169 : decode cX11_init 169 = .ok (.iconst 0, 1) := by decide +kernel
theorem dX11_init_170 : decode cX11_init 170 = .ok (.istore_n 1, 1) := by decide +kernel
theorem dX11_init_171 : decode cX11_init 171 = .ok (.iload_n 1, 1) := by decide +kernel
theorem dX11_init_172 : decode cX11_init 172 = .ok (.aload_n 0, 1) := by decide +kernel
theorem dX11_init_173 : decode cX11_init 173 = .ok (.getfield 40, 3) := by decide +kernel
theorem dX11_init_176 : decode cX11_init 176 = .ok (.arraylength, 1) := by decide +kernel
theorem dX11_init_177 : decode cX11_init 177 = .ok (.if_icmp .ge 22, 3) := by decide +kernel
theorem dX11_init_180 : decode cX11_init 180 = .ok (.aload_n 0, 1) := by decide +kernel
theorem dX11_init_181 : decode cX11_init 181 = .ok (.getfield 40, 3) := by decide +kernel
theorem dX11_init_184 : decode cX11_init 184 = .ok (.iload_n 1, 1) := by decide +kernel
theorem dX11_init_185 : decode cX11_init 185 = .ok (.new 38, 3) := by decide +kernel
theorem dX11_init_188 : decode cX11_init 188 = .ok (.dup, 1) := by decide +kernel
theorem dX11_init_189 : decode cX11_init 189 = .ok (.invokespecial 86, 3) := by decide +kernel
theorem dX11_init_192 : decode cX11_init 192 = .ok (.aastore, 1) := by decide +kernel
theorem dX11_init_193 : decode cX11_init 193 = .ok (.iinc 1 1, 3) := by decide +kernel
theorem dX11_init_196 : decode cX11_init 196 = .ok (.goto (-25), 3) := by decide +kernel
theorem dX11_init_199 : decode cX11_init 199 = .ok (.iconst 0, 1) := by decide +kernel
theorem dX11_init_200 : decode cX11_init 200 = .ok (.istore_n 1, 1) := by decide +kernel
theorem dX11_init_201 : decode cX11_init 201 = .ok (.iload_n 1, 1) := by decide +kernel
theorem dX11_init_202 : decode cX11_init 202 = .ok (.aload_n 0, 1) := by decide +kernel
theorem dX11_init_203 : decode cX11_init 203 = .ok (.getfield 67, 3) := by decide +kernel
theorem dX11_init_206 : decode cX11_init 206 = .ok (.arraylength, 1) := by decide +kernel
theorem dX11_init_207 : decode cX11_init 207 = .ok (.if_icmp .ge 22, 3) := by decide +kernel
theorem dX11_init_210 : decode cX11_init 210 = .ok (.aload_n 0, 1) := by decide +kernel
theorem dX11_init_211 : decode cX11_init 211 = .ok (.getfield 67, 3) := by decide +kernel
theorem dX11_init_214 : decode cX11_init 214 = .ok (.iload_n 1, 1) := by decide +kernel
theorem dX11_init_215 : decode cX11_init 215 = .ok (.new 65, 3) := by decide +kernel
theorem dX11_init_218 : decode cX11_init 218 = .ok (.dup, 1) := by decide +kernel
theorem dX11_init_219 : decode cX11_init 219 = .ok (.invokespecial 87, 3) := by decide +kernel
theorem dX11_init_222 : decode cX11_init 222 = .ok (.aastore, 1) := by decide +kernel
theorem dX11_init_223 : decode cX11_init 223 = .ok (.iinc 1 1, 3) := by decide +kernel
theorem dX11_init_226 : decode cX11_init 226 = .ok (.goto (-25), 3) := by decide +kernel
theorem dX11_init_229 : decode cX11_init 229 = .ok (.iconst 0, 1) := by decide +kernel
theorem dX11_init_230 : decode cX11_init 230 = .ok (.istore_n 1, 1) := by decide +kernel
theorem dX11_init_231 : decode cX11_init 231 = .ok (.iload_n 1, 1) := by decide +kernel
theorem dX11_init_232 : decode cX11_init 232 = .ok (.aload_n 0, 1) := by decide +kernel
theorem dX11_init_233 : decode cX11_init 233 = .ok (.getfield 80, 3) := by decide +kernel
theorem dX11_init_236 : decode cX11_init 236 = .ok (.arraylength, 1) := by decide +kernel
theorem dX11_init_237 : decode cX11_init 237 = .ok (.if_icmp .ge 22, 3) := by decide +kernel
theorem dX11_init_240 : decode cX11_init 240 = .ok (.aload_n 0, 1) := by decide +kernel
theorem dX11_init_241 : decode cX11_init 241 = .ok (.getfield 80, 3) := by decide +kernel
theorem dX11_init_244 : decode cX11_init 244 = .ok (.iload_n 1, 1) := by decide +kernel
theorem dX11_init_245 : decode cX11_init 245 = .ok (.new 78, 3) := by decide +kernel
theorem dX11_init_248 : decode cX11_init 248 = .ok (.dup, 1) := by decide +kernel
theorem dX11_init_249 : decode cX11_init 249 = .ok (.invokespecial 88, 3) := by decide +kernel
theorem dX11_init_252 : decode cX11_init 252 = .ok (.aastore, 1) := by decide +kernel
theorem dX11_init_253 : decode cX11_init 253 = .ok (.iinc 1 1, 3) := by decide +kernel
theorem dX11_init_256 : decode cX11_init 256 = .ok (.goto (-25), 3) := by decide +kernel
theorem dX11_init_259 : decode cX11_init 259 = .ok (.return_, 1) := by decide +kernel
def is_X11_init (Rt : np_Rt) : List (Nat × np_Op) := [(0, np_ald 1 0), (1, np_oinit), (4, np_ald 1 0), (5, nq_new 2 5 [.null, .null, .null, .null, .int 0] 1495 26209), (8, nq_dup), (9, nq_callI 1 sp_X2_init 1 4 56 1495 26209), (12, nq_putf 11 0 (.object "NotationPress$Items")), (15, np_ald 1 0), (16, np_push 2 (.int 6)), (18, np_anew "NotationPress$Description" 6 1495 26209), (21, nq_putf 11 1 (.array (.object "NotationPress$Description"))), (24, np_ald 1 0), (25, nq_call 0 sp_X11_emptyCells 1 1 24 1495 26209), (28, nq_putf 11 3 (.array .int)), (31, np_ald 1 0), (32, np_push 1 (.int 2)), (33, np_anew "NotationPress$Text" 2 1495 26209), (36, nq_putf 11 4 (.array (.object "NotationPress$Text"))), (39, np_ald 1 0), (40, np_push 1 (.int 2)), (41, np_anew "NotationPress$Table" 2 1495 26209), (44, nq_putf 11 5 (.array (.object "NotationPress$Table"))), (47, np_ald 1 0), (48, nq_new 3 3 [.null, .null, .null] 1495 26209), (51, nq_dup), (52, nq_callI 1 (np_spF np_bX3_init) 1 5 109 1495 26209), (55, nq_putf 11 6 (.object "NotationPress$Printer")), (58, np_ald 1 0), (59, nq_new 4 11 [.null, .null, .null, .null, .null, .null, .null, .int 0, .int 0, .int 0, .int 0] 1495 26209), (62, nq_dup), (63, nq_callI 1 (np_spF np_bX4_init) 2 1235 17519 1495 26209), (66, nq_putf 11 7 (.object "NotationPress$Reader")), (69, np_ald 1 0), (70, nq_new 5 5 [.null, .null, .null, .int 0, .int 0] 1495 26209), (73, nq_dup), (74, nq_callI 1 (np_spF np_bX5_init) 2 81 1144 1495 26209), (77, nq_putf 11 8 (.object "NotationPress$Sampler")), (80, np_ald 1 0), (81, np_push 2 (.int 6)), (83, np_anew "NotationPress$Column" 6 1495 26209), (86, nq_putf 11 9 (.array (.object "NotationPress$Column"))), (89, np_ald 1 0), (90, nq_new 10 3 [.null, .null, .null] 1495 26209), (93, nq_dup), (94, nq_callI 1 sp_X10_init 1 3 24 1495 26209), (97, nq_putf 11 11 (.object "NotationPress$UpgradeDraft")), (100, np_ald 1 0), (101, np_push 2 (.int 8)), (103, np_anew "NotationPress$Upgrade" 8 1495 26209), (106, nq_putf 11 12 (.array (.object "NotationPress$Upgrade"))), (109, np_push 1 (.int 0)), (110, np_ist 1 1), (111, np_ild 1 1), (112, np_ald 1 0), (113, nq_getf 11 1), (116, np_alen), (117, nq_ic (fun x y => y ≤ x) 139), (120, np_ald 1 0), (121, nq_getf 11 1), (124, np_ild 1 1), (125, nq_new 1 7 [.null, .null, .null, .null, .null, .null, .int 0] 1495 26209), (128, nq_dup), (129, nq_callI 1 sp_X1_init 1 10 101 1495 26209), (132, np_aast 1 RX1), (133, np_iinc 1 1), (136, np_goto 111), (139, np_push 1 (.int 0)), (140, np_ist 1 1), (141, np_ild 1 1), (142, np_ald 1 0), (143, nq_getf 11 4), (146, np_alen), (147, nq_ic (fun x y => y ≤ x) 169), (150, np_ald 1 0), (151, nq_getf 11 4), (154, np_ild 1 1), (155, nq_new 7 3 [.null, .int 0, .int 0] 1495 26209), (158, nq_dup), (159, nq_callI 1 sp_X7_init 1 1 300 1495 26209), (162, np_aast 7 RX7), (163, np_iinc 1 1), (166, np_goto 141), (169, np_push 1 (.int 0)), (170, np_ist 1 1), (171, np_ild 1 1), (172, np_ald 1 0), (173, nq_getf 11 5), (176, np_alen), (177, nq_ic (fun x y => y ≤ x) 199), (180, np_ald 1 0), (181, nq_getf 11 5), (184, np_ild 1 1), (185, nq_new 6 12 [.null, .null, .null, .null, .null, .null, .int 0, .int 0, .int 0, .int 0, .int 0, .int 0] 1495 26209), (188, nq_dup), (189, nq_callI 1 sp_X6_init 1 5 1580 1495 26209), (192, np_aast 6 RX6), (193, np_iinc 1 1), (196, np_goto 171), (199, np_push 1 (.int 0)), (200, np_ist 1 1), (201, np_ild 1 1), (202, np_ald 1 0), (203, nq_getf 11 9), (206, np_alen), (207, nq_ic (fun x y => y ≤ x) 229), (210, np_ald 1 0), (211, nq_getf 11 9), (214, np_ild 1 1), (215, nq_new 0 6 [.null, .null, .null, .int 0, .int 0, .int 0] 1495 26209), (218, nq_dup), (219, nq_callI 1 sp_X0_init 1 2 48 1495 26209), (222, np_aast 0 RX0), (223, np_iinc 1 1), (226, np_goto 201), (229, np_push 1 (.int 0)), (230, np_ist 1 1), (231, np_ild 1 1), (232, np_ald 1 0), (233, nq_getf 11 12), (236, np_alen), (237, nq_ic (fun x y => y ≤ x) 259), (240, np_ald 1 0), (241, nq_getf 11 12), (244, np_ild 1 1), (245, nq_new 9 7 [.null, .null, .null, .null, .null, .null, .int 0] 1495 26209), (248, nq_dup), (249, nq_callI 1 sp_X9_init 1 6 308 1495 26209), (252, np_aast 9 RX9), (253, np_iinc 1 1), (256, np_goto 231), (259, np_ret Rt)]
set_option maxRecDepth 20000 in
theorem so_X11_init {X : np_Ctx} {Rt : np_Rt} (hX : np_ok RX11 cX11_init 2 4 83 1495 26209 .return_ X) (hmn : np_mn X = "<init>") (hR : ∀ st w ce sl, Rt st w ce sl → X.2.2.1 st w ce sl) : ∀ q ∈ is_X11_init Rt, np_S X q.1 q.2 :=
  List.forall_mem_cons.mpr ⟨np_s_aload_n hX dX11_init_0 rfl, List.forall_mem_cons.mpr ⟨np_s_oinit hX dX11_init_1 gw156 gw157 gw158 (by decide) (by decide), List.forall_mem_cons.mpr ⟨np_s_aload_n hX dX11_init_4 rfl, List.forall_mem_cons.mpr ⟨np_S.mono (op := np_new 2 5 [.null, .null, .null, .null, .int 0] 1495 26209) (np_s_new hX dX11_init_5 (C := RX2) (T := TX2) (ty0 := tyX2) rfl guX2 tyX2_ok gw159 gw160 gw131 ndX2 nfX2) nq_new_le, List.forall_mem_cons.mpr ⟨np_S.mono (op := np_dup) (np_s_dup hX dX11_init_8) nq_dup_le, List.forall_mem_cons.mpr ⟨np_S.mono (op := np_callI 1 sp_X2_init 1 4 56 1495 26209) (np_s_callIN hX C_X2_init dX11_init_9 rfl gw163 gw131 gw161 gw162 ⟨by decide, by decide, by decide⟩ (by decide) (by decide)) nq_callI_le, List.forall_mem_cons.mpr ⟨np_S.mono (op := np_putf 11 0 (.object "NotationPress$Items")) (np_s_putF hX dX11_init_12 hmn (C := RX11) (T := TX11) (N := 14) (ty0 := tyX11) rfl guX11 tyX11_ok nmX11 (by decide) gw506 rfl rfl rfl) nq_putf_le, List.forall_mem_cons.mpr ⟨np_s_aload_n hX dX11_init_15 rfl, List.forall_mem_cons.mpr ⟨np_s_bipush hX dX11_init_16 (by decide), List.forall_mem_cons.mpr ⟨np_s_anew hX dX11_init_18 gw184 (by decide) (by decide) (by decide), List.forall_mem_cons.mpr ⟨np_S.mono (op := np_putf 11 1 (.array (.object "NotationPress$Description"))) (np_s_putF hX dX11_init_21 hmn (C := RX11) (T := TX11) (N := 14) (ty0 := tyX11) rfl guX11 tyX11_ok nmX11 (by decide) gw507 rfl rfl rfl) nq_putf_le, List.forall_mem_cons.mpr ⟨np_s_aload_n hX dX11_init_24 rfl, List.forall_mem_cons.mpr ⟨np_S.mono (op := np_call 0 sp_X11_emptyCells 1 1 24 1495 26209) (np_s_callS hX C_X11_emptyCells dX11_init_25 gw188 gw130 gw186 gw187 ⟨by decide, by decide, by decide⟩ (by decide) (by decide)) nq_call_le, List.forall_mem_cons.mpr ⟨np_S.mono (op := np_putf 11 3 (.array .int)) (np_s_putF hX dX11_init_28 hmn (C := RX11) (T := TX11) (N := 14) (ty0 := tyX11) rfl guX11 tyX11_ok nmX11 (by decide) gw509 rfl rfl rfl) nq_putf_le, List.forall_mem_cons.mpr ⟨np_s_aload_n hX dX11_init_31 rfl, List.forall_mem_cons.mpr ⟨np_s_iconst hX dX11_init_32 (by decide), List.forall_mem_cons.mpr ⟨np_s_anew hX dX11_init_33 gw193 (by decide) (by decide) (by decide), List.forall_mem_cons.mpr ⟨np_S.mono (op := np_putf 11 4 (.array (.object "NotationPress$Text"))) (np_s_putF hX dX11_init_36 hmn (C := RX11) (T := TX11) (N := 14) (ty0 := tyX11) rfl guX11 tyX11_ok nmX11 (by decide) gw510 rfl rfl rfl) nq_putf_le, List.forall_mem_cons.mpr ⟨np_s_aload_n hX dX11_init_39 rfl, List.forall_mem_cons.mpr ⟨np_s_iconst hX dX11_init_40 (by decide), List.forall_mem_cons.mpr ⟨np_s_anew hX dX11_init_41 gw195 (by decide) (by decide) (by decide), List.forall_mem_cons.mpr ⟨np_S.mono (op := np_putf 11 5 (.array (.object "NotationPress$Table"))) (np_s_putF hX dX11_init_44 hmn (C := RX11) (T := TX11) (N := 14) (ty0 := tyX11) rfl guX11 tyX11_ok nmX11 (by decide) gw511 rfl rfl rfl) nq_putf_le, List.forall_mem_cons.mpr ⟨np_s_aload_n hX dX11_init_47 rfl, List.forall_mem_cons.mpr ⟨np_S.mono (op := np_new 3 3 [.null, .null, .null] 1495 26209) (np_s_new hX dX11_init_48 (C := RX3) (T := TX3) (ty0 := tyX3) rfl guX3 tyX3_ok gw197 gw198 gw132 ndX3 nfX3) nq_new_le, List.forall_mem_cons.mpr ⟨np_S.mono (op := np_dup) (np_s_dup hX dX11_init_51) nq_dup_le, List.forall_mem_cons.mpr ⟨np_S.mono (op := np_callI 1 (np_spF np_bX3_init) 1 5 109 1495 26209) (np_s_callIN hX C_X3_init dX11_init_52 rfl gw201 gw132 gw199 gw200 ⟨by decide, by decide, by decide⟩ (by decide) (by decide)) nq_callI_le, List.forall_mem_cons.mpr ⟨np_S.mono (op := np_putf 11 6 (.object "NotationPress$Printer")) (np_s_putF hX dX11_init_55 hmn (C := RX11) (T := TX11) (N := 14) (ty0 := tyX11) rfl guX11 tyX11_ok nmX11 (by decide) gw512 rfl rfl rfl) nq_putf_le, List.forall_mem_cons.mpr ⟨np_s_aload_n hX dX11_init_58 rfl, List.forall_mem_cons.mpr ⟨np_S.mono (op := np_new 4 11 [.null, .null, .null, .null, .null, .null, .null, .int 0, .int 0, .int 0, .int 0] 1495 26209) (np_s_new hX dX11_init_59 (C := RX4) (T := TX4) (ty0 := tyX4) rfl guX4 tyX4_ok gw257 gw258 gw134 ndX4 nfX4) nq_new_le, List.forall_mem_cons.mpr ⟨np_S.mono (op := np_dup) (np_s_dup hX dX11_init_62) nq_dup_le, List.forall_mem_cons.mpr ⟨np_S.mono (op := np_callI 1 (np_spF np_bX4_init) 2 1235 17519 1495 26209) (np_s_callI hX C_X4_init dX11_init_63 rfl gw261 gw134 gw259 gw260 ⟨by decide, by decide, by decide⟩ (by decide) (by decide)) nq_callI_le, List.forall_mem_cons.mpr ⟨np_S.mono (op := np_putf 11 7 (.object "NotationPress$Reader")) (np_s_putF hX dX11_init_66 hmn (C := RX11) (T := TX11) (N := 14) (ty0 := tyX11) rfl guX11 tyX11_ok nmX11 (by decide) gw513 rfl rfl rfl) nq_putf_le, List.forall_mem_cons.mpr ⟨np_s_aload_n hX dX11_init_69 rfl, List.forall_mem_cons.mpr ⟨np_S.mono (op := np_new 5 5 [.null, .null, .null, .int 0, .int 0] 1495 26209) (np_s_new hX dX11_init_70 (C := RX5) (T := TX5) (ty0 := tyX5) rfl guX5 tyX5_ok gw323 gw324 gw136 ndX5 nfX5) nq_new_le, List.forall_mem_cons.mpr ⟨np_S.mono (op := np_dup) (np_s_dup hX dX11_init_73) nq_dup_le, List.forall_mem_cons.mpr ⟨np_S.mono (op := np_callI 1 (np_spF np_bX5_init) 2 81 1144 1495 26209) (np_s_callI hX C_X5_init dX11_init_74 rfl gw327 gw136 gw325 gw326 ⟨by decide, by decide, by decide⟩ (by decide) (by decide)) nq_callI_le, List.forall_mem_cons.mpr ⟨np_S.mono (op := np_putf 11 8 (.object "NotationPress$Sampler")) (np_s_putF hX dX11_init_77 hmn (C := RX11) (T := TX11) (N := 14) (ty0 := tyX11) rfl guX11 tyX11_ok nmX11 (by decide) gw514 rfl rfl rfl) nq_putf_le, List.forall_mem_cons.mpr ⟨np_s_aload_n hX dX11_init_80 rfl, List.forall_mem_cons.mpr ⟨np_s_bipush hX dX11_init_81 (by decide), List.forall_mem_cons.mpr ⟨np_s_anew hX dX11_init_83 gw347 (by decide) (by decide) (by decide), List.forall_mem_cons.mpr ⟨np_S.mono (op := np_putf 11 9 (.array (.object "NotationPress$Column"))) (np_s_putF hX dX11_init_86 hmn (C := RX11) (T := TX11) (N := 14) (ty0 := tyX11) rfl guX11 tyX11_ok nmX11 (by decide) gw515 rfl rfl rfl) nq_putf_le, List.forall_mem_cons.mpr ⟨np_s_aload_n hX dX11_init_89 rfl, List.forall_mem_cons.mpr ⟨np_S.mono (op := np_new 10 3 [.null, .null, .null] 1495 26209) (np_s_new hX dX11_init_90 (C := RX10) (T := TX10) (ty0 := tyX10) rfl guX10 tyX10_ok gw349 gw350 gw137 ndX10 nfX10) nq_new_le, List.forall_mem_cons.mpr ⟨np_S.mono (op := np_dup) (np_s_dup hX dX11_init_93) nq_dup_le, List.forall_mem_cons.mpr ⟨np_S.mono (op := np_callI 1 sp_X10_init 1 3 24 1495 26209) (np_s_callI hX C_X10_init dX11_init_94 rfl gw353 gw137 gw351 gw352 ⟨by decide, by decide, by decide⟩ (by decide) (by decide)) nq_callI_le, List.forall_mem_cons.mpr ⟨np_S.mono (op := np_putf 11 11 (.object "NotationPress$UpgradeDraft")) (np_s_putF hX dX11_init_97 hmn (C := RX11) (T := TX11) (N := 14) (ty0 := tyX11) rfl guX11 tyX11_ok nmX11 (by decide) gw517 rfl rfl rfl) nq_putf_le, List.forall_mem_cons.mpr ⟨np_s_aload_n hX dX11_init_100 rfl, List.forall_mem_cons.mpr ⟨np_s_bipush hX dX11_init_101 (by decide), List.forall_mem_cons.mpr ⟨np_s_anew hX dX11_init_103 gw369 (by decide) (by decide) (by decide), List.forall_mem_cons.mpr ⟨np_S.mono (op := np_putf 11 12 (.array (.object "NotationPress$Upgrade"))) (np_s_putF hX dX11_init_106 hmn (C := RX11) (T := TX11) (N := 14) (ty0 := tyX11) rfl guX11 tyX11_ok nmX11 (by decide) gw518 rfl rfl rfl) nq_putf_le, List.forall_mem_cons.mpr ⟨np_s_iconst hX dX11_init_109 (by decide), List.forall_mem_cons.mpr ⟨np_s_istore_n hX dX11_init_110 rfl (by decide), List.forall_mem_cons.mpr ⟨np_s_iload_n hX dX11_init_111 rfl, List.forall_mem_cons.mpr ⟨np_s_aload_n hX dX11_init_112 rfl, List.forall_mem_cons.mpr ⟨np_S.mono (op := np_getf 11 1) (np_s_getf hX dX11_init_113 (C := RX11) (T := TX11) (N := 14) rfl guX11 (by decide) gw507) nq_getf_le, List.forall_mem_cons.mpr ⟨np_s_alen hX dX11_init_116, List.forall_mem_cons.mpr ⟨np_S.mono (op := np_ic (fun x y => y ≤ x) 139) (np_s_icmp_ge hX dX11_init_117 (by decide)) nq_ic_le, List.forall_mem_cons.mpr ⟨np_s_aload_n hX dX11_init_120 rfl, List.forall_mem_cons.mpr ⟨np_S.mono (op := np_getf 11 1) (np_s_getf hX dX11_init_121 (C := RX11) (T := TX11) (N := 14) rfl guX11 (by decide) gw507) nq_getf_le, List.forall_mem_cons.mpr ⟨np_s_iload_n hX dX11_init_124 rfl, List.forall_mem_cons.mpr ⟨np_S.mono (op := np_new 1 7 [.null, .null, .null, .null, .null, .null, .int 0] 1495 26209) (np_s_new hX dX11_init_125 (C := RX1) (T := TX1) (ty0 := tyX1) rfl guX1 tyX1_ok gw184 gw371 gw138 ndX1 nfX1) nq_new_le, List.forall_mem_cons.mpr ⟨np_S.mono (op := np_dup) (np_s_dup hX dX11_init_128) nq_dup_le, List.forall_mem_cons.mpr ⟨np_S.mono (op := np_callI 1 sp_X1_init 1 10 101 1495 26209) (np_s_callIN hX C_X1_init dX11_init_129 rfl gw374 gw138 gw372 gw373 ⟨by decide, by decide, by decide⟩ (by decide) (by decide)) nq_callI_le, List.forall_mem_cons.mpr ⟨np_s_aast hX (r0 := (RX1, TX1, 7)) rfl dX11_init_132, List.forall_mem_cons.mpr ⟨np_s_iinc hX dX11_init_133 (by decide), List.forall_mem_cons.mpr ⟨np_s_goto hX dX11_init_136 (by decide), List.forall_mem_cons.mpr ⟨np_s_iconst hX dX11_init_139 (by decide), List.forall_mem_cons.mpr ⟨np_s_istore_n hX dX11_init_140 rfl (by decide), List.forall_mem_cons.mpr ⟨np_s_iload_n hX dX11_init_141 rfl, List.forall_mem_cons.mpr ⟨np_s_aload_n hX dX11_init_142 rfl, List.forall_mem_cons.mpr ⟨np_S.mono (op := np_getf 11 4) (np_s_getf hX dX11_init_143 (C := RX11) (T := TX11) (N := 14) rfl guX11 (by decide) gw510) nq_getf_le, List.forall_mem_cons.mpr ⟨np_s_alen hX dX11_init_146, List.forall_mem_cons.mpr ⟨np_S.mono (op := np_ic (fun x y => y ≤ x) 169) (np_s_icmp_ge hX dX11_init_147 (by decide)) nq_ic_le, List.forall_mem_cons.mpr ⟨np_s_aload_n hX dX11_init_150 rfl, List.forall_mem_cons.mpr ⟨np_S.mono (op := np_getf 11 4) (np_s_getf hX dX11_init_151 (C := RX11) (T := TX11) (N := 14) rfl guX11 (by decide) gw510) nq_getf_le, List.forall_mem_cons.mpr ⟨np_s_iload_n hX dX11_init_154 rfl, List.forall_mem_cons.mpr ⟨np_S.mono (op := np_new 7 3 [.null, .int 0, .int 0] 1495 26209) (np_s_new hX dX11_init_155 (C := RX7) (T := TX7) (ty0 := tyX7) rfl guX7 tyX7_ok gw193 gw269 gw135 ndX7 nfX7) nq_new_le, List.forall_mem_cons.mpr ⟨np_S.mono (op := np_dup) (np_s_dup hX dX11_init_158) nq_dup_le, List.forall_mem_cons.mpr ⟨np_S.mono (op := np_callI 1 sp_X7_init 1 1 300 1495 26209) (np_s_callIN hX C_X7_init dX11_init_159 rfl gw272 gw135 gw403 gw271 ⟨by decide, by decide, by decide⟩ (by decide) (by decide)) nq_callI_le, List.forall_mem_cons.mpr ⟨np_s_aast hX (r0 := (RX7, TX7, 3)) rfl dX11_init_162, List.forall_mem_cons.mpr ⟨np_s_iinc hX dX11_init_163 (by decide), List.forall_mem_cons.mpr ⟨np_s_goto hX dX11_init_166 (by decide), List.forall_mem_cons.mpr ⟨np_s_iconst hX dX11_init_169 (by decide), List.forall_mem_cons.mpr ⟨np_s_istore_n hX dX11_init_170 rfl (by decide), List.forall_mem_cons.mpr ⟨np_s_iload_n hX dX11_init_171 rfl, List.forall_mem_cons.mpr ⟨np_s_aload_n hX dX11_init_172 rfl, List.forall_mem_cons.mpr ⟨np_S.mono (op := np_getf 11 5) (np_s_getf hX dX11_init_173 (C := RX11) (T := TX11) (N := 14) rfl guX11 (by decide) gw511) nq_getf_le, List.forall_mem_cons.mpr ⟨np_s_alen hX dX11_init_176, List.forall_mem_cons.mpr ⟨np_S.mono (op := np_ic (fun x y => y ≤ x) 199) (np_s_icmp_ge hX dX11_init_177 (by decide)) nq_ic_le, List.forall_mem_cons.mpr ⟨np_s_aload_n hX dX11_init_180 rfl, List.forall_mem_cons.mpr ⟨np_S.mono (op := np_getf 11 5) (np_s_getf hX dX11_init_181 (C := RX11) (T := TX11) (N := 14) rfl guX11 (by decide) gw511) nq_getf_le, List.forall_mem_cons.mpr ⟨np_s_iload_n hX dX11_init_184 rfl, List.forall_mem_cons.mpr ⟨np_S.mono (op := np_new 6 12 [.null, .null, .null, .null, .null, .null, .int 0, .int 0, .int 0, .int 0, .int 0, .int 0] 1495 26209) (np_s_new hX dX11_init_185 (C := RX6) (T := TX6) (ty0 := tyX6) rfl guX6 tyX6_ok gw195 gw404 gw139 ndX6 nfX6) nq_new_le, List.forall_mem_cons.mpr ⟨np_S.mono (op := np_dup) (np_s_dup hX dX11_init_188) nq_dup_le, List.forall_mem_cons.mpr ⟨np_S.mono (op := np_callI 1 sp_X6_init 1 5 1580 1495 26209) (np_s_callI hX C_X6_init dX11_init_189 rfl gw407 gw139 gw405 gw406 ⟨by decide, by decide, by decide⟩ (by decide) (by decide)) nq_callI_le, List.forall_mem_cons.mpr ⟨np_s_aast hX (r0 := (RX6, TX6, 12)) rfl dX11_init_192, List.forall_mem_cons.mpr ⟨np_s_iinc hX dX11_init_193 (by decide), List.forall_mem_cons.mpr ⟨np_s_goto hX dX11_init_196 (by decide), List.forall_mem_cons.mpr ⟨np_s_iconst hX dX11_init_199 (by decide), List.forall_mem_cons.mpr ⟨np_s_istore_n hX dX11_init_200 rfl (by decide), List.forall_mem_cons.mpr ⟨np_s_iload_n hX dX11_init_201 rfl, List.forall_mem_cons.mpr ⟨np_s_aload_n hX dX11_init_202 rfl, List.forall_mem_cons.mpr ⟨np_S.mono (op := np_getf 11 9) (np_s_getf hX dX11_init_203 (C := RX11) (T := TX11) (N := 14) rfl guX11 (by decide) gw515) nq_getf_le, List.forall_mem_cons.mpr ⟨np_s_alen hX dX11_init_206, List.forall_mem_cons.mpr ⟨np_S.mono (op := np_ic (fun x y => y ≤ x) 229) (np_s_icmp_ge hX dX11_init_207 (by decide)) nq_ic_le, List.forall_mem_cons.mpr ⟨np_s_aload_n hX dX11_init_210 rfl, List.forall_mem_cons.mpr ⟨np_S.mono (op := np_getf 11 9) (np_s_getf hX dX11_init_211 (C := RX11) (T := TX11) (N := 14) rfl guX11 (by decide) gw515) nq_getf_le, List.forall_mem_cons.mpr ⟨np_s_iload_n hX dX11_init_214 rfl, List.forall_mem_cons.mpr ⟨np_S.mono (op := np_new 0 6 [.null, .null, .null, .int 0, .int 0, .int 0] 1495 26209) (np_s_new hX dX11_init_215 (C := RX0) (T := TX0) (ty0 := tyX0) rfl guX0 tyX0_ok gw347 gw454 gw140 ndX0 nfX0) nq_new_le, List.forall_mem_cons.mpr ⟨np_S.mono (op := np_dup) (np_s_dup hX dX11_init_218) nq_dup_le, List.forall_mem_cons.mpr ⟨np_S.mono (op := np_callI 1 sp_X0_init 1 2 48 1495 26209) (np_s_callIN hX C_X0_init dX11_init_219 rfl gw457 gw140 gw455 gw456 ⟨by decide, by decide, by decide⟩ (by decide) (by decide)) nq_callI_le, List.forall_mem_cons.mpr ⟨np_s_aast hX (r0 := (RX0, TX0, 6)) rfl dX11_init_222, List.forall_mem_cons.mpr ⟨np_s_iinc hX dX11_init_223 (by decide), List.forall_mem_cons.mpr ⟨np_s_goto hX dX11_init_226 (by decide), List.forall_mem_cons.mpr ⟨np_s_iconst hX dX11_init_229 (by decide), List.forall_mem_cons.mpr ⟨np_s_istore_n hX dX11_init_230 rfl (by decide), List.forall_mem_cons.mpr ⟨np_s_iload_n hX dX11_init_231 rfl, List.forall_mem_cons.mpr ⟨np_s_aload_n hX dX11_init_232 rfl, List.forall_mem_cons.mpr ⟨np_S.mono (op := np_getf 11 12) (np_s_getf hX dX11_init_233 (C := RX11) (T := TX11) (N := 14) rfl guX11 (by decide) gw518) nq_getf_le, List.forall_mem_cons.mpr ⟨np_s_alen hX dX11_init_236, List.forall_mem_cons.mpr ⟨np_S.mono (op := np_ic (fun x y => y ≤ x) 259) (np_s_icmp_ge hX dX11_init_237 (by decide)) nq_ic_le, List.forall_mem_cons.mpr ⟨np_s_aload_n hX dX11_init_240 rfl, List.forall_mem_cons.mpr ⟨np_S.mono (op := np_getf 11 12) (np_s_getf hX dX11_init_241 (C := RX11) (T := TX11) (N := 14) rfl guX11 (by decide) gw518) nq_getf_le, List.forall_mem_cons.mpr ⟨np_s_iload_n hX dX11_init_244 rfl, List.forall_mem_cons.mpr ⟨np_S.mono (op := np_new 9 7 [.null, .null, .null, .null, .null, .null, .int 0] 1495 26209) (np_s_new hX dX11_init_245 (C := RX9) (T := TX9) (ty0 := tyX9) rfl guX9 tyX9_ok gw369 gw478 gw141 ndX9 nfX9) nq_new_le, List.forall_mem_cons.mpr ⟨np_S.mono (op := np_dup) (np_s_dup hX dX11_init_248) nq_dup_le, List.forall_mem_cons.mpr ⟨np_S.mono (op := np_callI 1 sp_X9_init 1 6 308 1495 26209) (np_s_callIN hX C_X9_init dX11_init_249 rfl gw481 gw141 gw479 gw480 ⟨by decide, by decide, by decide⟩ (by decide) (by decide)) nq_callI_le, List.forall_mem_cons.mpr ⟨np_s_aast hX (r0 := (RX9, TX9, 7)) rfl dX11_init_252, List.forall_mem_cons.mpr ⟨np_s_iinc hX dX11_init_253 (by decide), List.forall_mem_cons.mpr ⟨np_s_goto hX dX11_init_256 (by decide), List.forall_mem_cons.mpr ⟨np_S.mono (op := np_ret X.2.2.1) (np_s_ret hX dX11_init_259) (nq_ret_le hR), fun _ h => nomatch h⟩⟩⟩⟩⟩⟩⟩⟩⟩⟩⟩⟩⟩⟩⟩⟩⟩⟩⟩⟩⟩⟩⟩⟩⟩⟩⟩⟩⟩⟩⟩⟩⟩⟩⟩⟩⟩⟩⟩⟩⟩⟩⟩⟩⟩⟩⟩⟩⟩⟩⟩⟩⟩⟩⟩⟩⟩⟩⟩⟩⟩⟩⟩⟩⟩⟩⟩⟩⟩⟩⟩⟩⟩⟩⟩⟩⟩⟩⟩⟩⟩⟩⟩⟩⟩⟩⟩⟩⟩⟩⟩⟩⟩⟩⟩⟩⟩⟩⟩⟩⟩⟩⟩⟩⟩⟩⟩⟩⟩⟩⟩⟩⟩⟩⟩⟩⟩⟩⟩⟩⟩⟩⟩⟩⟩⟩⟩⟩⟩⟩⟩
abbrev sp_X11_init : np_Sp := nq_in is_X11_init none 1495 26209 700
theorem C_X11_init : np_C yX11_init cX11_init 2 none 4 83 1495 26209 sp_X11_init := nq_inC 700 (by decide) (fun X Rt hX hmn hR => so_X11_init hX hmn hR)
theorem dX12_init_0 : decode cX12_init 0 = .ok (.aload_n 0, 1) := by decide +kernel
theorem dX12_init_1 : decode cX12_init 1 = .ok (.invokespecial 1, 3) := by decide +kernel
theorem dX12_init_4 : decode cX12_init 4 = .ok (.aload_n 0, 1) := by decide +kernel
theorem dX12_init_5 : decode cX12_init 5 = .ok (.bipush 14, 2) := by decide +kernel
theorem dX12_init_7 : decode cX12_init 7 = .ok (.newarray .int, 2) := by decide +kernel
theorem dX12_init_9 : decode cX12_init 9 = .ok (.putfield 7, 3) := by decide +kernel
theorem dX12_init_12 : decode cX12_init 12 = .ok (.aload_n 0, 1) := by decide +kernel
theorem dX12_init_13 : decode cX12_init 13 = .ok (.bipush 14, 2) := by decide +kernel
theorem dX12_init_15 : decode cX12_init 15 = .ok (.newarray .int, 2) := by decide +kernel
theorem dX12_init_17 : decode cX12_init 17 = .ok (.putfield 13, 3) := by decide +kernel
theorem dX12_init_20 : decode cX12_init 20 = .ok (.aload_n 0, 1) := by decide +kernel
theorem dX12_init_21 : decode cX12_init 21 = .ok (.bipush 14, 2) := by decide +kernel
theorem dX12_init_23 : decode cX12_init 23 = .ok (.newarray .int, 2) := by decide +kernel
theorem dX12_init_25 : decode cX12_init 25 = .ok (.putfield 16, 3) := by decide +kernel
theorem dX12_init_28 : decode cX12_init 28 = .ok (.aload_n 0, 1) := by decide +kernel
theorem dX12_init_29 : decode cX12_init 29 = .ok (.bipush 14, 2) := by decide +kernel
theorem dX12_init_31 : decode cX12_init 31 = .ok (.newarray .int, 2) := by decide +kernel
theorem dX12_init_33 : decode cX12_init 33 = .ok (.putfield 19, 3) := by decide +kernel
theorem dX12_init_36 : decode cX12_init 36 = .ok (.aload_n 0, 1) := by decide +kernel
theorem dX12_init_37 : decode cX12_init 37 = .ok (.bipush 6, 2) := by decide +kernel
theorem dX12_init_39 : decode cX12_init 39 = .ok (.newarray .int, 2) := by decide +kernel
theorem dX12_init_41 : decode cX12_init 41 = .ok (.putfield 22, 3) := by decide +kernel
theorem dX12_init_44 : decode cX12_init 44 = .ok (.aload_n 0, 1) := by decide +kernel
theorem dX12_init_45 : decode cX12_init 45 = .ok (.bipush 84, 2) := by decide +kernel
theorem dX12_init_47 : decode cX12_init 47 = .ok (.newarray .int, 2) := by decide +kernel
theorem dX12_init_49 : decode cX12_init 49 = .ok (.putfield 25, 3) := by decide +kernel
theorem dX12_init_52 : decode cX12_init 52 = .ok (.aload_n 0, 1) := by decide +kernel
theorem dX12_init_53 : decode cX12_init 53 = .ok (.bipush 84, 2) := by decide +kernel
theorem dX12_init_55 : decode cX12_init 55 = .ok (.newarray .int, 2) := by decide +kernel
theorem dX12_init_57 : decode cX12_init 57 = .ok (.putfield 28, 3) := by decide +kernel
theorem dX12_init_60 : decode cX12_init 60 = .ok (.aload_n 0, 1) := by decide +kernel
theorem dX12_init_61 : decode cX12_init 61 = .ok (.bipush 84, 2) := by decide +kernel
theorem dX12_init_63 : decode cX12_init 63 = .ok (.newarray .int, 2) := by decide +kernel
theorem dX12_init_65 : decode cX12_init 65 = .ok (.putfield 31, 3) := by decide +kernel
theorem dX12_init_68 : decode cX12_init 68 = .ok (.aload_n 0, 1) := by decide +kernel
theorem dX12_init_69 : decode cX12_init 69 = .ok (.bipush 84, 2) := by decide +kernel
theorem dX12_init_71 : decode cX12_init 71 = .ok (.newarray .int, 2) := by decide +kernel
theorem dX12_init_73 : decode cX12_init 73 = .ok (.putfield 34, 3) := by decide +kernel
theorem dX12_init_76 : decode cX12_init 76 = .ok (.aload_n 0, 1) := by decide +kernel
theorem dX12_init_77 : decode cX12_init 77 = .ok (.bipush 84, 2) := by decide +kernel
theorem dX12_init_79 : decode cX12_init 79 = .ok (.newarray .int, 2) := by decide +kernel
theorem dX12_init_81 : decode cX12_init 81 = .ok (.putfield 37, 3) := by decide +kernel
theorem dX12_init_84 : decode cX12_init 84 = .ok (.aload_n 0, 1) := by decide +kernel
theorem dX12_init_85 : decode cX12_init 85 = .ok (.bipush 6, 2) := by decide +kernel
theorem dX12_init_87 : decode cX12_init 87 = .ok (.newarray .int, 2) := by decide +kernel
theorem dX12_init_89 : decode cX12_init 89 = .ok (.putfield 40, 3) := by decide +kernel
theorem dX12_init_92 : decode cX12_init 92 = .ok (.aload_n 0, 1) := by decide +kernel
theorem dX12_init_93 : decode cX12_init 93 = .ok (.bipush 48, 2) := by decide +kernel
theorem dX12_init_95 : decode cX12_init 95 = .ok (.newarray .int, 2) := by decide +kernel
theorem dX12_init_97 : decode cX12_init 97 = .ok (.putfield 43, 3) := by decide +kernel
theorem dX12_init_100 : decode cX12_init 100 = .ok (.aload_n 0, 1) := by decide +kernel
theorem dX12_init_101 : decode cX12_init 101 = .ok (.bipush 48, 2) := by decide +kernel
theorem dX12_init_103 : decode cX12_init 103 = .ok (.newarray .int, 2) := by decide +kernel
theorem dX12_init_105 : decode cX12_init 105 = .ok (.putfield 46, 3) := by decide +kernel
theorem dX12_init_108 : decode cX12_init 108 = .ok (.aload_n 0, 1) := by decide +kernel
theorem dX12_init_109 : decode cX12_init 109 = .ok (.bipush 48, 2) := by decide +kernel
theorem dX12_init_111 : decode cX12_init 111 = .ok (.newarray .int, 2) := by decide +kernel
theorem dX12_init_113 : decode cX12_init 113 = .ok (.putfield 49, 3) := by decide +kernel
theorem dX12_init_116 : decode cX12_init 116 = .ok (.aload_n 0, 1) := by decide +kernel
theorem dX12_init_117 : decode cX12_init 117 = .ok (.bipush 48, 2) := by decide +kernel
theorem dX12_init_119 : decode cX12_init 119 = .ok (.newarray .int, 2) := by decide +kernel
theorem dX12_init_121 : decode cX12_init 121 = .ok (.putfield 52, 3) := by decide +kernel
theorem dX12_init_124 : decode cX12_init 124 = .ok (.aload_n 0, 1) := by decide +kernel
theorem dX12_init_125 : decode cX12_init 125 = .ok (.bipush 48, 2) := by decide +kernel
theorem dX12_init_127 : decode cX12_init 127 = .ok (.newarray .int, 2) := by decide +kernel
theorem dX12_init_129 : decode cX12_init 129 = .ok (.putfield 55, 3) := by decide +kernel
theorem dX12_init_132 : decode cX12_init 132 = .ok (.aload_n 0, 1) := by decide +kernel
theorem dX12_init_133 : decode cX12_init 133 = .ok (.bipush 24, 2) := by decide +kernel
theorem dX12_init_135 : decode cX12_init 135 = .ok (.newarray .int, 2) := by decide +kernel
theorem dX12_init_137 : decode cX12_init 137 = .ok (.putfield 58, 3) := by decide +kernel
theorem dX12_init_140 : decode cX12_init 140 = .ok (.aload_n 0, 1) := by decide +kernel
theorem dX12_init_141 : decode cX12_init 141 = .ok (.sipush 600, 3) := by decide +kernel
theorem dX12_init_144 : decode cX12_init 144 = .ok (.newarray .int, 2) := by decide +kernel
theorem dX12_init_146 : decode cX12_init 146 = .ok (.putfield 61, 3) := by decide +kernel
theorem dX12_init_149 : decode cX12_init 149 = .ok (.aload_n 0, 1) := by decide +kernel
theorem dX12_init_150 : decode cX12_init 150 = .ok (.iconst 2, 1) := by decide +kernel
theorem dX12_init_151 : decode cX12_init 151 = .ok (.newarray .int, 2) := by decide +kernel
theorem dX12_init_153 : decode cX12_init 153 = .ok (.putfield 64, 3) := by decide +kernel
theorem dX12_init_156 : decode cX12_init 156 = .ok (.aload_n 0, 1) := by decide +kernel
theorem dX12_init_157 : decode cX12_init 157 = .ok (.iconst 2, 1) := by decide +kernel
theorem dX12_init_158 : decode cX12_init 158 = .ok (.newarray .boolean, 2) := by decide +kernel
theorem dX12_init_160 : decode cX12_init 160 = .ok (.putfield 67, 3) := by decide +kernel
theorem dX12_init_163 : decode cX12_init 163 = .ok (.aload_n 0, 1) := by decide +kernel
theorem dX12_init_164 : decode cX12_init 164 = .ok (.iconst 2, 1) := by decide +kernel
theorem dX12_init_165 : decode cX12_init 165 = .ok (.newarray .int, 2) := by decide +kernel
theorem dX12_init_167 : decode cX12_init 167 = .ok (.putfield 71, 3) := by decide +kernel
theorem dX12_init_170 : decode cX12_init 170 = .ok (.aload_n 0, 1) := by decide +kernel
theorem dX12_init_171 : decode cX12_init 171 = .ok (.iconst 2, 1) := by decide +kernel
theorem dX12_init_172 : decode cX12_init 172 = .ok (.newarray .int, 2) := by decide +kernel
theorem dX12_init_174 : decode cX12_init 174 = .ok (.putfield 74, 3) := by decide +kernel
theorem dX12_init_177 : decode cX12_init 177 = .ok (.aload_n 0, 1) := by decide +kernel
theorem dX12_init_178 : decode cX12_init 178 = .ok (.iconst 2, 1) := by decide +kernel
theorem dX12_init_179 : decode cX12_init 179 = .ok (.newarray .int, 2) := by decide +kernel
theorem dX12_init_181 : decode cX12_init 181 = .ok (.putfield 77, 3) := by decide +kernel
theorem dX12_init_184 : decode cX12_init 184 = .ok (.aload_n 0, 1) := by decide +kernel
theorem dX12_init_185 : decode cX12_init 185 = .ok (.iconst 2, 1) := by decide +kernel
theorem dX12_init_186 : decode cX12_init 186 = .ok (.newarray .int, 2) := by decide +kernel
theorem dX12_init_188 : decode cX12_init 188 = .ok (.putfield 80, 3) := by decide +kernel
theorem dX12_init_191 : decode cX12_init 191 = .ok (.aload_n 0, 1) := by decide +kernel
theorem dX12_init_192 : decode cX12_init 192 = .ok (.sipush 1152, 3) := by decide +kernel
theorem dX12_init_195 : decode cX12_init 195 = .ok (.newarray .int, 2) := by decide +kernel
theorem dX12_init_197 : decode cX12_init 197 = .ok (.putfield 83, 3) := by decide +kernel
theorem dX12_init_200 : decode cX12_init 200 = .ok (.aload_n 0, 1) := by decide +kernel
theorem dX12_init_201 : decode cX12_init 201 = .ok (.bipush 48, 2) := by decide +kernel
theorem dX12_init_203 : decode cX12_init 203 = .ok (.newarray .int, 2) := by decide +kernel
theorem dX12_init_205 : decode cX12_init 205 = .ok (.putfield 86, 3) := by decide +kernel
theorem dX12_init_208 : decode cX12_init 208 = .ok (.aload_n 0, 1) := by decide +kernel
theorem dX12_init_209 : decode cX12_init 209 = .ok (.iconst 2, 1) := by decide +kernel
theorem dX12_init_210 : decode cX12_init 210 = .ok (.newarray .int, 2) := by decide +kernel
theorem dX12_init_212 : decode cX12_init 212 = .ok (.putfield 89, 3) := by decide +kernel
theorem dX12_init_215 : decode cX12_init 215 = .ok (.aload_n 0, 1) := by decide +kernel
theorem dX12_init_216 : decode cX12_init 216 = .ok (.sipush 602, 3) := by decide +kernel
theorem dX12_init_219 : decode cX12_init 219 = .ok (.newarray .int, 2) := by decide +kernel
theorem dX12_init_221 : decode cX12_init 221 = .ok (.putfield 92, 3) := by decide +kernel
theorem dX12_init_224 : decode cX12_init 224 = .ok (.aload_n 0, 1) := by decide +kernel
theorem dX12_init_225 : decode cX12_init 225 = .ok (.sipush 602, 3) := by decide +kernel
theorem dX12_init_228 : decode cX12_init 228 = .ok (.newarray .int, 2) := by decide +kernel
theorem dX12_init_230 : decode cX12_init 230 = .ok (.putfield 95, 3) := by decide +kernel
theorem dX12_init_233 : decode cX12_init 233 = .ok (.aload_n 0, 1) := by decide +kernel
theorem dX12_init_234 : decode cX12_init 234 = .ok (.sipush 602, 3) := by decide +kernel
theorem dX12_init_237 : decode cX12_init 237 = .ok (.newarray .int, 2) := by decide +kernel
theorem dX12_init_239 : decode cX12_init 239 = .ok (.putfield 98, 3) := by decide +kernel
theorem dX12_init_242 : decode cX12_init 242 = .ok (.aload_n 0, 1) := by decide +kernel
theorem dX12_init_243 : decode cX12_init 243 = .ok (.bipush 6, 2) := by decide +kernel
theorem dX12_init_245 : decode cX12_init 245 = .ok (.newarray .int, 2) := by decide +kernel
theorem dX12_init_247 : decode cX12_init 247 = .ok (.putfield 101, 3) := by decide +kernel
theorem dX12_init_250 : decode cX12_init 250 = .ok (.aload_n 0, 1) := by decide +kernel
theorem dX12_init_251 : decode cX12_init 251 = .ok (.bipush 6, 2) := by decide +kernel
theorem dX12_init_253 : decode cX12_init 253 = .ok (.newarray .int, 2) := by decide +kernel
theorem dX12_init_255 : decode cX12_init 255 = .ok (.putfield 104, 3) := by decide +kernel
theorem dX12_init_258 : decode cX12_init 258 = .ok (.aload_n 0, 1) := by decide +kernel
theorem dX12_init_259 : decode cX12_init 259 = .ok (.bipush 6, 2) := by decide +kernel
theorem dX12_init_261 : decode cX12_init 261 = .ok (.newarray .int, 2) := by decide +kernel
theorem dX12_init_263 : decode cX12_init 263 = .ok (.putfield 107, 3) := by decide +kernel
theorem dX12_init_266 : decode cX12_init 266 = .ok (.aload_n 0, 1) := by decide +kernel
theorem dX12_init_267 : decode cX12_init 267 = .ok (.bipush 6, 2) := by decide +kernel
theorem dX12_init_269 : decode cX12_init 269 = .ok (.newarray .int, 2) := by decide +kernel
theorem dX12_init_271 : decode cX12_init 271 = .ok (.putfield 110, 3) := by decide +kernel
theorem dX12_init_274 : decode cX12_init 274 = .ok (.aload_n 0, 1) := by decide +kernel
theorem dX12_init_275 : decode cX12_init 275 = .ok (.bipush 8, 2) := by decide +kernel
theorem dX12_init_277 : decode cX12_init 277 = .ok (.newarray .int, 2) := by decide +kernel
theorem dX12_init_279 : decode cX12_init 279 = .ok (.putfield 113, 3) := by decide +kernel
theorem dX12_init_282 : decode cX12_init 282 = .ok (.aload_n 0, 1) := by decide +kernel
theorem dX12_init_283 : decode cX12_init 283 = .ok (.bipush 8, 2) := by decide +kernel
theorem dX12_init_285 : decode cX12_init 285 = .ok (.newarray .int, 2) := by decide +kernel
theorem dX12_init_287 : decode cX12_init 287 = .ok (.putfield 116, 3) := by decide +kernel
theorem dX12_init_290 : decode cX12_init 290 = .ok (.aload_n 0, 1) := by decide +kernel
theorem dX12_init_291 : decode cX12_init 291 = .ok (.bipush 8, 2) := by decide +kernel
theorem dX12_init_293 : decode cX12_init 293 = .ok (.newarray .int, 2) := by decide +kernel
theorem dX12_init_295 : decode cX12_init 295 = .ok (.putfield 119, 3) := by decide +kernel
theorem dX12_init_298 : decode cX12_init 298 = .ok (.aload_n 0, 1) := by decide +kernel
theorem dX12_init_299 : decode cX12_init 299 = .ok (.sipush 480, 3) := by decide +kernel
theorem dX12_init_302 : decode cX12_init 302 = .ok (.newarray .int, 2) := by decide +kernel
theorem dX12_init_304 : decode cX12_init 304 = .ok (.putfield 122, 3) := by decide +kernel
theorem dX12_init_307 : decode cX12_init 307 = .ok (.aload_n 0, 1) := by decide +kernel
theorem dX12_init_308 : decode cX12_init 308 = .ok (.sipush 480, 3) := by decide +kernel
theorem dX12_init_311 : decode cX12_init 311 = .ok (.newarray .int, 2) := by decide +kernel
theorem dX12_init_313 : decode cX12_init 313 = .ok (.putfield 125, 3) := by decide +kernel
theorem dX12_init_316 : decode cX12_init 316 = .ok (.aload_n 0, 1) := by decide +kernel
theorem dX12_init_317 : decode cX12_init 317 = .ok (.bipush 64, 2) := by decide +kernel
theorem dX12_init_319 : decode cX12_init 319 = .ok (.newarray .int, 2) := by decide +kernel
theorem dX12_init_321 : decode cX12_init 321 = .ok (.putfield 128, 3) := by decide +kernel
theorem dX12_init_324 : decode cX12_init 324 = .ok (.aload_n 0, 1) := by decide +kernel
theorem dX12_init_325 : decode cX12_init 325 = .ok (.bipush 64, 2) := by decide +kernel
theorem dX12_init_327 : decode cX12_init 327 = .ok (.newarray .int, 2) := by decide +kernel
theorem dX12_init_329 : decode cX12_init 329 = .ok (.putfield 131, 3) := by decide +kernel
theorem dX12_init_332 : decode cX12_init 332 = .ok (.aload_n 0, 1) := by decide +kernel
theorem dX12_init_333 : decode cX12_init 333 = .ok (.bipush 60, 2) := by decide +kernel
theorem dX12_init_335 : decode cX12_init 335 = .ok (.newarray .int, 2) := by decide +kernel
theorem dX12_init_337 : decode cX12_init 337 = .ok (.putfield 134, 3) := by decide +kernel
theorem dX12_init_340 : decode cX12_init 340 = .ok (.aload_n 0, 1) := by decide +kernel
theorem dX12_init_341 : decode cX12_init 341 = .ok (.bipush 60, 2) := by decide +kernel
theorem dX12_init_343 : decode cX12_init 343 = .ok (.newarray .int, 2) := by decide +kernel
theorem dX12_init_345 : decode cX12_init 345 = .ok (.putfield 137, 3) := by decide +kernel
theorem dX12_init_348 : decode cX12_init 348 = .ok (.aload_n 0, 1) := by decide +kernel
theorem dX12_init_349 : decode cX12_init 349 = .ok (.bipush 60, 2) := by decide +kernel
theorem dX12_init_351 : decode cX12_init 351 = .ok (.newarray .long, 2) := by decide +kernel
theorem dX12_init_353 : decode cX12_init 353 = .ok (.putfield 140, 3) := by decide +kernel
theorem dX12_init_356 : decode cX12_init 356 = .ok (.aload_n 0, 1) := by decide +kernel
theorem dX12_init_357 : decode cX12_init 357 = .ok (.bipush 60, 2) := by decide +kernel
theorem dX12_init_359 : decode cX12_init 359 = .ok (.newarray .int, 2) := by decide +kernel
theorem dX12_init_361 : decode cX12_init 361 = .ok (.putfield 144, 3) := by decide +kernel
theorem dX12_init_364 : decode cX12_init 364 = .ok (.aload_n 0, 1) := by decide +kernel
theorem dX12_init_365 : decode cX12_init 365 = .ok (.bipush 24, 2) := by decide +kernel
theorem dX12_init_367 : decode cX12_init 367 = .ok (.newarray .int, 2) := by decide +kernel
theorem dX12_init_369 : decode cX12_init 369 = .ok (.putfield 147, 3) := by decide +kernel
theorem dX12_init_372 : decode cX12_init 372 = .ok (.aload_n 0, 1) := by decide +kernel
theorem dX12_init_373 : decode cX12_init 373 = .ok (.bipush 64, 2) := by decide +kernel
theorem dX12_init_375 : decode cX12_init 375 = .ok (.newarray .int, 2) := by decide +kernel
theorem dX12_init_377 : decode cX12_init 377 = .ok (.putfield 150, 3) := by decide +kernel
theorem dX12_init_380 : decode cX12_init 380 = .ok (.aload_n 0, 1) := by decide +kernel
theorem dX12_init_381 : decode cX12_init 381 = .ok (.bipush 64, 2) := by decide +kernel
theorem dX12_init_383 : decode cX12_init 383 = .ok (.newarray .int, 2) := by decide +kernel
theorem dX12_init_385 : decode cX12_init 385 = .ok (.putfield 153, 3) := by decide +kernel
theorem dX12_init_388 : decode cX12_init 388 = .ok (.aload_n 0, 1) := by decide +kernel
theorem dX12_init_389 : decode cX12_init 389 = .ok (.bipush 64, 2) := by decide +kernel
theorem dX12_init_391 : decode cX12_init 391 = .ok (.newarray .int, 2) := by decide +kernel
theorem dX12_init_393 : decode cX12_init 393 = .ok (.putfield 156, 3) := by decide +kernel
theorem dX12_init_396 : decode cX12_init 396 = .ok (.aload_n 0, 1) := by decide +kernel
theorem dX12_init_397 : decode cX12_init 397 = .ok (.bipush 64, 2) := by decide +kernel
theorem dX12_init_399 : decode cX12_init 399 = .ok (.newarray .int, 2) := by decide +kernel
theorem dX12_init_401 : decode cX12_init 401 = .ok (.putfield 159, 3) := by decide +kernel
theorem dX12_init_404 : decode cX12_init 404 = .ok (.aload_n 0, 1) := by decide +kernel
theorem dX12_init_405 : decode cX12_init 405 = .ok (.bipush 64, 2) := by decide +kernel
theorem dX12_init_407 : decode cX12_init 407 = .ok (.newarray .int, 2) := by decide +kernel
theorem dX12_init_409 : decode cX12_init 409 = .ok (.putfield 162, 3) := by decide +kernel
theorem dX12_init_412 : decode cX12_init 412 = .ok (.aload_n 0, 1) := by decide +kernel
theorem dX12_init_413 : decode cX12_init 413 = .ok (.bipush 24, 2) := by decide +kernel
theorem dX12_init_415 : decode cX12_init 415 = .ok (.newarray .int, 2) := by decide +kernel
theorem dX12_init_417 : decode cX12_init 417 = .ok (.putfield 165, 3) := by decide +kernel
theorem dX12_init_420 : decode cX12_init 420 = .ok (.aload_n 0, 1) := by decide +kernel
theorem dX12_init_421 : decode cX12_init 421 = .ok (.bipush 80, 2) := by decide +kernel
theorem dX12_init_423 : decode cX12_init 423 = .ok (.newarray .int, 2) := by decide +kernel
theorem dX12_init_425 : decode cX12_init 425 = .ok (.putfield 168, 3) := by decide +kernel
theorem dX12_init_428 : decode cX12_init 428 = .ok (.aload_n 0, 1) := by decide +kernel
theorem dX12_init_429 : decode cX12_init 429 = .ok (.bipush 8, 2) := by decide +kernel
theorem dX12_init_431 : decode cX12_init 431 = .ok (.newarray .int, 2) := by decide +kernel
theorem dX12_init_433 : decode cX12_init 433 = .ok (.putfield 171, 3) := by decide +kernel
theorem dX12_init_436 : decode cX12_init 436 = .ok (.aload_n 0, 1) := by decide +kernel
theorem dX12_init_437 : decode cX12_init 437 = .ok (.bipush 8, 2) := by decide +kernel
theorem dX12_init_439 : decode cX12_init 439 = .ok (.newarray .int, 2) := by decide +kernel
theorem dX12_init_441 : decode cX12_init 441 = .ok (.putfield 174, 3) := by decide +kernel
theorem dX12_init_444 : decode cX12_init 444 = .ok (.aload_n 0, 1) := by decide +kernel
theorem dX12_init_445 : decode cX12_init 445 = .ok (.getfield 71, 3) := by decide +kernel
theorem dX12_init_448 : decode cX12_init 448 = .ok (.iconst 0, 1) := by decide +kernel
theorem dX12_init_449 : decode cX12_init 449 = .ok (.iconst (-1), 1) := by decide +kernel
theorem dX12_init_450 : decode cX12_init 450 = .ok (.iastore, 1) := by decide +kernel
theorem dX12_init_451 : decode cX12_init 451 = .ok (.aload_n 0, 1) := by decide +kernel
theorem dX12_init_452 : decode cX12_init 452 = .ok (.getfield 71, 3) := by decide +kernel
theorem dX12_init_455 : decode cX12_init 455 = .ok (.iconst 1, 1) := by decide +kernel
theorem dX12_init_456 : decode cX12_init 456 = .ok (.iconst (-1), 1) := by decide +kernel
theorem dX12_init_457 : decode cX12_init 457 = .ok (.iastore, 1) := by decide +kernel
theorem dX12_init_458 : decode cX12_init 458 = .ok (.aload_n 0, 1) := by decide +kernel
theorem dX12_init_459 : decode cX12_init 459 = .ok (.invokevirtual 177, 3) := by decide +kernel
theorem dX12_init_462 : decode cX12_init 462 = .ok (.return_, 1) := by decide +kernel
def is_X12_init (Rt : np_Rt) : List (Nat × np_Op) := [(0, np_ald 1 0), (1, np_oinit), (4, np_ald 1 0), (5, np_push 2 (.int 14)), (7, nq_newa .int 14 (14, .inl fun _ => 0) 55 6212), (9, nq_putf 12 1 (.array .int)), (12, np_ald 1 0), (13, np_push 2 (.int 14)), (15, nq_newa .int 14 (14, .inl fun _ => 0) 55 6212), (17, nq_putf 12 2 (.array .int)), (20, np_ald 1 0), (21, np_push 2 (.int 14)), (23, nq_newa .int 14 (14, .inl fun _ => 0) 55 6212), (25, nq_putf 12 3 (.array .int)), (28, np_ald 1 0), (29, np_push 2 (.int 14)), (31, nq_newa .int 14 (14, .inl fun _ => 0) 55 6212), (33, nq_putf 12 4 (.array .int)), (36, np_ald 1 0), (37, np_push 2 (.int 6)), (39, nq_newa .int 6 (6, .inl fun _ => 0) 55 6212), (41, nq_putf 12 6 (.array .int)), (44, np_ald 1 0), (45, np_push 2 (.int 84)), (47, nq_newa .int 84 (84, .inl fun _ => 0) 55 6212), (49, nq_putf 12 7 (.array .int)), (52, np_ald 1 0), (53, np_push 2 (.int 84)), (55, nq_newa .int 84 (84, .inl fun _ => 0) 55 6212), (57, nq_putf 12 8 (.array .int)), (60, np_ald 1 0), (61, np_push 2 (.int 84)), (63, nq_newa .int 84 (84, .inl fun _ => 0) 55 6212), (65, nq_putf 12 9 (.array .int)), (68, np_ald 1 0), (69, np_push 2 (.int 84)), (71, nq_newa .int 84 (84, .inl fun _ => 0) 55 6212), (73, nq_putf 12 10 (.array .int)), (76, np_ald 1 0), (77, np_push 2 (.int 84)), (79, nq_newa .int 84 (84, .inl fun _ => 0) 55 6212), (81, nq_putf 12 11 (.array .int)), (84, np_ald 1 0), (85, np_push 2 (.int 6)), (87, nq_newa .int 6 (6, .inl fun _ => 0) 55 6212), (89, nq_putf 12 12 (.array .int)), (92, np_ald 1 0), (93, np_push 2 (.int 48)), (95, nq_newa .int 48 (48, .inl fun _ => 0) 55 6212), (97, nq_putf 12 13 (.array .int)), (100, np_ald 1 0), (101, np_push 2 (.int 48)), (103, nq_newa .int 48 (48, .inl fun _ => 0) 55 6212), (105, nq_putf 12 14 (.array .int)), (108, np_ald 1 0), (109, np_push 2 (.int 48)), (111, nq_newa .int 48 (48, .inl fun _ => 0) 55 6212), (113, nq_putf 12 15 (.array .int)), (116, np_ald 1 0), (117, np_push 2 (.int 48)), (119, nq_newa .int 48 (48, .inl fun _ => 0) 55 6212), (121, nq_putf 12 16 (.array .int)), (124, np_ald 1 0), (125, np_push 2 (.int 48)), (127, nq_newa .int 48 (48, .inl fun _ => 0) 55 6212), (129, nq_putf 12 17 (.array .int)), (132, np_ald 1 0), (133, np_push 2 (.int 24)), (135, nq_newa .int 24 (24, .inl fun _ => 0) 55 6212), (137, nq_putf 12 18 (.array .int)), (140, np_ald 1 0), (141, np_push 3 (.int 600)), (144, nq_newa .int 600 (600, .inl fun _ => 0) 55 6212), (146, nq_putf 12 20 (.array .int)), (149, np_ald 1 0), (150, np_push 1 (.int 2)), (151, nq_newa .int 2 (2, .inl fun _ => 0) 55 6212), (153, nq_putf 12 21 (.array .int)), (156, np_ald 1 0), (157, np_push 1 (.int 2)), (158, nq_newa .boolean 2 (2, .inl fun _ => 0) 55 6212), (160, nq_putf 12 22 (.array .boolean)), (163, np_ald 1 0), (164, np_push 1 (.int 2)), (165, nq_newa .int 2 (2, .inl fun _ => 0) 55 6212), (167, nq_putf 12 23 (.array .int)), (170, np_ald 1 0), (171, np_push 1 (.int 2)), (172, nq_newa .int 2 (2, .inl fun _ => 0) 55 6212), (174, nq_putf 12 24 (.array .int)), (177, np_ald 1 0), (178, np_push 1 (.int 2)), (179, nq_newa .int 2 (2, .inl fun _ => 0) 55 6212), (181, nq_putf 12 25 (.array .int)), (184, np_ald 1 0), (185, np_push 1 (.int 2)), (186, nq_newa .int 2 (2, .inl fun _ => 0) 55 6212), (188, nq_putf 12 26 (.array .int)), (191, np_ald 1 0), (192, np_push 3 (.int 1152)), (195, nq_newa .int 1152 (1152, .inl fun _ => 0) 55 6212), (197, nq_putf 12 27 (.array .int)), (200, np_ald 1 0), (201, np_push 2 (.int 48)), (203, nq_newa .int 48 (48, .inl fun _ => 0) 55 6212), (205, nq_putf 12 28 (.array .int)), (208, np_ald 1 0), (209, np_push 1 (.int 2)), (210, nq_newa .int 2 (2, .inl fun _ => 0) 55 6212), (212, nq_putf 12 29 (.array .int)), (215, np_ald 1 0), (216, np_push 3 (.int 602)), (219, nq_newa .int 602 (602, .inl fun _ => 0) 55 6212), (221, nq_putf 12 30 (.array .int)), (224, np_ald 1 0), (225, np_push 3 (.int 602)), (228, nq_newa .int 602 (602, .inl fun _ => 0) 55 6212), (230, nq_putf 12 31 (.array .int)), (233, np_ald 1 0), (234, np_push 3 (.int 602)), (237, nq_newa .int 602 (602, .inl fun _ => 0) 55 6212), (239, nq_putf 12 32 (.array .int)), (242, np_ald 1 0), (243, np_push 2 (.int 6)), (245, nq_newa .int 6 (6, .inl fun _ => 0) 55 6212), (247, nq_putf 12 34 (.array .int)), (250, np_ald 1 0), (251, np_push 2 (.int 6)), (253, nq_newa .int 6 (6, .inl fun _ => 0) 55 6212), (255, nq_putf 12 35 (.array .int)), (258, np_ald 1 0), (259, np_push 2 (.int 6)), (261, nq_newa .int 6 (6, .inl fun _ => 0) 55 6212), (263, nq_putf 12 36 (.array .int)), (266, np_ald 1 0), (267, np_push 2 (.int 6)), (269, nq_newa .int 6 (6, .inl fun _ => 0) 55 6212), (271, nq_putf 12 37 (.array .int)), (274, np_ald 1 0), (275, np_push 2 (.int 8)), (277, nq_newa .int 8 (8, .inl fun _ => 0) 55 6212), (279, nq_putf 12 38 (.array .int)), (282, np_ald 1 0), (283, np_push 2 (.int 8)), (285, nq_newa .int 8 (8, .inl fun _ => 0) 55 6212), (287, nq_putf 12 39 (.array .int)), (290, np_ald 1 0), (291, np_push 2 (.int 8)), (293, nq_newa .int 8 (8, .inl fun _ => 0) 55 6212), (295, nq_putf 12 40 (.array .int)), (298, np_ald 1 0), (299, np_push 3 (.int 480)), (302, nq_newa .int 480 (480, .inl fun _ => 0) 55 6212), (304, nq_putf 12 42 (.array .int)), (307, np_ald 1 0), (308, np_push 3 (.int 480)), (311, nq_newa .int 480 (480, .inl fun _ => 0) 55 6212), (313, nq_putf 12 43 (.array .int)), (316, np_ald 1 0), (317, np_push 2 (.int 64)), (319, nq_newa .int 64 (64, .inl fun _ => 0) 55 6212), (321, nq_putf 12 44 (.array .int)), (324, np_ald 1 0), (325, np_push 2 (.int 64)), (327, nq_newa .int 64 (64, .inl fun _ => 0) 55 6212), (329, nq_putf 12 45 (.array .int)), (332, np_ald 1 0), (333, np_push 2 (.int 60)), (335, nq_newa .int 60 (60, .inl fun _ => 0) 55 6212), (337, nq_putf 12 47 (.array .int)), (340, np_ald 1 0), (341, np_push 2 (.int 60)), (343, nq_newa .int 60 (60, .inl fun _ => 0) 55 6212), (345, nq_putf 12 48 (.array .int)), (348, np_ald 1 0), (349, np_push 2 (.int 60)), (351, nq_newa .long 60 (60, .inr (.inl fun _ => 0)) 55 6212), (353, nq_putf 12 49 (.array .long)), (356, np_ald 1 0), (357, np_push 2 (.int 60)), (359, nq_newa .int 60 (60, .inl fun _ => 0) 55 6212), (361, nq_putf 12 50 (.array .int)), (364, np_ald 1 0), (365, np_push 2 (.int 24)), (367, nq_newa .int 24 (24, .inl fun _ => 0) 55 6212), (369, nq_putf 12 51 (.array .int)), (372, np_ald 1 0), (373, np_push 2 (.int 64)), (375, nq_newa .int 64 (64, .inl fun _ => 0) 55 6212), (377, nq_putf 12 61 (.array .int)), (380, np_ald 1 0), (381, np_push 2 (.int 64)), (383, nq_newa .int 64 (64, .inl fun _ => 0) 55 6212), (385, nq_putf 12 62 (.array .int)), (388, np_ald 1 0), (389, np_push 2 (.int 64)), (391, nq_newa .int 64 (64, .inl fun _ => 0) 55 6212), (393, nq_putf 12 63 (.array .int)), (396, np_ald 1 0), (397, np_push 2 (.int 64)), (399, nq_newa .int 64 (64, .inl fun _ => 0) 55 6212), (401, nq_putf 12 64 (.array .int)), (404, np_ald 1 0), (405, np_push 2 (.int 64)), (407, nq_newa .int 64 (64, .inl fun _ => 0) 55 6212), (409, nq_putf 12 65 (.array .int)), (412, np_ald 1 0), (413, np_push 2 (.int 24)), (415, nq_newa .int 24 (24, .inl fun _ => 0) 55 6212), (417, nq_putf 12 67 (.array .int)), (420, np_ald 1 0), (421, np_push 2 (.int 80)), (423, nq_newa .int 80 (80, .inl fun _ => 0) 55 6212), (425, nq_putf 12 69 (.array .int)), (428, np_ald 1 0), (429, np_push 2 (.int 8)), (431, nq_newa .int 8 (8, .inl fun _ => 0) 55 6212), (433, nq_putf 12 72 (.array .int)), (436, np_ald 1 0), (437, np_push 2 (.int 8)), (439, nq_newa .int 8 (8, .inl fun _ => 0) 55 6212), (441, nq_putf 12 73 (.array .int)), (444, np_ald 1 0), (445, nq_getf 12 23), (448, np_push 1 (.int 0)), (449, np_push 1 (.int (-1))), (450, nq_iastT .int), (451, np_ald 1 0), (452, nq_getf 12 23), (455, np_push 1 (.int 1)), (456, np_push 1 (.int (-1))), (457, nq_iastT .int), (458, np_ald 1 0), (459, nq_callV 12 1 sp_X12_dropsSteps 2 0 0 55 6212), (462, np_ret Rt)]
set_option maxRecDepth 20000 in
theorem so_X12_init {X : np_Ctx} {Rt : np_Rt} (hX : np_ok RX12 cX12_init 1 1 21 55 6212 .return_ X) (hmn : np_mn X = "<init>") (hR : ∀ st w ce sl, Rt st w ce sl → X.2.2.1 st w ce sl) : ∀ q ∈ is_X12_init Rt, np_S X q.1 q.2 :=
  List.forall_mem_cons.mpr ⟨np_s_aload_n hX dX12_init_0 rfl, List.forall_mem_cons.mpr ⟨np_s_oinit hX dX12_init_1 gw1631 gw157 gw158 (by decide) (by decide), List.forall_mem_cons.mpr ⟨np_s_aload_n hX dX12_init_4 rfl, List.forall_mem_cons.mpr ⟨np_s_bipush hX dX12_init_5 (by decide), List.forall_mem_cons.mpr ⟨np_S.mono (op := np_newa .int 14 (14, .inl fun _ => 0) 55 6212) (np_s_newa hX dX12_init_7 rfl gw183 (by decide) (by intro C h; cases h) (by decide) (fun _ => vp_cell_i _ _ _) (by decide) (fun _ _ => rfl) (fun _ => trivial)) nq_newa_le, List.forall_mem_cons.mpr ⟨np_S.mono (op := np_putf 12 1 (.array .int)) (np_s_putF hX dX12_init_9 hmn (C := RX12) (T := TX12) (N := 77) (ty0 := tyX12) rfl guX12 tyX12_ok nmX12 (by decide) gw1637 rfl rfl rfl) nq_putf_le, List.forall_mem_cons.mpr ⟨np_s_aload_n hX dX12_init_12 rfl, List.forall_mem_cons.mpr ⟨np_s_bipush hX dX12_init_13 (by decide), List.forall_mem_cons.mpr ⟨np_S.mono (op := np_newa .int 14 (14, .inl fun _ => 0) 55 6212) (np_s_newa hX dX12_init_15 rfl gw183 (by decide) (by intro C h; cases h) (by decide) (fun _ => vp_cell_i _ _ _) (by decide) (fun _ _ => rfl) (fun _ => trivial)) nq_newa_le, List.forall_mem_cons.mpr ⟨np_S.mono (op := np_putf 12 2 (.array .int)) (np_s_putF hX dX12_init_17 hmn (C := RX12) (T := TX12) (N := 77) (ty0 := tyX12) rfl guX12 tyX12_ok nmX12 (by decide) gw1638 rfl rfl rfl) nq_putf_le, List.forall_mem_cons.mpr ⟨np_s_aload_n hX dX12_init_20 rfl, List.forall_mem_cons.mpr ⟨np_s_bipush hX dX12_init_21 (by decide), List.forall_mem_cons.mpr ⟨np_S.mono (op := np_newa .int 14 (14, .inl fun _ => 0) 55 6212) (np_s_newa hX dX12_init_23 rfl gw183 (by decide) (by intro C h; cases h) (by decide) (fun _ => vp_cell_i _ _ _) (by decide) (fun _ _ => rfl) (fun _ => trivial)) nq_newa_le, List.forall_mem_cons.mpr ⟨np_S.mono (op := np_putf 12 3 (.array .int)) (np_s_putF hX dX12_init_25 hmn (C := RX12) (T := TX12) (N := 77) (ty0 := tyX12) rfl guX12 tyX12_ok nmX12 (by decide) gw1639 rfl rfl rfl) nq_putf_le, List.forall_mem_cons.mpr ⟨np_s_aload_n hX dX12_init_28 rfl, List.forall_mem_cons.mpr ⟨np_s_bipush hX dX12_init_29 (by decide), List.forall_mem_cons.mpr ⟨np_S.mono (op := np_newa .int 14 (14, .inl fun _ => 0) 55 6212) (np_s_newa hX dX12_init_31 rfl gw183 (by decide) (by intro C h; cases h) (by decide) (fun _ => vp_cell_i _ _ _) (by decide) (fun _ _ => rfl) (fun _ => trivial)) nq_newa_le, List.forall_mem_cons.mpr ⟨np_S.mono (op := np_putf 12 4 (.array .int)) (np_s_putF hX dX12_init_33 hmn (C := RX12) (T := TX12) (N := 77) (ty0 := tyX12) rfl guX12 tyX12_ok nmX12 (by decide) gw1640 rfl rfl rfl) nq_putf_le, List.forall_mem_cons.mpr ⟨np_s_aload_n hX dX12_init_36 rfl, List.forall_mem_cons.mpr ⟨np_s_bipush hX dX12_init_37 (by decide), List.forall_mem_cons.mpr ⟨np_S.mono (op := np_newa .int 6 (6, .inl fun _ => 0) 55 6212) (np_s_newa hX dX12_init_39 rfl gw183 (by decide) (by intro C h; cases h) (by decide) (fun _ => vp_cell_i _ _ _) (by decide) (fun _ _ => rfl) (fun _ => trivial)) nq_newa_le, List.forall_mem_cons.mpr ⟨np_S.mono (op := np_putf 12 6 (.array .int)) (np_s_putF hX dX12_init_41 hmn (C := RX12) (T := TX12) (N := 77) (ty0 := tyX12) rfl guX12 tyX12_ok nmX12 (by decide) gw1642 rfl rfl rfl) nq_putf_le, List.forall_mem_cons.mpr ⟨np_s_aload_n hX dX12_init_44 rfl, List.forall_mem_cons.mpr ⟨np_s_bipush hX dX12_init_45 (by decide), List.forall_mem_cons.mpr ⟨np_S.mono (op := np_newa .int 84 (84, .inl fun _ => 0) 55 6212) (np_s_newa hX dX12_init_47 rfl gw183 (by decide) (by intro C h; cases h) (by decide) (fun _ => vp_cell_i _ _ _) (by decide) (fun _ _ => rfl) (fun _ => trivial)) nq_newa_le, List.forall_mem_cons.mpr ⟨np_S.mono (op := np_putf 12 7 (.array .int)) (np_s_putF hX dX12_init_49 hmn (C := RX12) (T := TX12) (N := 77) (ty0 := tyX12) rfl guX12 tyX12_ok nmX12 (by decide) gw1643 rfl rfl rfl) nq_putf_le, List.forall_mem_cons.mpr ⟨np_s_aload_n hX dX12_init_52 rfl, List.forall_mem_cons.mpr ⟨np_s_bipush hX dX12_init_53 (by decide), List.forall_mem_cons.mpr ⟨np_S.mono (op := np_newa .int 84 (84, .inl fun _ => 0) 55 6212) (np_s_newa hX dX12_init_55 rfl gw183 (by decide) (by intro C h; cases h) (by decide) (fun _ => vp_cell_i _ _ _) (by decide) (fun _ _ => rfl) (fun _ => trivial)) nq_newa_le, List.forall_mem_cons.mpr ⟨np_S.mono (op := np_putf 12 8 (.array .int)) (np_s_putF hX dX12_init_57 hmn (C := RX12) (T := TX12) (N := 77) (ty0 := tyX12) rfl guX12 tyX12_ok nmX12 (by decide) gw1644 rfl rfl rfl) nq_putf_le, List.forall_mem_cons.mpr ⟨np_s_aload_n hX dX12_init_60 rfl, List.forall_mem_cons.mpr ⟨np_s_bipush hX dX12_init_61 (by decide), List.forall_mem_cons.mpr ⟨np_S.mono (op := np_newa .int 84 (84, .inl fun _ => 0) 55 6212) (np_s_newa hX dX12_init_63 rfl gw183 (by decide) (by intro C h; cases h) (by decide) (fun _ => vp_cell_i _ _ _) (by decide) (fun _ _ => rfl) (fun _ => trivial)) nq_newa_le, List.forall_mem_cons.mpr ⟨np_S.mono (op := np_putf 12 9 (.array .int)) (np_s_putF hX dX12_init_65 hmn (C := RX12) (T := TX12) (N := 77) (ty0 := tyX12) rfl guX12 tyX12_ok nmX12 (by decide) gw1645 rfl rfl rfl) nq_putf_le, List.forall_mem_cons.mpr ⟨np_s_aload_n hX dX12_init_68 rfl, List.forall_mem_cons.mpr ⟨np_s_bipush hX dX12_init_69 (by decide), List.forall_mem_cons.mpr ⟨np_S.mono (op := np_newa .int 84 (84, .inl fun _ => 0) 55 6212) (np_s_newa hX dX12_init_71 rfl gw183 (by decide) (by intro C h; cases h) (by decide) (fun _ => vp_cell_i _ _ _) (by decide) (fun _ _ => rfl) (fun _ => trivial)) nq_newa_le, List.forall_mem_cons.mpr ⟨np_S.mono (op := np_putf 12 10 (.array .int)) (np_s_putF hX dX12_init_73 hmn (C := RX12) (T := TX12) (N := 77) (ty0 := tyX12) rfl guX12 tyX12_ok nmX12 (by decide) gw1646 rfl rfl rfl) nq_putf_le, List.forall_mem_cons.mpr ⟨np_s_aload_n hX dX12_init_76 rfl, List.forall_mem_cons.mpr ⟨np_s_bipush hX dX12_init_77 (by decide), List.forall_mem_cons.mpr ⟨np_S.mono (op := np_newa .int 84 (84, .inl fun _ => 0) 55 6212) (np_s_newa hX dX12_init_79 rfl gw183 (by decide) (by intro C h; cases h) (by decide) (fun _ => vp_cell_i _ _ _) (by decide) (fun _ _ => rfl) (fun _ => trivial)) nq_newa_le, List.forall_mem_cons.mpr ⟨np_S.mono (op := np_putf 12 11 (.array .int)) (np_s_putF hX dX12_init_81 hmn (C := RX12) (T := TX12) (N := 77) (ty0 := tyX12) rfl guX12 tyX12_ok nmX12 (by decide) gw1647 rfl rfl rfl) nq_putf_le, List.forall_mem_cons.mpr ⟨np_s_aload_n hX dX12_init_84 rfl, List.forall_mem_cons.mpr ⟨np_s_bipush hX dX12_init_85 (by decide), List.forall_mem_cons.mpr ⟨np_S.mono (op := np_newa .int 6 (6, .inl fun _ => 0) 55 6212) (np_s_newa hX dX12_init_87 rfl gw183 (by decide) (by intro C h; cases h) (by decide) (fun _ => vp_cell_i _ _ _) (by decide) (fun _ _ => rfl) (fun _ => trivial)) nq_newa_le, List.forall_mem_cons.mpr ⟨np_S.mono (op := np_putf 12 12 (.array .int)) (np_s_putF hX dX12_init_89 hmn (C := RX12) (T := TX12) (N := 77) (ty0 := tyX12) rfl guX12 tyX12_ok nmX12 (by decide) gw1648 rfl rfl rfl) nq_putf_le, List.forall_mem_cons.mpr ⟨np_s_aload_n hX dX12_init_92 rfl, List.forall_mem_cons.mpr ⟨np_s_bipush hX dX12_init_93 (by decide), List.forall_mem_cons.mpr ⟨np_S.mono (op := np_newa .int 48 (48, .inl fun _ => 0) 55 6212) (np_s_newa hX dX12_init_95 rfl gw183 (by decide) (by intro C h; cases h) (by decide) (fun _ => vp_cell_i _ _ _) (by decide) (fun _ _ => rfl) (fun _ => trivial)) nq_newa_le, List.forall_mem_cons.mpr ⟨np_S.mono (op := np_putf 12 13 (.array .int)) (np_s_putF hX dX12_init_97 hmn (C := RX12) (T := TX12) (N := 77) (ty0 := tyX12) rfl guX12 tyX12_ok nmX12 (by decide) gw1649 rfl rfl rfl) nq_putf_le, List.forall_mem_cons.mpr ⟨np_s_aload_n hX dX12_init_100 rfl, List.forall_mem_cons.mpr ⟨np_s_bipush hX dX12_init_101 (by decide), List.forall_mem_cons.mpr ⟨np_S.mono (op := np_newa .int 48 (48, .inl fun _ => 0) 55 6212) (np_s_newa hX dX12_init_103 rfl gw183 (by decide) (by intro C h; cases h) (by decide) (fun _ => vp_cell_i _ _ _) (by decide) (fun _ _ => rfl) (fun _ => trivial)) nq_newa_le, List.forall_mem_cons.mpr ⟨np_S.mono (op := np_putf 12 14 (.array .int)) (np_s_putF hX dX12_init_105 hmn (C := RX12) (T := TX12) (N := 77) (ty0 := tyX12) rfl guX12 tyX12_ok nmX12 (by decide) gw1650 rfl rfl rfl) nq_putf_le, List.forall_mem_cons.mpr ⟨np_s_aload_n hX dX12_init_108 rfl, List.forall_mem_cons.mpr ⟨np_s_bipush hX dX12_init_109 (by decide), List.forall_mem_cons.mpr ⟨np_S.mono (op := np_newa .int 48 (48, .inl fun _ => 0) 55 6212) (np_s_newa hX dX12_init_111 rfl gw183 (by decide) (by intro C h; cases h) (by decide) (fun _ => vp_cell_i _ _ _) (by decide) (fun _ _ => rfl) (fun _ => trivial)) nq_newa_le, List.forall_mem_cons.mpr ⟨np_S.mono (op := np_putf 12 15 (.array .int)) (np_s_putF hX dX12_init_113 hmn (C := RX12) (T := TX12) (N := 77) (ty0 := tyX12) rfl guX12 tyX12_ok nmX12 (by decide) gw1651 rfl rfl rfl) nq_putf_le, List.forall_mem_cons.mpr ⟨np_s_aload_n hX dX12_init_116 rfl, List.forall_mem_cons.mpr ⟨np_s_bipush hX dX12_init_117 (by decide), List.forall_mem_cons.mpr ⟨np_S.mono (op := np_newa .int 48 (48, .inl fun _ => 0) 55 6212) (np_s_newa hX dX12_init_119 rfl gw183 (by decide) (by intro C h; cases h) (by decide) (fun _ => vp_cell_i _ _ _) (by decide) (fun _ _ => rfl) (fun _ => trivial)) nq_newa_le, List.forall_mem_cons.mpr ⟨np_S.mono (op := np_putf 12 16 (.array .int)) (np_s_putF hX dX12_init_121 hmn (C := RX12) (T := TX12) (N := 77) (ty0 := tyX12) rfl guX12 tyX12_ok nmX12 (by decide) gw1652 rfl rfl rfl) nq_putf_le, List.forall_mem_cons.mpr ⟨np_s_aload_n hX dX12_init_124 rfl, List.forall_mem_cons.mpr ⟨np_s_bipush hX dX12_init_125 (by decide), List.forall_mem_cons.mpr ⟨np_S.mono (op := np_newa .int 48 (48, .inl fun _ => 0) 55 6212) (np_s_newa hX dX12_init_127 rfl gw183 (by decide) (by intro C h; cases h) (by decide) (fun _ => vp_cell_i _ _ _) (by decide) (fun _ _ => rfl) (fun _ => trivial)) nq_newa_le, List.forall_mem_cons.mpr ⟨np_S.mono (op := np_putf 12 17 (.array .int)) (np_s_putF hX dX12_init_129 hmn (C := RX12) (T := TX12) (N := 77) (ty0 := tyX12) rfl guX12 tyX12_ok nmX12 (by decide) gw1653 rfl rfl rfl) nq_putf_le, List.forall_mem_cons.mpr ⟨np_s_aload_n hX dX12_init_132 rfl, List.forall_mem_cons.mpr ⟨np_s_bipush hX dX12_init_133 (by decide), List.forall_mem_cons.mpr ⟨np_S.mono (op := np_newa .int 24 (24, .inl fun _ => 0) 55 6212) (np_s_newa hX dX12_init_135 rfl gw183 (by decide) (by intro C h; cases h) (by decide) (fun _ => vp_cell_i _ _ _) (by decide) (fun _ _ => rfl) (fun _ => trivial)) nq_newa_le, List.forall_mem_cons.mpr ⟨np_S.mono (op := np_putf 12 18 (.array .int)) (np_s_putF hX dX12_init_137 hmn (C := RX12) (T := TX12) (N := 77) (ty0 := tyX12) rfl guX12 tyX12_ok nmX12 (by decide) gw1654 rfl rfl rfl) nq_putf_le, List.forall_mem_cons.mpr ⟨np_s_aload_n hX dX12_init_140 rfl, List.forall_mem_cons.mpr ⟨np_s_sipush hX dX12_init_141 (by decide), List.forall_mem_cons.mpr ⟨np_S.mono (op := np_newa .int 600 (600, .inl fun _ => 0) 55 6212) (np_s_newa hX dX12_init_144 rfl gw183 (by decide) (by intro C h; cases h) (by decide) (fun _ => vp_cell_i _ _ _) (by decide) (fun _ _ => rfl) (fun _ => trivial)) nq_newa_le, List.forall_mem_cons.mpr ⟨np_S.mono (op := np_putf 12 20 (.array .int)) (np_s_putF hX dX12_init_146 hmn (C := RX12) (T := TX12) (N := 77) (ty0 := tyX12) rfl guX12 tyX12_ok nmX12 (by decide) gw1656 rfl rfl rfl) nq_putf_le, List.forall_mem_cons.mpr ⟨np_s_aload_n hX dX12_init_149 rfl, List.forall_mem_cons.mpr ⟨np_s_iconst hX dX12_init_150 (by decide), List.forall_mem_cons.mpr ⟨np_S.mono (op := np_newa .int 2 (2, .inl fun _ => 0) 55 6212) (np_s_newa hX dX12_init_151 rfl gw183 (by decide) (by intro C h; cases h) (by decide) (fun _ => vp_cell_i _ _ _) (by decide) (fun _ _ => rfl) (fun _ => trivial)) nq_newa_le, List.forall_mem_cons.mpr ⟨np_S.mono (op := np_putf 12 21 (.array .int)) (np_s_putF hX dX12_init_153 hmn (C := RX12) (T := TX12) (N := 77) (ty0 := tyX12) rfl guX12 tyX12_ok nmX12 (by decide) gw1657 rfl rfl rfl) nq_putf_le, List.forall_mem_cons.mpr ⟨np_s_aload_n hX dX12_init_156 rfl, List.forall_mem_cons.mpr ⟨np_s_iconst hX dX12_init_157 (by decide), List.forall_mem_cons.mpr ⟨np_S.mono (op := np_newa .boolean 2 (2, .inl fun _ => 0) 55 6212) (np_s_newa hX dX12_init_158 rfl gw1868 (by decide) (by intro C h; cases h) (by decide) (fun _ => vp_cell_i _ _ _) (by decide) (fun _ _ => rfl) (fun _ => trivial)) nq_newa_le, List.forall_mem_cons.mpr ⟨np_S.mono (op := np_putf 12 22 (.array .boolean)) (np_s_putF hX dX12_init_160 hmn (C := RX12) (T := TX12) (N := 77) (ty0 := tyX12) rfl guX12 tyX12_ok nmX12 (by decide) gw1658 rfl rfl rfl) nq_putf_le, List.forall_mem_cons.mpr ⟨np_s_aload_n hX dX12_init_163 rfl, List.forall_mem_cons.mpr ⟨np_s_iconst hX dX12_init_164 (by decide), List.forall_mem_cons.mpr ⟨np_S.mono (op := np_newa .int 2 (2, .inl fun _ => 0) 55 6212) (np_s_newa hX dX12_init_165 rfl gw183 (by decide) (by intro C h; cases h) (by decide) (fun _ => vp_cell_i _ _ _) (by decide) (fun _ _ => rfl) (fun _ => trivial)) nq_newa_le, List.forall_mem_cons.mpr ⟨np_S.mono (op := np_putf 12 23 (.array .int)) (np_s_putF hX dX12_init_167 hmn (C := RX12) (T := TX12) (N := 77) (ty0 := tyX12) rfl guX12 tyX12_ok nmX12 (by decide) gw1659 rfl rfl rfl) nq_putf_le, List.forall_mem_cons.mpr ⟨np_s_aload_n hX dX12_init_170 rfl, List.forall_mem_cons.mpr ⟨np_s_iconst hX dX12_init_171 (by decide), List.forall_mem_cons.mpr ⟨np_S.mono (op := np_newa .int 2 (2, .inl fun _ => 0) 55 6212) (np_s_newa hX dX12_init_172 rfl gw183 (by decide) (by intro C h; cases h) (by decide) (fun _ => vp_cell_i _ _ _) (by decide) (fun _ _ => rfl) (fun _ => trivial)) nq_newa_le, List.forall_mem_cons.mpr ⟨np_S.mono (op := np_putf 12 24 (.array .int)) (np_s_putF hX dX12_init_174 hmn (C := RX12) (T := TX12) (N := 77) (ty0 := tyX12) rfl guX12 tyX12_ok nmX12 (by decide) gw1660 rfl rfl rfl) nq_putf_le, List.forall_mem_cons.mpr ⟨np_s_aload_n hX dX12_init_177 rfl, List.forall_mem_cons.mpr ⟨np_s_iconst hX dX12_init_178 (by decide), List.forall_mem_cons.mpr ⟨np_S.mono (op := np_newa .int 2 (2, .inl fun _ => 0) 55 6212) (np_s_newa hX dX12_init_179 rfl gw183 (by decide) (by intro C h; cases h) (by decide) (fun _ => vp_cell_i _ _ _) (by decide) (fun _ _ => rfl) (fun _ => trivial)) nq_newa_le, List.forall_mem_cons.mpr ⟨np_S.mono (op := np_putf 12 25 (.array .int)) (np_s_putF hX dX12_init_181 hmn (C := RX12) (T := TX12) (N := 77) (ty0 := tyX12) rfl guX12 tyX12_ok nmX12 (by decide) gw1661 rfl rfl rfl) nq_putf_le, List.forall_mem_cons.mpr ⟨np_s_aload_n hX dX12_init_184 rfl, List.forall_mem_cons.mpr ⟨np_s_iconst hX dX12_init_185 (by decide), List.forall_mem_cons.mpr ⟨np_S.mono (op := np_newa .int 2 (2, .inl fun _ => 0) 55 6212) (np_s_newa hX dX12_init_186 rfl gw183 (by decide) (by intro C h; cases h) (by decide) (fun _ => vp_cell_i _ _ _) (by decide) (fun _ _ => rfl) (fun _ => trivial)) nq_newa_le, List.forall_mem_cons.mpr ⟨np_S.mono (op := np_putf 12 26 (.array .int)) (np_s_putF hX dX12_init_188 hmn (C := RX12) (T := TX12) (N := 77) (ty0 := tyX12) rfl guX12 tyX12_ok nmX12 (by decide) gw1662 rfl rfl rfl) nq_putf_le, List.forall_mem_cons.mpr ⟨np_s_aload_n hX dX12_init_191 rfl, List.forall_mem_cons.mpr ⟨np_s_sipush hX dX12_init_192 (by decide), List.forall_mem_cons.mpr ⟨np_S.mono (op := np_newa .int 1152 (1152, .inl fun _ => 0) 55 6212) (np_s_newa hX dX12_init_195 rfl gw183 (by decide) (by intro C h; cases h) (by decide) (fun _ => vp_cell_i _ _ _) (by decide) (fun _ _ => rfl) (fun _ => trivial)) nq_newa_le, List.forall_mem_cons.mpr ⟨np_S.mono (op := np_putf 12 27 (.array .int)) (np_s_putF hX dX12_init_197 hmn (C := RX12) (T := TX12) (N := 77) (ty0 := tyX12) rfl guX12 tyX12_ok nmX12 (by decide) gw1663 rfl rfl rfl) nq_putf_le, List.forall_mem_cons.mpr ⟨np_s_aload_n hX dX12_init_200 rfl, List.forall_mem_cons.mpr ⟨np_s_bipush hX dX12_init_201 (by decide), List.forall_mem_cons.mpr ⟨np_S.mono (op := np_newa .int 48 (48, .inl fun _ => 0) 55 6212) (np_s_newa hX dX12_init_203 rfl gw183 (by decide) (by intro C h; cases h) (by decide) (fun _ => vp_cell_i _ _ _) (by decide) (fun _ _ => rfl) (fun _ => trivial)) nq_newa_le, List.forall_mem_cons.mpr ⟨np_S.mono (op := np_putf 12 28 (.array .int)) (np_s_putF hX dX12_init_205 hmn (C := RX12) (T := TX12) (N := 77) (ty0 := tyX12) rfl guX12 tyX12_ok nmX12 (by decide) gw1664 rfl rfl rfl) nq_putf_le, List.forall_mem_cons.mpr ⟨np_s_aload_n hX dX12_init_208 rfl, List.forall_mem_cons.mpr ⟨np_s_iconst hX dX12_init_209 (by decide), List.forall_mem_cons.mpr ⟨np_S.mono (op := np_newa .int 2 (2, .inl fun _ => 0) 55 6212) (np_s_newa hX dX12_init_210 rfl gw183 (by decide) (by intro C h; cases h) (by decide) (fun _ => vp_cell_i _ _ _) (by decide) (fun _ _ => rfl) (fun _ => trivial)) nq_newa_le, List.forall_mem_cons.mpr ⟨np_S.mono (op := np_putf 12 29 (.array .int)) (np_s_putF hX dX12_init_212 hmn (C := RX12) (T := TX12) (N := 77) (ty0 := tyX12) rfl guX12 tyX12_ok nmX12 (by decide) gw1665 rfl rfl rfl) nq_putf_le, List.forall_mem_cons.mpr ⟨np_s_aload_n hX dX12_init_215 rfl, List.forall_mem_cons.mpr ⟨np_s_sipush hX dX12_init_216 (by decide), List.forall_mem_cons.mpr ⟨np_S.mono (op := np_newa .int 602 (602, .inl fun _ => 0) 55 6212) (np_s_newa hX dX12_init_219 rfl gw183 (by decide) (by intro C h; cases h) (by decide) (fun _ => vp_cell_i _ _ _) (by decide) (fun _ _ => rfl) (fun _ => trivial)) nq_newa_le, List.forall_mem_cons.mpr ⟨np_S.mono (op := np_putf 12 30 (.array .int)) (np_s_putF hX dX12_init_221 hmn (C := RX12) (T := TX12) (N := 77) (ty0 := tyX12) rfl guX12 tyX12_ok nmX12 (by decide) gw1666 rfl rfl rfl) nq_putf_le, List.forall_mem_cons.mpr ⟨np_s_aload_n hX dX12_init_224 rfl, List.forall_mem_cons.mpr ⟨np_s_sipush hX dX12_init_225 (by decide), List.forall_mem_cons.mpr ⟨np_S.mono (op := np_newa .int 602 (602, .inl fun _ => 0) 55 6212) (np_s_newa hX dX12_init_228 rfl gw183 (by decide) (by intro C h; cases h) (by decide) (fun _ => vp_cell_i _ _ _) (by decide) (fun _ _ => rfl) (fun _ => trivial)) nq_newa_le, List.forall_mem_cons.mpr ⟨np_S.mono (op := np_putf 12 31 (.array .int)) (np_s_putF hX dX12_init_230 hmn (C := RX12) (T := TX12) (N := 77) (ty0 := tyX12) rfl guX12 tyX12_ok nmX12 (by decide) gw1667 rfl rfl rfl) nq_putf_le, List.forall_mem_cons.mpr ⟨np_s_aload_n hX dX12_init_233 rfl, List.forall_mem_cons.mpr ⟨np_s_sipush hX dX12_init_234 (by decide), List.forall_mem_cons.mpr ⟨np_S.mono (op := np_newa .int 602 (602, .inl fun _ => 0) 55 6212) (np_s_newa hX dX12_init_237 rfl gw183 (by decide) (by intro C h; cases h) (by decide) (fun _ => vp_cell_i _ _ _) (by decide) (fun _ _ => rfl) (fun _ => trivial)) nq_newa_le, List.forall_mem_cons.mpr ⟨np_S.mono (op := np_putf 12 32 (.array .int)) (np_s_putF hX dX12_init_239 hmn (C := RX12) (T := TX12) (N := 77) (ty0 := tyX12) rfl guX12 tyX12_ok nmX12 (by decide) gw1668 rfl rfl rfl) nq_putf_le, List.forall_mem_cons.mpr ⟨np_s_aload_n hX dX12_init_242 rfl, List.forall_mem_cons.mpr ⟨np_s_bipush hX dX12_init_243 (by decide), List.forall_mem_cons.mpr ⟨np_S.mono (op := np_newa .int 6 (6, .inl fun _ => 0) 55 6212) (np_s_newa hX dX12_init_245 rfl gw183 (by decide) (by intro C h; cases h) (by decide) (fun _ => vp_cell_i _ _ _) (by decide) (fun _ _ => rfl) (fun _ => trivial)) nq_newa_le, List.forall_mem_cons.mpr ⟨np_S.mono (op := np_putf 12 34 (.array .int)) (np_s_putF hX dX12_init_247 hmn (C := RX12) (T := TX12) (N := 77) (ty0 := tyX12) rfl guX12 tyX12_ok nmX12 (by decide) gw1670 rfl rfl rfl) nq_putf_le, List.forall_mem_cons.mpr ⟨np_s_aload_n hX dX12_init_250 rfl, List.forall_mem_cons.mpr ⟨np_s_bipush hX dX12_init_251 (by decide), List.forall_mem_cons.mpr ⟨np_S.mono (op := np_newa .int 6 (6, .inl fun _ => 0) 55 6212) (np_s_newa hX dX12_init_253 rfl gw183 (by decide) (by intro C h; cases h) (by decide) (fun _ => vp_cell_i _ _ _) (by decide) (fun _ _ => rfl) (fun _ => trivial)) nq_newa_le, List.forall_mem_cons.mpr ⟨np_S.mono (op := np_putf 12 35 (.array .int)) (np_s_putF hX dX12_init_255 hmn (C := RX12) (T := TX12) (N := 77) (ty0 := tyX12) rfl guX12 tyX12_ok nmX12 (by decide) gw1671 rfl rfl rfl) nq_putf_le, List.forall_mem_cons.mpr ⟨np_s_aload_n hX dX12_init_258 rfl, List.forall_mem_cons.mpr ⟨np_s_bipush hX dX12_init_259 (by decide), List.forall_mem_cons.mpr ⟨np_S.mono (op := np_newa .int 6 (6, .inl fun _ => 0) 55 6212) (np_s_newa hX dX12_init_261 rfl gw183 (by decide) (by intro C h; cases h) (by decide) (fun _ => vp_cell_i _ _ _) (by decide) (fun _ _ => rfl) (fun _ => trivial)) nq_newa_le, List.forall_mem_cons.mpr ⟨np_S.mono (op := np_putf 12 36 (.array .int)) (np_s_putF hX dX12_init_263 hmn (C := RX12) (T := TX12) (N := 77) (ty0 := tyX12) rfl guX12 tyX12_ok nmX12 (by decide) gw1672 rfl rfl rfl) nq_putf_le, List.forall_mem_cons.mpr ⟨np_s_aload_n hX dX12_init_266 rfl, List.forall_mem_cons.mpr ⟨np_s_bipush hX dX12_init_267 (by decide), List.forall_mem_cons.mpr ⟨np_S.mono (op := np_newa .int 6 (6, .inl fun _ => 0) 55 6212) (np_s_newa hX dX12_init_269 rfl gw183 (by decide) (by intro C h; cases h) (by decide) (fun _ => vp_cell_i _ _ _) (by decide) (fun _ _ => rfl) (fun _ => trivial)) nq_newa_le, List.forall_mem_cons.mpr ⟨np_S.mono (op := np_putf 12 37 (.array .int)) (np_s_putF hX dX12_init_271 hmn (C := RX12) (T := TX12) (N := 77) (ty0 := tyX12) rfl guX12 tyX12_ok nmX12 (by decide) gw1673 rfl rfl rfl) nq_putf_le, List.forall_mem_cons.mpr ⟨np_s_aload_n hX dX12_init_274 rfl, List.forall_mem_cons.mpr ⟨np_s_bipush hX dX12_init_275 (by decide), List.forall_mem_cons.mpr ⟨np_S.mono (op := np_newa .int 8 (8, .inl fun _ => 0) 55 6212) (np_s_newa hX dX12_init_277 rfl gw183 (by decide) (by intro C h; cases h) (by decide) (fun _ => vp_cell_i _ _ _) (by decide) (fun _ _ => rfl) (fun _ => trivial)) nq_newa_le, List.forall_mem_cons.mpr ⟨np_S.mono (op := np_putf 12 38 (.array .int)) (np_s_putF hX dX12_init_279 hmn (C := RX12) (T := TX12) (N := 77) (ty0 := tyX12) rfl guX12 tyX12_ok nmX12 (by decide) gw1674 rfl rfl rfl) nq_putf_le, List.forall_mem_cons.mpr ⟨np_s_aload_n hX dX12_init_282 rfl, List.forall_mem_cons.mpr ⟨np_s_bipush hX dX12_init_283 (by decide), List.forall_mem_cons.mpr ⟨np_S.mono (op := np_newa .int 8 (8, .inl fun _ => 0) 55 6212) (np_s_newa hX dX12_init_285 rfl gw183 (by decide) (by intro C h; cases h) (by decide) (fun _ => vp_cell_i _ _ _) (by decide) (fun _ _ => rfl) (fun _ => trivial)) nq_newa_le, List.forall_mem_cons.mpr ⟨np_S.mono (op := np_putf 12 39 (.array .int)) (np_s_putF hX dX12_init_287 hmn (C := RX12) (T := TX12) (N := 77) (ty0 := tyX12) rfl guX12 tyX12_ok nmX12 (by decide) gw1675 rfl rfl rfl) nq_putf_le, List.forall_mem_cons.mpr ⟨np_s_aload_n hX dX12_init_290 rfl, List.forall_mem_cons.mpr ⟨np_s_bipush hX dX12_init_291 (by decide), List.forall_mem_cons.mpr ⟨np_S.mono (op := np_newa .int 8 (8, .inl fun _ => 0) 55 6212) (np_s_newa hX dX12_init_293 rfl gw183 (by decide) (by intro C h; cases h) (by decide) (fun _ => vp_cell_i _ _ _) (by decide) (fun _ _ => rfl) (fun _ => trivial)) nq_newa_le, List.forall_mem_cons.mpr ⟨np_S.mono (op := np_putf 12 40 (.array .int)) (np_s_putF hX dX12_init_295 hmn (C := RX12) (T := TX12) (N := 77) (ty0 := tyX12) rfl guX12 tyX12_ok nmX12 (by decide) gw1676 rfl rfl rfl) nq_putf_le, List.forall_mem_cons.mpr ⟨np_s_aload_n hX dX12_init_298 rfl, List.forall_mem_cons.mpr ⟨np_s_sipush hX dX12_init_299 (by decide), List.forall_mem_cons.mpr ⟨np_S.mono (op := np_newa .int 480 (480, .inl fun _ => 0) 55 6212) (np_s_newa hX dX12_init_302 rfl gw183 (by decide) (by intro C h; cases h) (by decide) (fun _ => vp_cell_i _ _ _) (by decide) (fun _ _ => rfl) (fun _ => trivial)) nq_newa_le, List.forall_mem_cons.mpr ⟨np_S.mono (op := np_putf 12 42 (.array .int)) (np_s_putF hX dX12_init_304 hmn (C := RX12) (T := TX12) (N := 77) (ty0 := tyX12) rfl guX12 tyX12_ok nmX12 (by decide) gw1678 rfl rfl rfl) nq_putf_le, List.forall_mem_cons.mpr ⟨np_s_aload_n hX dX12_init_307 rfl, List.forall_mem_cons.mpr ⟨np_s_sipush hX dX12_init_308 (by decide), List.forall_mem_cons.mpr ⟨np_S.mono (op := np_newa .int 480 (480, .inl fun _ => 0) 55 6212) (np_s_newa hX dX12_init_311 rfl gw183 (by decide) (by intro C h; cases h) (by decide) (fun _ => vp_cell_i _ _ _) (by decide) (fun _ _ => rfl) (fun _ => trivial)) nq_newa_le, List.forall_mem_cons.mpr ⟨np_S.mono (op := np_putf 12 43 (.array .int)) (np_s_putF hX dX12_init_313 hmn (C := RX12) (T := TX12) (N := 77) (ty0 := tyX12) rfl guX12 tyX12_ok nmX12 (by decide) gw1679 rfl rfl rfl) nq_putf_le, List.forall_mem_cons.mpr ⟨np_s_aload_n hX dX12_init_316 rfl, List.forall_mem_cons.mpr ⟨np_s_bipush hX dX12_init_317 (by decide), List.forall_mem_cons.mpr ⟨np_S.mono (op := np_newa .int 64 (64, .inl fun _ => 0) 55 6212) (np_s_newa hX dX12_init_319 rfl gw183 (by decide) (by intro C h; cases h) (by decide) (fun _ => vp_cell_i _ _ _) (by decide) (fun _ _ => rfl) (fun _ => trivial)) nq_newa_le, List.forall_mem_cons.mpr ⟨np_S.mono (op := np_putf 12 44 (.array .int)) (np_s_putF hX dX12_init_321 hmn (C := RX12) (T := TX12) (N := 77) (ty0 := tyX12) rfl guX12 tyX12_ok nmX12 (by decide) gw1680 rfl rfl rfl) nq_putf_le, List.forall_mem_cons.mpr ⟨np_s_aload_n hX dX12_init_324 rfl, List.forall_mem_cons.mpr ⟨np_s_bipush hX dX12_init_325 (by decide), List.forall_mem_cons.mpr ⟨np_S.mono (op := np_newa .int 64 (64, .inl fun _ => 0) 55 6212) (np_s_newa hX dX12_init_327 rfl gw183 (by decide) (by intro C h; cases h) (by decide) (fun _ => vp_cell_i _ _ _) (by decide) (fun _ _ => rfl) (fun _ => trivial)) nq_newa_le, List.forall_mem_cons.mpr ⟨np_S.mono (op := np_putf 12 45 (.array .int)) (np_s_putF hX dX12_init_329 hmn (C := RX12) (T := TX12) (N := 77) (ty0 := tyX12) rfl guX12 tyX12_ok nmX12 (by decide) gw1681 rfl rfl rfl) nq_putf_le, List.forall_mem_cons.mpr ⟨np_s_aload_n hX dX12_init_332 rfl, List.forall_mem_cons.mpr ⟨np_s_bipush hX dX12_init_333 (by decide), List.forall_mem_cons.mpr ⟨np_S.mono (op := np_newa .int 60 (60, .inl fun _ => 0) 55 6212) (np_s_newa hX dX12_init_335 rfl gw183 (by decide) (by intro C h; cases h) (by decide) (fun _ => vp_cell_i _ _ _) (by decide) (fun _ _ => rfl) (fun _ => trivial)) nq_newa_le, List.forall_mem_cons.mpr ⟨np_S.mono (op := np_putf 12 47 (.array .int)) (np_s_putF hX dX12_init_337 hmn (C := RX12) (T := TX12) (N := 77) (ty0 := tyX12) rfl guX12 tyX12_ok nmX12 (by decide) gw1683 rfl rfl rfl) nq_putf_le, List.forall_mem_cons.mpr ⟨np_s_aload_n hX dX12_init_340 rfl, List.forall_mem_cons.mpr ⟨np_s_bipush hX dX12_init_341 (by decide), List.forall_mem_cons.mpr ⟨np_S.mono (op := np_newa .int 60 (60, .inl fun _ => 0) 55 6212) (np_s_newa hX dX12_init_343 rfl gw183 (by decide) (by intro C h; cases h) (by decide) (fun _ => vp_cell_i _ _ _) (by decide) (fun _ _ => rfl) (fun _ => trivial)) nq_newa_le, List.forall_mem_cons.mpr ⟨np_S.mono (op := np_putf 12 48 (.array .int)) (np_s_putF hX dX12_init_345 hmn (C := RX12) (T := TX12) (N := 77) (ty0 := tyX12) rfl guX12 tyX12_ok nmX12 (by decide) gw1684 rfl rfl rfl) nq_putf_le, List.forall_mem_cons.mpr ⟨np_s_aload_n hX dX12_init_348 rfl, List.forall_mem_cons.mpr ⟨np_s_bipush hX dX12_init_349 (by decide), List.forall_mem_cons.mpr ⟨np_S.mono (op := np_newa .long 60 (60, .inr (.inl fun _ => 0)) 55 6212) (np_s_newa hX dX12_init_351 rfl gw1869 (by decide) (by intro C h; cases h) (by decide) (fun _ => vp_cell_l _ _ _) (by decide) (fun _ _ => rfl) (fun _ => trivial)) nq_newa_le, List.forall_mem_cons.mpr ⟨np_S.mono (op := np_putf 12 49 (.array .long)) (np_s_putF hX dX12_init_353 hmn (C := RX12) (T := TX12) (N := 77) (ty0 := tyX12) rfl guX12 tyX12_ok nmX12 (by decide) gw1685 rfl rfl rfl) nq_putf_le, List.forall_mem_cons.mpr ⟨np_s_aload_n hX dX12_init_356 rfl, List.forall_mem_cons.mpr ⟨np_s_bipush hX dX12_init_357 (by decide), List.forall_mem_cons.mpr ⟨np_S.mono (op := np_newa .int 60 (60, .inl fun _ => 0) 55 6212) (np_s_newa hX dX12_init_359 rfl gw183 (by decide) (by intro C h; cases h) (by decide) (fun _ => vp_cell_i _ _ _) (by decide) (fun _ _ => rfl) (fun _ => trivial)) nq_newa_le, List.forall_mem_cons.mpr ⟨np_S.mono (op := np_putf 12 50 (.array .int)) (np_s_putF hX dX12_init_361 hmn (C := RX12) (T := TX12) (N := 77) (ty0 := tyX12) rfl guX12 tyX12_ok nmX12 (by decide) gw1686 rfl rfl rfl) nq_putf_le, List.forall_mem_cons.mpr ⟨np_s_aload_n hX dX12_init_364 rfl, List.forall_mem_cons.mpr ⟨np_s_bipush hX dX12_init_365 (by decide), List.forall_mem_cons.mpr ⟨np_S.mono (op := np_newa .int 24 (24, .inl fun _ => 0) 55 6212) (np_s_newa hX dX12_init_367 rfl gw183 (by decide) (by intro C h; cases h) (by decide) (fun _ => vp_cell_i _ _ _) (by decide) (fun _ _ => rfl) (fun _ => trivial)) nq_newa_le, List.forall_mem_cons.mpr ⟨np_S.mono (op := np_putf 12 51 (.array .int)) (np_s_putF hX dX12_init_369 hmn (C := RX12) (T := TX12) (N := 77) (ty0 := tyX12) rfl guX12 tyX12_ok nmX12 (by decide) gw1687 rfl rfl rfl) nq_putf_le, List.forall_mem_cons.mpr ⟨np_s_aload_n hX dX12_init_372 rfl, List.forall_mem_cons.mpr ⟨np_s_bipush hX dX12_init_373 (by decide), List.forall_mem_cons.mpr ⟨np_S.mono (op := np_newa .int 64 (64, .inl fun _ => 0) 55 6212) (np_s_newa hX dX12_init_375 rfl gw183 (by decide) (by intro C h; cases h) (by decide) (fun _ => vp_cell_i _ _ _) (by decide) (fun _ _ => rfl) (fun _ => trivial)) nq_newa_le, List.forall_mem_cons.mpr ⟨np_S.mono (op := np_putf 12 61 (.array .int)) (np_s_putF hX dX12_init_377 hmn (C := RX12) (T := TX12) (N := 77) (ty0 := tyX12) rfl guX12 tyX12_ok nmX12 (by decide) gw1697 rfl rfl rfl) nq_putf_le, List.forall_mem_cons.mpr ⟨np_s_aload_n hX dX12_init_380 rfl, List.forall_mem_cons.mpr ⟨np_s_bipush hX dX12_init_381 (by decide), List.forall_mem_cons.mpr ⟨np_S.mono (op := np_newa .int 64 (64, .inl fun _ => 0) 55 6212) (np_s_newa hX dX12_init_383 rfl gw183 (by decide) (by intro C h; cases h) (by decide) (fun _ => vp_cell_i _ _ _) (by decide) (fun _ _ => rfl) (fun _ => trivial)) nq_newa_le, List.forall_mem_cons.mpr ⟨np_S.mono (op := np_putf 12 62 (.array .int)) (np_s_putF hX dX12_init_385 hmn (C := RX12) (T := TX12) (N := 77) (ty0 := tyX12) rfl guX12 tyX12_ok nmX12 (by decide) gw1698 rfl rfl rfl) nq_putf_le, List.forall_mem_cons.mpr ⟨np_s_aload_n hX dX12_init_388 rfl, List.forall_mem_cons.mpr ⟨np_s_bipush hX dX12_init_389 (by decide), List.forall_mem_cons.mpr ⟨np_S.mono (op := np_newa .int 64 (64, .inl fun _ => 0) 55 6212) (np_s_newa hX dX12_init_391 rfl gw183 (by decide) (by intro C h; cases h) (by decide) (fun _ => vp_cell_i _ _ _) (by decide) (fun _ _ => rfl) (fun _ => trivial)) nq_newa_le, List.forall_mem_cons.mpr ⟨np_S.mono (op := np_putf 12 63 (.array .int)) (np_s_putF hX dX12_init_393 hmn (C := RX12) (T := TX12) (N := 77) (ty0 := tyX12) rfl guX12 tyX12_ok nmX12 (by decide) gw1699 rfl rfl rfl) nq_putf_le, List.forall_mem_cons.mpr ⟨np_s_aload_n hX dX12_init_396 rfl, List.forall_mem_cons.mpr ⟨np_s_bipush hX dX12_init_397 (by decide), List.forall_mem_cons.mpr ⟨np_S.mono (op := np_newa .int 64 (64, .inl fun _ => 0) 55 6212) (np_s_newa hX dX12_init_399 rfl gw183 (by decide) (by intro C h; cases h) (by decide) (fun _ => vp_cell_i _ _ _) (by decide) (fun _ _ => rfl) (fun _ => trivial)) nq_newa_le, List.forall_mem_cons.mpr ⟨np_S.mono (op := np_putf 12 64 (.array .int)) (np_s_putF hX dX12_init_401 hmn (C := RX12) (T := TX12) (N := 77) (ty0 := tyX12) rfl guX12 tyX12_ok nmX12 (by decide) gw1700 rfl rfl rfl) nq_putf_le, List.forall_mem_cons.mpr ⟨np_s_aload_n hX dX12_init_404 rfl, List.forall_mem_cons.mpr ⟨np_s_bipush hX dX12_init_405 (by decide), List.forall_mem_cons.mpr ⟨np_S.mono (op := np_newa .int 64 (64, .inl fun _ => 0) 55 6212) (np_s_newa hX dX12_init_407 rfl gw183 (by decide) (by intro C h; cases h) (by decide) (fun _ => vp_cell_i _ _ _) (by decide) (fun _ _ => rfl) (fun _ => trivial)) nq_newa_le, List.forall_mem_cons.mpr ⟨np_S.mono (op := np_putf 12 65 (.array .int)) (np_s_putF hX dX12_init_409 hmn (C := RX12) (T := TX12) (N := 77) (ty0 := tyX12) rfl guX12 tyX12_ok nmX12 (by decide) gw1701 rfl rfl rfl) nq_putf_le, List.forall_mem_cons.mpr ⟨np_s_aload_n hX dX12_init_412 rfl, List.forall_mem_cons.mpr ⟨np_s_bipush hX dX12_init_413 (by decide), List.forall_mem_cons.mpr ⟨np_S.mono (op := np_newa .int 24 (24, .inl fun _ => 0) 55 6212) (np_s_newa hX dX12_init_415 rfl gw183 (by decide) (by intro C h; cases h) (by decide) (fun _ => vp_cell_i _ _ _) (by decide) (fun _ _ => rfl) (fun _ => trivial)) nq_newa_le, List.forall_mem_cons.mpr ⟨np_S.mono (op := np_putf 12 67 (.array .int)) (np_s_putF hX dX12_init_417 hmn (C := RX12) (T := TX12) (N := 77) (ty0 := tyX12) rfl guX12 tyX12_ok nmX12 (by decide) gw1703 rfl rfl rfl) nq_putf_le, List.forall_mem_cons.mpr ⟨np_s_aload_n hX dX12_init_420 rfl, List.forall_mem_cons.mpr ⟨np_s_bipush hX dX12_init_421 (by decide), List.forall_mem_cons.mpr ⟨np_S.mono (op := np_newa .int 80 (80, .inl fun _ => 0) 55 6212) (np_s_newa hX dX12_init_423 rfl gw183 (by decide) (by intro C h; cases h) (by decide) (fun _ => vp_cell_i _ _ _) (by decide) (fun _ _ => rfl) (fun _ => trivial)) nq_newa_le, List.forall_mem_cons.mpr ⟨np_S.mono (op := np_putf 12 69 (.array .int)) (np_s_putF hX dX12_init_425 hmn (C := RX12) (T := TX12) (N := 77) (ty0 := tyX12) rfl guX12 tyX12_ok nmX12 (by decide) gw1705 rfl rfl rfl) nq_putf_le, List.forall_mem_cons.mpr ⟨np_s_aload_n hX dX12_init_428 rfl, List.forall_mem_cons.mpr ⟨np_s_bipush hX dX12_init_429 (by decide), List.forall_mem_cons.mpr ⟨np_S.mono (op := np_newa .int 8 (8, .inl fun _ => 0) 55 6212) (np_s_newa hX dX12_init_431 rfl gw183 (by decide) (by intro C h; cases h) (by decide) (fun _ => vp_cell_i _ _ _) (by decide) (fun _ _ => rfl) (fun _ => trivial)) nq_newa_le, List.forall_mem_cons.mpr ⟨np_S.mono (op := np_putf 12 72 (.array .int)) (np_s_putF hX dX12_init_433 hmn (C := RX12) (T := TX12) (N := 77) (ty0 := tyX12) rfl guX12 tyX12_ok nmX12 (by decide) gw1708 rfl rfl rfl) nq_putf_le, List.forall_mem_cons.mpr ⟨np_s_aload_n hX dX12_init_436 rfl, List.forall_mem_cons.mpr ⟨np_s_bipush hX dX12_init_437 (by decide), List.forall_mem_cons.mpr ⟨np_S.mono (op := np_newa .int 8 (8, .inl fun _ => 0) 55 6212) (np_s_newa hX dX12_init_439 rfl gw183 (by decide) (by intro C h; cases h) (by decide) (fun _ => vp_cell_i _ _ _) (by decide) (fun _ _ => rfl) (fun _ => trivial)) nq_newa_le, List.forall_mem_cons.mpr ⟨np_S.mono (op := np_putf 12 73 (.array .int)) (np_s_putF hX dX12_init_441 hmn (C := RX12) (T := TX12) (N := 77) (ty0 := tyX12) rfl guX12 tyX12_ok nmX12 (by decide) gw1709 rfl rfl rfl) nq_putf_le, List.forall_mem_cons.mpr ⟨np_s_aload_n hX dX12_init_444 rfl, List.forall_mem_cons.mpr ⟨np_S.mono (op := np_getf 12 23) (np_s_getf hX dX12_init_445 (C := RX12) (T := TX12) (N := 77) rfl guX12 (by decide) gw1659) nq_getf_le, List.forall_mem_cons.mpr ⟨np_s_iconst hX dX12_init_448 (by decide), List.forall_mem_cons.mpr ⟨np_s_iconst hX dX12_init_449 (by decide), List.forall_mem_cons.mpr ⟨np_S.mono (op := np_iastT .int) (np_s_iast hX dX12_init_450) nq_iastT_le, List.forall_mem_cons.mpr ⟨np_s_aload_n hX dX12_init_451 rfl, List.forall_mem_cons.mpr ⟨np_S.mono (op := np_getf 12 23) (np_s_getf hX dX12_init_452 (C := RX12) (T := TX12) (N := 77) rfl guX12 (by decide) gw1659) nq_getf_le, List.forall_mem_cons.mpr ⟨np_s_iconst hX dX12_init_455 (by decide), List.forall_mem_cons.mpr ⟨np_s_iconst hX dX12_init_456 (by decide), List.forall_mem_cons.mpr ⟨np_S.mono (op := np_iastT .int) (np_s_iast hX dX12_init_457) nq_iastT_le, List.forall_mem_cons.mpr ⟨np_s_aload_n hX dX12_init_458 rfl, List.forall_mem_cons.mpr ⟨np_S.mono (op := np_callV 12 1 sp_X12_dropsSteps 2 0 0 55 6212) (np_s_callV hX C_X12_dropsSteps dX12_init_459 (q := (RX12, TX12, 77)) rfl rfl gw1635 gw142 gw1632 gw1634 gw62 ⟨by decide, by decide, by decide⟩ (by decide) (by decide)) nq_callV_le, List.forall_mem_cons.mpr ⟨np_S.mono (op := np_ret X.2.2.1) (np_s_ret hX dX12_init_462) (nq_ret_le hR), fun _ h => nomatch h⟩⟩⟩⟩⟩⟩⟩⟩⟩⟩⟩⟩⟩⟩⟩⟩⟩⟩⟩⟩⟩⟩⟩⟩⟩⟩⟩⟩⟩⟩⟩⟩⟩⟩⟩⟩⟩⟩⟩⟩⟩⟩⟩⟩⟩⟩⟩⟩⟩⟩⟩⟩⟩⟩⟩⟩⟩⟩⟩⟩⟩⟩⟩⟩⟩⟩⟩⟩⟩⟩⟩⟩⟩⟩⟩⟩⟩⟩⟩⟩⟩⟩⟩⟩⟩⟩⟩⟩⟩⟩⟩⟩⟩⟩⟩⟩⟩⟩⟩⟩⟩⟩⟩⟩⟩⟩⟩⟩⟩⟩⟩⟩⟩⟩⟩⟩⟩⟩⟩⟩⟩⟩⟩⟩⟩⟩⟩⟩⟩⟩⟩⟩⟩⟩⟩⟩⟩⟩⟩⟩⟩⟩⟩⟩⟩⟩⟩⟩⟩⟩⟩⟩⟩⟩⟩⟩⟩⟩⟩⟩⟩⟩⟩⟩⟩⟩⟩⟩⟩⟩⟩⟩⟩⟩⟩⟩⟩⟩⟩⟩⟩⟩⟩⟩⟩⟩⟩⟩⟩⟩⟩⟩⟩⟩⟩⟩⟩⟩⟩⟩⟩⟩⟩⟩⟩⟩⟩⟩⟩⟩⟩⟩⟩⟩⟩⟩⟩⟩⟩⟩⟩⟩⟩⟩⟩⟩⟩⟩⟩⟩⟩⟩⟩⟩⟩
abbrev sp_X12_init : np_Sp := nq_in is_X12_init none 55 6212 400
theorem C_X12_init : np_C yX12_init cX12_init 1 none 1 21 55 6212 sp_X12_init := nq_inC 400 (by decide) (fun X Rt hX hmn hR => so_X12_init hX hmn hR)
def np_lv (vs : List Int32) (xs : Nat → Int32) : Prop := ∀ j v, vs[j]? = some v → xs j = v
def np_sldv (Ls : Nat) (vs : List Int32) : np_Op := fun k pc L st w ce sl => match st with
  | .int i :: .ref a :: r => a = 0 ∧ vp_in i Ls ∧ (match vs[i.toNatClampNeg]? with
    | some v => k (pc + 1) L (.int v :: r) w ce sl
    | none => False)
  | _ => False
theorem np_s_sldv {X : np_Ctx} {pc : Nat} {own : String} {cc : ByteArray} {nL RF RL RC RS : Nat} {rI : Instr} (hX : np_ok own cc nL RF RL RC RS rI X) {Ls : Nat} {vs : List Int32} {xs : Nat → Int32} (hf : np_lf Ls xs X) (hv : np_lv vs xs) (d : decode cc pc = .ok (.iaload, 1)) : np_S X pc (np_sldv Ls vs) := by
  intro k hk L st w ce sl hop
  refine np_s_sld hX hf d k hk L st w ce sl ?_
  unfold np_sldv at hop
  split at hop
  · obtain ⟨h1, h2, h3⟩ := hop
    split at h3
    · rename_i v hv9
      refine ⟨h1, h2, ?_⟩
      rw [hv _ _ hv9]
      exact h3
    · exact h3.elim
  · exact hop.elim
theorem dL_law_0 : decode cL_law 0 = .ok (.new 8, 3) := by decide +kernel
theorem dL_law_3 : decode cL_law 3 = .ok (.dup, 1) := by decide +kernel
theorem dL_law_4 : decode cL_law 4 = .ok (.invokespecial 123, 3) := by decide +kernel
theorem dL_law_7 : decode cL_law 7 = .ok (.astore_n 1, 1) := by decide +kernel
theorem dL_law_8 : decode cL_law 8 = .ok (.new 124, 3) := by decide +kernel
theorem dL_law_11 : decode cL_law 11 = .ok (.dup, 1) := by decide +kernel
theorem dL_law_12 : decode cL_law 12 = .ok (.invokespecial 126, 3) := by decide +kernel
theorem dL_law_15 : decode cL_law 15 = .ok (.astore_n 2, 1) := by decide +kernel
theorem dL_law_16 : decode cL_law 16 = .ok (.iconst 1, 1) := by decide +kernel
theorem dL_law_17 : decode cL_law 17 = .ok (.newarray .long, 2) := by decide +kernel
theorem dL_law_19 : decode cL_law 19 = .ok (.astore_n 3, 1) := by decide +kernel
theorem dL_law_20 : decode cL_law 20 = .ok (.iconst 0, 1) := by decide +kernel
theorem dL_law_21 : decode cL_law 21 = .ok (.istore 4, 2) := by decide +kernel
def isP_L_law (Ls : Nat) (vs : List Int32) (Rt : np_Rt) : List (Nat × np_Op) := [(0, nq_new 11 14 [.null, .null, .int 0, .null, .null, .null, .null, .null, .null, .null, .int 0, .null, .null, .int 0] 600002 7302232), (3, nq_dup), (4, nq_callI 1 sp_X11_init 2 1495 26209 600002 7302232), (7, np_ast 1 1), (8, nq_new 12 77 [.int 0, .null, .null, .null, .null, .int 0, .null, .null, .null, .null, .null, .null, .null, .null, .null, .null, .null, .null, .null, .int 0, .null, .null, .null, .null, .null, .null, .null, .null, .null, .null, .null, .null, .null, .int 0, .null, .null, .null, .null, .null, .null, .null, .int 0, .null, .null, .null, .null, .int 0, .null, .null, .null, .null, .null, .int 0, .int 0, .int 0, .int 0, .int 0, .int 0, .int 0, .int 0, .int 0, .null, .null, .null, .null, .null, .int 0, .null, .int 0, .null, .int 0, .int 0, .null, .null, .long 0, .int 0, .int 0] 600002 7302232), (11, nq_dup), (12, nq_callI 1 sp_X12_init 1 55 6212 600002 7302232), (15, np_ast 1 2), (16, np_push 1 (.int 1)), (17, nq_newa .long 1 (1, .inr (.inl fun _ => 0)) 600002 7302232), (19, np_ast 1 3), (20, np_push 1 (.int 0)), (21, np_ist 2 4)]
set_option maxRecDepth 20000 in
theorem soP_L_law {X : np_Ctx} {Rt : np_Rt} (hX : np_ok RL cL_law 7 11 432 600002 7302232 .ireturn X) {Ls : Nat} {vs : List Int32} {xs : Nat → Int32} (hf : np_lf Ls xs X) (hv : np_lv vs xs) (hR : ∀ st w ce sl, Rt st w ce sl → X.2.2.1 st w ce sl) : ∀ q ∈ isP_L_law Ls vs Rt, np_S X q.1 q.2 :=
  List.forall_mem_cons.mpr ⟨np_S.mono (op := np_new 11 14 [.null, .null, .int 0, .null, .null, .null, .null, .null, .null, .null, .int 0, .null, .null, .int 0] 600002 7302232) (np_s_new hX dL_law_0 (C := RX11) (T := TX11) (ty0 := tyX11) rfl guX11 tyX11_ok gw151 gw152 gw130 ndX11 nfX11) nq_new_le, List.forall_mem_cons.mpr ⟨np_S.mono (op := np_dup) (np_s_dup hX dL_law_3) nq_dup_le, List.forall_mem_cons.mpr ⟨np_S.mono (op := np_callI 1 sp_X11_init 2 1495 26209 600002 7302232) (np_s_callI hX C_X11_init dL_law_4 rfl gw155 gw130 gw153 gw154 ⟨by decide, by decide, by decide⟩ (by decide) (by decide)) nq_callI_le, List.forall_mem_cons.mpr ⟨np_s_astore_n hX dL_law_7 rfl (by decide), List.forall_mem_cons.mpr ⟨np_S.mono (op := np_new 12 77 [.int 0, .null, .null, .null, .null, .int 0, .null, .null, .null, .null, .null, .null, .null, .null, .null, .null, .null, .null, .null, .int 0, .null, .null, .null, .null, .null, .null, .null, .null, .null, .null, .null, .null, .null, .int 0, .null, .null, .null, .null, .null, .null, .null, .int 0, .null, .null, .null, .null, .int 0, .null, .null, .null, .null, .null, .int 0, .int 0, .int 0, .int 0, .int 0, .int 0, .int 0, .int 0, .int 0, .null, .null, .null, .null, .null, .int 0, .null, .int 0, .null, .int 0, .int 0, .null, .null, .long 0, .int 0, .int 0] 600002 7302232) (np_s_new hX dL_law_8 (C := RX12) (T := TX12) (ty0 := tyX12) rfl guX12 tyX12_ok gw1626 gw1627 gw142 ndX12 nfX12) nq_new_le, List.forall_mem_cons.mpr ⟨np_S.mono (op := np_dup) (np_s_dup hX dL_law_11) nq_dup_le, List.forall_mem_cons.mpr ⟨np_S.mono (op := np_callI 1 sp_X12_init 1 55 6212 600002 7302232) (np_s_callI hX C_X12_init dL_law_12 rfl gw1630 gw142 gw1628 gw1629 ⟨by decide, by decide, by decide⟩ (by decide) (by decide)) nq_callI_le, List.forall_mem_cons.mpr ⟨np_s_astore_n hX dL_law_15 rfl (by decide), List.forall_mem_cons.mpr ⟨np_s_iconst hX dL_law_16 (by decide), List.forall_mem_cons.mpr ⟨np_S.mono (op := np_newa .long 1 (1, .inr (.inl fun _ => 0)) 600002 7302232) (np_s_newa hX dL_law_17 rfl gw1869 (by decide) (by intro C h; cases h) (by decide) (fun _ => vp_cell_l _ _ _) (by decide) (fun _ _ => rfl) (fun _ => trivial)) nq_newa_le, List.forall_mem_cons.mpr ⟨np_s_astore_n hX dL_law_19 rfl (by decide), List.forall_mem_cons.mpr ⟨np_s_iconst hX dL_law_20 (by decide), List.forall_mem_cons.mpr ⟨np_s_istore hX dL_law_21 (by decide), fun _ h => nomatch h⟩⟩⟩⟩⟩⟩⟩⟩⟩⟩⟩⟩⟩
abbrev en_1 : np_E := .inr (11, [.ref 2, .ref 7, .int 0, .ref 8, .ref 9, .ref 10, .ref 11, .ref 12, .ref 13, .ref 14, .int 0, .ref 15, .ref 19, .int 0])
abbrev en_2 : np_E := .inr (2, [.ref 3, .ref 4, .ref 5, .ref 6, .int 0])
abbrev en_3 : np_E := .inl (.int, 14, .inl (fun _ => 0))
abbrev en_4 : np_E := .inl (.int, 14, .inl (fun _ => 0))
abbrev en_5 : np_E := .inl (.int, 14, .inl (fun _ => 0))
abbrev en_6 : np_E := .inl (.int, 14, .inl (fun _ => 0))
abbrev en_7 : np_E := .inl ((.object "NotationPress$Description"), 6, .inr (.inr (.inr (.inr (va_up (va_up (va_up (va_up (va_up (va_up (fun _ => none) 0 (some 20)) 1 (some 31)) 2 (some 42)) 3 (some 53)) 4 (some 64)) 5 (some 75))))))
abbrev en_8 : np_E := .inl (.int, 24, .inl (np_fa 24 (-2147483648) (fun _ => 0)))
abbrev en_9 : np_E := .inl ((.object "NotationPress$Text"), 2, .inr (.inr (.inr (.inr (va_up (va_up (fun _ => none) 0 (some 86)) 1 (some 88))))))
abbrev en_10 : np_E := .inl ((.object "NotationPress$Table"), 2, .inr (.inr (.inr (.inr (va_up (va_up (fun _ => none) 0 (some 90)) 1 (some 96))))))
abbrev en_14 : np_E := .inl ((.object "NotationPress$Column"), 6, .inr (.inr (.inr (.inr (va_up (va_up (va_up (va_up (va_up (va_up (fun _ => none) 0 (some 102)) 1 (some 105)) 2 (some 108)) 3 (some 111)) 4 (some 114)) 5 (some 117))))))
abbrev en_15 : np_E := .inr (10, [.ref 16, .ref 17, .ref 18])
abbrev en_16 : np_E := .inl (.int, 8, .inl (np_fa 8 (-1) (fun _ => 0)))
abbrev en_17 : np_E := .inl (.int, 8, .inl (fun _ => 0))
abbrev en_18 : np_E := .inl (.int, 8, .inl (fun _ => 0))
abbrev en_19 : np_E := .inl ((.object "NotationPress$Upgrade"), 8, .inr (.inr (.inr (.inr (va_up (va_up (va_up (va_up (va_up (va_up (va_up (va_up (fun _ => none) 0 (some 120)) 1 (some 127)) 2 (some 134)) 3 (some 141)) 4 (some 148)) 5 (some 155)) 6 (some 162)) 7 (some 169))))))
abbrev en_20 : np_E := .inr (1, [.ref 21, .ref 26, .ref 27, .ref 28, .ref 29, .ref 30, .int 0])
abbrev en_21 : np_E := .inr (2, [.ref 22, .ref 23, .ref 24, .ref 25, .int 0])
abbrev en_22 : np_E := .inl (.int, 14, .inl (fun _ => 0))
abbrev en_23 : np_E := .inl (.int, 14, .inl (fun _ => 0))
abbrev en_24 : np_E := .inl (.int, 14, .inl (fun _ => 0))
abbrev en_25 : np_E := .inl (.int, 14, .inl (fun _ => 0))
abbrev en_26 : np_E := .inl (.int, 8, .inl (fun _ => 0))
abbrev en_27 : np_E := .inl (.int, 8, .inl (fun _ => 0))
abbrev en_28 : np_E := .inl (.int, 8, .inl (fun _ => 0))
abbrev en_29 : np_E := .inl (.int, 8, .inl (fun _ => 0))
abbrev en_30 : np_E := .inl (.int, 8, .inl (fun _ => 0))
abbrev en_31 : np_E := .inr (1, [.ref 32, .ref 37, .ref 38, .ref 39, .ref 40, .ref 41, .int 0])
abbrev en_32 : np_E := .inr (2, [.ref 33, .ref 34, .ref 35, .ref 36, .int 0])
abbrev en_33 : np_E := .inl (.int, 14, .inl (fun _ => 0))
abbrev en_34 : np_E := .inl (.int, 14, .inl (fun _ => 0))
abbrev en_35 : np_E := .inl (.int, 14, .inl (fun _ => 0))
abbrev en_36 : np_E := .inl (.int, 14, .inl (fun _ => 0))
abbrev en_37 : np_E := .inl (.int, 8, .inl (fun _ => 0))
abbrev en_38 : np_E := .inl (.int, 8, .inl (fun _ => 0))
abbrev en_39 : np_E := .inl (.int, 8, .inl (fun _ => 0))
abbrev en_40 : np_E := .inl (.int, 8, .inl (fun _ => 0))
abbrev en_41 : np_E := .inl (.int, 8, .inl (fun _ => 0))
abbrev en_42 : np_E := .inr (1, [.ref 43, .ref 48, .ref 49, .ref 50, .ref 51, .ref 52, .int 0])
abbrev en_43 : np_E := .inr (2, [.ref 44, .ref 45, .ref 46, .ref 47, .int 0])
abbrev en_44 : np_E := .inl (.int, 14, .inl (fun _ => 0))
abbrev en_45 : np_E := .inl (.int, 14, .inl (fun _ => 0))
abbrev en_46 : np_E := .inl (.int, 14, .inl (fun _ => 0))
abbrev en_47 : np_E := .inl (.int, 14, .inl (fun _ => 0))
abbrev en_48 : np_E := .inl (.int, 8, .inl (fun _ => 0))
abbrev en_49 : np_E := .inl (.int, 8, .inl (fun _ => 0))
abbrev en_50 : np_E := .inl (.int, 8, .inl (fun _ => 0))
abbrev en_51 : np_E := .inl (.int, 8, .inl (fun _ => 0))
abbrev en_52 : np_E := .inl (.int, 8, .inl (fun _ => 0))
abbrev en_53 : np_E := .inr (1, [.ref 54, .ref 59, .ref 60, .ref 61, .ref 62, .ref 63, .int 0])
abbrev en_54 : np_E := .inr (2, [.ref 55, .ref 56, .ref 57, .ref 58, .int 0])
abbrev en_55 : np_E := .inl (.int, 14, .inl (fun _ => 0))
abbrev en_56 : np_E := .inl (.int, 14, .inl (fun _ => 0))
abbrev en_57 : np_E := .inl (.int, 14, .inl (fun _ => 0))
abbrev en_58 : np_E := .inl (.int, 14, .inl (fun _ => 0))
abbrev en_59 : np_E := .inl (.int, 8, .inl (fun _ => 0))
abbrev en_60 : np_E := .inl (.int, 8, .inl (fun _ => 0))
abbrev en_61 : np_E := .inl (.int, 8, .inl (fun _ => 0))
abbrev en_62 : np_E := .inl (.int, 8, .inl (fun _ => 0))
abbrev en_63 : np_E := .inl (.int, 8, .inl (fun _ => 0))
abbrev en_64 : np_E := .inr (1, [.ref 65, .ref 70, .ref 71, .ref 72, .ref 73, .ref 74, .int 0])
abbrev en_65 : np_E := .inr (2, [.ref 66, .ref 67, .ref 68, .ref 69, .int 0])
abbrev en_66 : np_E := .inl (.int, 14, .inl (fun _ => 0))
abbrev en_67 : np_E := .inl (.int, 14, .inl (fun _ => 0))
abbrev en_68 : np_E := .inl (.int, 14, .inl (fun _ => 0))
abbrev en_69 : np_E := .inl (.int, 14, .inl (fun _ => 0))
abbrev en_70 : np_E := .inl (.int, 8, .inl (fun _ => 0))
abbrev en_71 : np_E := .inl (.int, 8, .inl (fun _ => 0))
abbrev en_72 : np_E := .inl (.int, 8, .inl (fun _ => 0))
abbrev en_73 : np_E := .inl (.int, 8, .inl (fun _ => 0))
abbrev en_74 : np_E := .inl (.int, 8, .inl (fun _ => 0))
abbrev en_75 : np_E := .inr (1, [.ref 76, .ref 81, .ref 82, .ref 83, .ref 84, .ref 85, .int 0])
abbrev en_76 : np_E := .inr (2, [.ref 77, .ref 78, .ref 79, .ref 80, .int 0])
abbrev en_77 : np_E := .inl (.int, 14, .inl (fun _ => 0))
abbrev en_78 : np_E := .inl (.int, 14, .inl (fun _ => 0))
abbrev en_79 : np_E := .inl (.int, 14, .inl (fun _ => 0))
abbrev en_80 : np_E := .inl (.int, 14, .inl (fun _ => 0))
abbrev en_81 : np_E := .inl (.int, 8, .inl (fun _ => 0))
abbrev en_82 : np_E := .inl (.int, 8, .inl (fun _ => 0))
abbrev en_83 : np_E := .inl (.int, 8, .inl (fun _ => 0))
abbrev en_84 : np_E := .inl (.int, 8, .inl (fun _ => 0))
abbrev en_85 : np_E := .inl (.int, 8, .inl (fun _ => 0))
abbrev en_86 : np_E := .inr (7, [.ref 87, .int 0, .int 1])
abbrev en_87 : np_E := .inl (.char, 300, .inl (fun _ => 0))
abbrev en_88 : np_E := .inr (7, [.ref 89, .int 0, .int 1])
abbrev en_89 : np_E := .inl (.char, 300, .inl (fun _ => 0))
abbrev en_90 : np_E := .inr (6, [.ref 91, .ref 92, .ref 93, .ref 94, .ref 95, .null, .int 0, .int 0, .int 0, .int 0, .int 0, .int 0])
abbrev en_91 : np_E := .inl (.int, 576, .inl (fun _ => 0))
abbrev en_92 : np_E := .inl (.int, 300, .inl (fun _ => 0))
abbrev en_93 : np_E := .inl (.int, 256, .inl (np_fa 256 (-1) (fun _ => 0)))
abbrev en_94 : np_E := .inl (.int, 256, .inl (np_fa 256 (-1) (fun _ => 0)))
abbrev en_95 : np_E := .inl (.int, 192, .inl (fun _ => 0))
abbrev en_96 : np_E := .inr (6, [.ref 97, .ref 98, .ref 99, .ref 100, .ref 101, .null, .int 0, .int 0, .int 0, .int 0, .int 0, .int 0])
abbrev en_97 : np_E := .inl (.int, 576, .inl (fun _ => 0))
abbrev en_98 : np_E := .inl (.int, 300, .inl (fun _ => 0))
abbrev en_99 : np_E := .inl (.int, 256, .inl (np_fa 256 (-1) (fun _ => 0)))
abbrev en_100 : np_E := .inl (.int, 256, .inl (np_fa 256 (-1) (fun _ => 0)))
abbrev en_101 : np_E := .inl (.int, 192, .inl (fun _ => 0))
abbrev en_102 : np_E := .inr (0, [.ref 103, .ref 104, .null, .int 0, .int 0, .int 0])
abbrev en_103 : np_E := .inl (.int, 24, .inl (fun _ => 0))
abbrev en_104 : np_E := .inl (.int, 24, .inl (fun _ => 0))
abbrev en_105 : np_E := .inr (0, [.ref 106, .ref 107, .null, .int 0, .int 0, .int 0])
abbrev en_106 : np_E := .inl (.int, 24, .inl (fun _ => 0))
abbrev en_107 : np_E := .inl (.int, 24, .inl (fun _ => 0))
abbrev en_108 : np_E := .inr (0, [.ref 109, .ref 110, .null, .int 0, .int 0, .int 0])
abbrev en_109 : np_E := .inl (.int, 24, .inl (fun _ => 0))
abbrev en_110 : np_E := .inl (.int, 24, .inl (fun _ => 0))
abbrev en_111 : np_E := .inr (0, [.ref 112, .ref 113, .null, .int 0, .int 0, .int 0])
abbrev en_112 : np_E := .inl (.int, 24, .inl (fun _ => 0))
abbrev en_113 : np_E := .inl (.int, 24, .inl (fun _ => 0))
abbrev en_114 : np_E := .inr (0, [.ref 115, .ref 116, .null, .int 0, .int 0, .int 0])
abbrev en_115 : np_E := .inl (.int, 24, .inl (fun _ => 0))
abbrev en_116 : np_E := .inl (.int, 24, .inl (fun _ => 0))
abbrev en_117 : np_E := .inr (0, [.ref 118, .ref 119, .null, .int 0, .int 0, .int 0])
abbrev en_118 : np_E := .inl (.int, 24, .inl (fun _ => 0))
abbrev en_119 : np_E := .inl (.int, 24, .inl (fun _ => 0))
abbrev en_120 : np_E := .inr (9, [.ref 121, .ref 122, .ref 123, .ref 124, .ref 125, .ref 126, .int 0])
abbrev en_121 : np_E := .inl (.int, 60, .inl (fun _ => 0))
abbrev en_122 : np_E := .inl (.int, 60, .inl (fun _ => 0))
abbrev en_123 : np_E := .inl (.int, 8, .inl (fun _ => 0))
abbrev en_124 : np_E := .inl (.int, 60, .inl (fun _ => 0))
abbrev en_125 : np_E := .inl (.int, 60, .inl (fun _ => 0))
abbrev en_126 : np_E := .inl (.int, 60, .inl (fun _ => 0))
abbrev en_127 : np_E := .inr (9, [.ref 128, .ref 129, .ref 130, .ref 131, .ref 132, .ref 133, .int 0])
abbrev en_128 : np_E := .inl (.int, 60, .inl (fun _ => 0))
abbrev en_129 : np_E := .inl (.int, 60, .inl (fun _ => 0))
abbrev en_130 : np_E := .inl (.int, 8, .inl (fun _ => 0))
abbrev en_131 : np_E := .inl (.int, 60, .inl (fun _ => 0))
abbrev en_132 : np_E := .inl (.int, 60, .inl (fun _ => 0))
abbrev en_133 : np_E := .inl (.int, 60, .inl (fun _ => 0))
abbrev en_134 : np_E := .inr (9, [.ref 135, .ref 136, .ref 137, .ref 138, .ref 139, .ref 140, .int 0])
abbrev en_135 : np_E := .inl (.int, 60, .inl (fun _ => 0))
abbrev en_136 : np_E := .inl (.int, 60, .inl (fun _ => 0))
abbrev en_137 : np_E := .inl (.int, 8, .inl (fun _ => 0))
abbrev en_138 : np_E := .inl (.int, 60, .inl (fun _ => 0))
abbrev en_139 : np_E := .inl (.int, 60, .inl (fun _ => 0))
abbrev en_140 : np_E := .inl (.int, 60, .inl (fun _ => 0))
abbrev en_141 : np_E := .inr (9, [.ref 142, .ref 143, .ref 144, .ref 145, .ref 146, .ref 147, .int 0])
abbrev en_142 : np_E := .inl (.int, 60, .inl (fun _ => 0))
abbrev en_143 : np_E := .inl (.int, 60, .inl (fun _ => 0))
abbrev en_144 : np_E := .inl (.int, 8, .inl (fun _ => 0))
abbrev en_145 : np_E := .inl (.int, 60, .inl (fun _ => 0))
abbrev en_146 : np_E := .inl (.int, 60, .inl (fun _ => 0))
abbrev en_147 : np_E := .inl (.int, 60, .inl (fun _ => 0))
abbrev en_148 : np_E := .inr (9, [.ref 149, .ref 150, .ref 151, .ref 152, .ref 153, .ref 154, .int 0])
abbrev en_149 : np_E := .inl (.int, 60, .inl (fun _ => 0))
abbrev en_150 : np_E := .inl (.int, 60, .inl (fun _ => 0))
abbrev en_151 : np_E := .inl (.int, 8, .inl (fun _ => 0))
abbrev en_152 : np_E := .inl (.int, 60, .inl (fun _ => 0))
abbrev en_153 : np_E := .inl (.int, 60, .inl (fun _ => 0))
abbrev en_154 : np_E := .inl (.int, 60, .inl (fun _ => 0))
abbrev en_155 : np_E := .inr (9, [.ref 156, .ref 157, .ref 158, .ref 159, .ref 160, .ref 161, .int 0])
abbrev en_156 : np_E := .inl (.int, 60, .inl (fun _ => 0))
abbrev en_157 : np_E := .inl (.int, 60, .inl (fun _ => 0))
abbrev en_158 : np_E := .inl (.int, 8, .inl (fun _ => 0))
abbrev en_159 : np_E := .inl (.int, 60, .inl (fun _ => 0))
abbrev en_160 : np_E := .inl (.int, 60, .inl (fun _ => 0))
abbrev en_161 : np_E := .inl (.int, 60, .inl (fun _ => 0))
abbrev en_162 : np_E := .inr (9, [.ref 163, .ref 164, .ref 165, .ref 166, .ref 167, .ref 168, .int 0])
abbrev en_163 : np_E := .inl (.int, 60, .inl (fun _ => 0))
abbrev en_164 : np_E := .inl (.int, 60, .inl (fun _ => 0))
abbrev en_165 : np_E := .inl (.int, 8, .inl (fun _ => 0))
abbrev en_166 : np_E := .inl (.int, 60, .inl (fun _ => 0))
abbrev en_167 : np_E := .inl (.int, 60, .inl (fun _ => 0))
abbrev en_168 : np_E := .inl (.int, 60, .inl (fun _ => 0))
abbrev en_169 : np_E := .inr (9, [.ref 170, .ref 171, .ref 172, .ref 173, .ref 174, .ref 175, .int 0])
abbrev en_170 : np_E := .inl (.int, 60, .inl (fun _ => 0))
abbrev en_171 : np_E := .inl (.int, 60, .inl (fun _ => 0))
abbrev en_172 : np_E := .inl (.int, 8, .inl (fun _ => 0))
abbrev en_173 : np_E := .inl (.int, 60, .inl (fun _ => 0))
abbrev en_174 : np_E := .inl (.int, 60, .inl (fun _ => 0))
abbrev en_175 : np_E := .inl (.int, 60, .inl (fun _ => 0))
abbrev en_176 : np_E := .inr (12, [.int 0, .ref 177, .ref 178, .ref 179, .ref 180, .int 0, .ref 181, .ref 182, .ref 183, .ref 184, .ref 185, .ref 186, .ref 187, .ref 188, .ref 189, .ref 190, .ref 191, .ref 192, .ref 193, .int 0, .ref 194, .ref 195, .ref 196, .ref 197, .ref 198, .ref 199, .ref 200, .ref 201, .ref 202, .ref 203, .ref 204, .ref 205, .ref 206, .int 0, .ref 207, .ref 208, .ref 209, .ref 210, .ref 211, .ref 212, .ref 213, .int 0, .ref 214, .ref 215, .ref 216, .ref 217, .int 0, .ref 218, .ref 219, .ref 220, .ref 221, .ref 222, .int 0, .int 0, .int 0, .int 0, .int 0, .int 0, .int 0, .int 0, .int 0, .ref 223, .ref 224, .ref 225, .ref 226, .ref 227, .int 0, .ref 228, .int 0, .ref 229, .int 0, .int 0, .ref 230, .ref 231, .long 0, .int 0, .int 0])
abbrev en_177 : np_E := .inl (.int, 14, .inl (fun _ => 0))
abbrev en_178 : np_E := .inl (.int, 14, .inl (fun _ => 0))
abbrev en_179 : np_E := .inl (.int, 14, .inl (fun _ => 0))
abbrev en_180 : np_E := .inl (.int, 14, .inl (fun _ => 0))
abbrev en_181 : np_E := .inl (.int, 6, .inl (fun _ => 0))
abbrev en_182 : np_E := .inl (.int, 84, .inl (fun _ => 0))
abbrev en_183 : np_E := .inl (.int, 84, .inl (fun _ => 0))
abbrev en_184 : np_E := .inl (.int, 84, .inl (fun _ => 0))
abbrev en_185 : np_E := .inl (.int, 84, .inl (fun _ => 0))
abbrev en_186 : np_E := .inl (.int, 84, .inl (fun _ => 0))
abbrev en_187 : np_E := .inl (.int, 6, .inl (fun _ => 0))
abbrev en_188 : np_E := .inl (.int, 48, .inl (fun _ => 0))
abbrev en_189 : np_E := .inl (.int, 48, .inl (fun _ => 0))
abbrev en_190 : np_E := .inl (.int, 48, .inl (fun _ => 0))
abbrev en_191 : np_E := .inl (.int, 48, .inl (fun _ => 0))
abbrev en_192 : np_E := .inl (.int, 48, .inl (fun _ => 0))
abbrev en_193 : np_E := .inl (.int, 24, .inl (fun _ => 0))
abbrev en_194 : np_E := .inl (.int, 600, .inl (fun _ => 0))
abbrev en_195 : np_E := .inl (.int, 2, .inl (fun _ => 0))
abbrev en_196 : np_E := .inl (.boolean, 2, .inl (fun _ => 0))
abbrev en_197 : np_E := .inl (.int, 2, .inl (upd (upd (fun _ => 0) 0 (-1)) 1 (-1)))
abbrev en_198 : np_E := .inl (.int, 2, .inl (fun _ => 0))
abbrev en_199 : np_E := .inl (.int, 2, .inl (fun _ => 0))
abbrev en_200 : np_E := .inl (.int, 2, .inl (fun _ => 0))
abbrev en_201 : np_E := .inl (.int, 1152, .inl (fun _ => 0))
abbrev en_202 : np_E := .inl (.int, 48, .inl (fun _ => 0))
abbrev en_203 : np_E := .inl (.int, 2, .inl (fun _ => 0))
abbrev en_204 : np_E := .inl (.int, 602, .inl (fun _ => 0))
abbrev en_205 : np_E := .inl (.int, 602, .inl (fun _ => 0))
abbrev en_206 : np_E := .inl (.int, 602, .inl (fun _ => 0))
abbrev en_207 : np_E := .inl (.int, 6, .inl (fun _ => 0))
abbrev en_208 : np_E := .inl (.int, 6, .inl (fun _ => 0))
abbrev en_209 : np_E := .inl (.int, 6, .inl (fun _ => 0))
abbrev en_210 : np_E := .inl (.int, 6, .inl (fun _ => 0))
abbrev en_211 : np_E := .inl (.int, 8, .inl (upd (upd (upd (upd (upd (upd (upd (upd (fun _ => 0) 0 (-1)) 1 (-1)) 2 (-1)) 3 (-1)) 4 (-1)) 5 (-1)) 6 (-1)) 7 (-1)))
abbrev en_212 : np_E := .inl (.int, 8, .inl (fun _ => 0))
abbrev en_213 : np_E := .inl (.int, 8, .inl (fun _ => 0))
abbrev en_214 : np_E := .inl (.int, 480, .inl (fun _ => 0))
abbrev en_215 : np_E := .inl (.int, 480, .inl (fun _ => 0))
abbrev en_216 : np_E := .inl (.int, 64, .inl (fun _ => 0))
abbrev en_217 : np_E := .inl (.int, 64, .inl (fun _ => 0))
abbrev en_218 : np_E := .inl (.int, 60, .inl (fun _ => 0))
abbrev en_219 : np_E := .inl (.int, 60, .inl (fun _ => 0))
abbrev en_220 : np_E := .inl (.long, 60, .inr (.inl (fun _ => 0)))
abbrev en_221 : np_E := .inl (.int, 60, .inl (fun _ => 0))
abbrev en_222 : np_E := .inl (.int, 24, .inl (fun _ => 0))
abbrev en_223 : np_E := .inl (.int, 64, .inl (fun _ => 0))
abbrev en_224 : np_E := .inl (.int, 64, .inl (fun _ => 0))
abbrev en_225 : np_E := .inl (.int, 64, .inl (fun _ => 0))
abbrev en_226 : np_E := .inl (.int, 64, .inl (fun _ => 0))
abbrev en_227 : np_E := .inl (.int, 64, .inl (fun _ => 0))
abbrev en_228 : np_E := .inl (.int, 24, .inl (fun _ => 0))
abbrev en_229 : np_E := .inl (.int, 80, .inl (fun _ => 0))
abbrev en_230 : np_E := .inl (.int, 8, .inl (fun _ => 0))
abbrev en_231 : np_E := .inl (.int, 8, .inl (fun _ => 0))
abbrev en_232 : np_E := .inl (.long, 1, .inr (.inl (fun _ => 0)))
def np_W0 : List (Nat × np_E) := [(176, en_176), (1, en_1), (2, en_2), (3, en_3), (4, en_4), (5, en_5), (6, en_6), (7, en_7), (8, en_8), (9, en_9), (10, en_10), (14, en_14), (15, en_15), (16, en_16), (17, en_17), (18, en_18), (19, en_19), (20, en_20), (21, en_21), (22, en_22), (23, en_23), (24, en_24), (25, en_25), (26, en_26), (27, en_27), (28, en_28), (29, en_29), (30, en_30), (31, en_31), (32, en_32), (33, en_33), (34, en_34), (35, en_35), (36, en_36), (37, en_37), (38, en_38), (39, en_39), (40, en_40), (41, en_41), (42, en_42), (43, en_43), (44, en_44), (45, en_45), (46, en_46), (47, en_47), (48, en_48), (49, en_49), (50, en_50), (51, en_51), (52, en_52), (53, en_53), (54, en_54), (55, en_55), (56, en_56), (57, en_57), (58, en_58), (59, en_59), (60, en_60), (61, en_61), (62, en_62), (63, en_63), (64, en_64), (65, en_65), (66, en_66), (67, en_67), (68, en_68), (69, en_69), (70, en_70), (71, en_71), (72, en_72), (73, en_73), (74, en_74), (75, en_75), (76, en_76), (77, en_77), (78, en_78), (79, en_79), (80, en_80), (81, en_81), (82, en_82), (83, en_83), (84, en_84), (85, en_85), (86, en_86), (87, en_87), (88, en_88), (89, en_89), (90, en_90), (91, en_91), (92, en_92), (93, en_93), (94, en_94), (95, en_95), (96, en_96), (97, en_97), (98, en_98), (99, en_99), (100, en_100), (101, en_101), (102, en_102), (103, en_103), (104, en_104), (105, en_105), (106, en_106), (107, en_107), (108, en_108), (109, en_109), (110, en_110), (111, en_111), (112, en_112), (113, en_113), (114, en_114), (115, en_115), (116, en_116), (117, en_117), (118, en_118), (119, en_119), (120, en_120), (121, en_121), (122, en_122), (123, en_123), (124, en_124), (125, en_125), (126, en_126), (127, en_127), (128, en_128), (129, en_129), (130, en_130), (131, en_131), (132, en_132), (133, en_133), (134, en_134), (135, en_135), (136, en_136), (137, en_137), (138, en_138), (139, en_139), (140, en_140), (141, en_141), (142, en_142), (143, en_143), (144, en_144), (145, en_145), (146, en_146), (147, en_147), (148, en_148), (149, en_149), (150, en_150), (151, en_151), (152, en_152), (153, en_153), (154, en_154), (155, en_155), (156, en_156), (157, en_157), (158, en_158), (159, en_159), (160, en_160), (161, en_161), (162, en_162), (163, en_163), (164, en_164), (165, en_165), (166, en_166), (167, en_167), (168, en_168), (169, en_169), (170, en_170), (171, en_171), (172, en_172), (173, en_173), (174, en_174), (175, en_175), (177, en_177), (178, en_178), (179, en_179), (180, en_180), (181, en_181), (182, en_182), (183, en_183), (184, en_184), (185, en_185), (186, en_186), (187, en_187), (188, en_188), (189, en_189), (190, en_190), (191, en_191), (192, en_192), (193, en_193), (194, en_194), (195, en_195), (196, en_196), (197, en_197), (198, en_198), (199, en_199), (200, en_200), (201, en_201), (202, en_202), (203, en_203), (204, en_204), (205, en_205), (206, en_206), (207, en_207), (208, en_208), (209, en_209), (210, en_210), (211, en_211), (212, en_212), (213, en_213), (214, en_214), (215, en_215), (216, en_216), (217, en_217), (218, en_218), (219, en_219), (220, en_220), (221, en_221), (222, en_222), (223, en_223), (224, en_224), (225, en_225), (226, en_226), (227, en_227), (228, en_228), (229, en_229), (230, en_230), (231, en_231), (232, en_232)]
abbrev np_L0 : np_L := [(4, .int 0), (3, .ref 232), (2, .ref 176), (1, .ref 1), (0, .ref 0)]
set_option maxRecDepth 20000 in
set_option maxHeartbeats 8000000 in
theorem run_law0 {Rt : np_Rt} {Ls : Nat} {vs : List Int32} : np_runF (isP_L_law Ls vs Rt) [23] (fun pc L st w ce sl => pc = 23 ∧ np_at np_L0 [] 233 np_W0 1553 32513 pc L st w ce sl) 40 0 [(0, .ref 0)] [] (1, fun _ => none) 0 0 := by
  repeat' ((conv => whnf); first | refine np_br_i ?_ ?_ | apply And.intro | refine np_chk_i ?_ ?_ | (intro cc; first | contradiction | (exfalso; (try simp only [Int32.lt_iff_toInt_lt, Int32.le_iff_toInt_le, Int32.reduceSub, Int32.reduceToInt, Int32.reduceNeg, Int32.reduceAdd, Int32.reduceMul, Int32.reduceOfNat] at *); omega) | skip))

  all_goals (first | exact rfl | exact Nat.le_of_ble_eq_true rfl | exact True.intro)

