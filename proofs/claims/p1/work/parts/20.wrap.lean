theorem gw560 : (Jvm.Cond.classLink "NotationPressLaw" (13 : Nat) "java/lang/IndexOutOfBoundsException") ∈ np_gw := np_gwi 560 (by decide +kernel) rfl
theorem gw561 : (Jvm.Cond.classLink "NotationPressLaw" (15 : Nat) "java/lang/IllegalArgumentException") ∈ np_gw := np_gwi 561 (by decide +kernel) rfl
theorem gw562 : (Jvm.Cond.classLink "NotationPressLaw" (17 : Nat) "java/lang/IllegalStateException") ∈ np_gw := np_gwi 562 (by decide +kernel) rfl
theorem gw563 : (Jvm.Cond.methodLink "NotationPressLaw" (7 : Nat) ({ cls := "NotationPress", name := "item", desc := "(IIII)I" } : Jvm.MethodName)) ∈ np_gw := np_gwi 563 (by decide +kernel) rfl
theorem gw564 : (Jvm.Cond.instanceMethod ({ cls := "NotationPress", name := "item", desc := "(IIII)I" } : Jvm.MethodName)) ∈ np_gw := np_gwi 564 (by decide +kernel) rfl
theorem gw565 : (Jvm.Cond.selects "NotationPress" ({ cls := "NotationPress", name := "item", desc := "(IIII)I" } : Jvm.MethodName) ({ cls := "NotationPress", name := "item", desc := "(IIII)I" } : Jvm.MethodName)) ∈ np_gw := np_gwi 565 (by decide +kernel) rfl
theorem gw566 : (Jvm.Cond.code ({ cls := "NotationPress", name := "item", desc := "(IIII)I" } : Jvm.MethodName) prog_1_method_2_code (5 : Nat) (Option.some Jvm.ClassFile.FieldType.int)) ∈ np_gw := np_gwi 566 (by decide +kernel) rfl
theorem gw575 : (Jvm.Cond.castable "java/lang/IndexOutOfBoundsException" "java/lang/IndexOutOfBoundsException") ∈ np_nw := np_nwi 575 (by decide +kernel) rfl
theorem gw649 : (Jvm.Cond.castable "java/lang/IllegalArgumentException" "java/lang/IllegalArgumentException") ∈ np_nw := np_nwi 649 (by decide +kernel) rfl
theorem gw669 : (Jvm.Cond.castable "java/lang/IllegalStateException" "java/lang/IllegalStateException") ∈ np_nw := np_nwi 669 (by decide +kernel) rfl
theorem gw693 : (Jvm.Cond.methodLink "NotationPressLaw" (19 : Nat) ({ cls := "NotationPress", name := "description", desc := "()I" } : Jvm.MethodName)) ∈ np_gw := np_gwi 693 (by decide +kernel) rfl
theorem gw694 : (Jvm.Cond.instanceMethod ({ cls := "NotationPress", name := "description", desc := "()I" } : Jvm.MethodName)) ∈ np_gw := np_gwi 694 (by decide +kernel) rfl
theorem gw695 : (Jvm.Cond.selects "NotationPress" ({ cls := "NotationPress", name := "description", desc := "()I" } : Jvm.MethodName) ({ cls := "NotationPress", name := "description", desc := "()I" } : Jvm.MethodName)) ∈ np_gw := np_gwi 695 (by decide +kernel) rfl
theorem gw696 : (Jvm.Cond.code ({ cls := "NotationPress", name := "description", desc := "()I" } : Jvm.MethodName) prog_1_method_4_code (2 : Nat) (Option.some Jvm.ClassFile.FieldType.int)) ∈ np_gw := np_gwi 696 (by decide +kernel) rfl
theorem gw754 : (Jvm.Cond.methodLink "NotationPressLaw" (23 : Nat) ({ cls := "NotationPress", name := "sure", desc := "(I)I" } : Jvm.MethodName)) ∈ np_gw := np_gwi 754 (by decide +kernel) rfl
theorem gw755 : (Jvm.Cond.instanceMethod ({ cls := "NotationPress", name := "sure", desc := "(I)I" } : Jvm.MethodName)) ∈ np_gw := np_gwi 755 (by decide +kernel) rfl
theorem gw756 : (Jvm.Cond.selects "NotationPress" ({ cls := "NotationPress", name := "sure", desc := "(I)I" } : Jvm.MethodName) ({ cls := "NotationPress", name := "sure", desc := "(I)I" } : Jvm.MethodName)) ∈ np_gw := np_gwi 756 (by decide +kernel) rfl
theorem gw757 : (Jvm.Cond.code ({ cls := "NotationPress", name := "sure", desc := "(I)I" } : Jvm.MethodName) prog_1_method_5_code (3 : Nat) (Option.some Jvm.ClassFile.FieldType.int)) ∈ np_gw := np_gwi 757 (by decide +kernel) rfl
theorem gw773 : (Jvm.Cond.methodLink "NotationPressLaw" (27 : Nat) ({ cls := "NotationPress", name := "constrain", desc := "(IIIIII)I" } : Jvm.MethodName)) ∈ np_gw := np_gwi 773 (by decide +kernel) rfl
theorem gw774 : (Jvm.Cond.instanceMethod ({ cls := "NotationPress", name := "constrain", desc := "(IIIIII)I" } : Jvm.MethodName)) ∈ np_gw := np_gwi 774 (by decide +kernel) rfl
theorem gw775 : (Jvm.Cond.selects "NotationPress" ({ cls := "NotationPress", name := "constrain", desc := "(IIIIII)I" } : Jvm.MethodName) ({ cls := "NotationPress", name := "constrain", desc := "(IIIIII)I" } : Jvm.MethodName)) ∈ np_gw := np_gwi 775 (by decide +kernel) rfl
theorem gw776 : (Jvm.Cond.code ({ cls := "NotationPress", name := "constrain", desc := "(IIIIII)I" } : Jvm.MethodName) prog_1_method_6_code (8 : Nat) (Option.some Jvm.ClassFile.FieldType.int)) ∈ np_gw := np_gwi 776 (by decide +kernel) rfl
theorem gw804 : (Jvm.Cond.methodLink "NotationPressLaw" (31 : Nat) ({ cls := "NotationPress", name := "set", desc := "(III)I" } : Jvm.MethodName)) ∈ np_gw := np_gwi 804 (by decide +kernel) rfl
theorem gw805 : (Jvm.Cond.instanceMethod ({ cls := "NotationPress", name := "set", desc := "(III)I" } : Jvm.MethodName)) ∈ np_gw := np_gwi 805 (by decide +kernel) rfl
theorem gw806 : (Jvm.Cond.selects "NotationPress" ({ cls := "NotationPress", name := "set", desc := "(III)I" } : Jvm.MethodName) ({ cls := "NotationPress", name := "set", desc := "(III)I" } : Jvm.MethodName)) ∈ np_gw := np_gwi 806 (by decide +kernel) rfl
theorem gw807 : (Jvm.Cond.code ({ cls := "NotationPress", name := "set", desc := "(III)I" } : Jvm.MethodName) prog_1_method_7_code (5 : Nat) (Option.some Jvm.ClassFile.FieldType.int)) ∈ np_gw := np_gwi 807 (by decide +kernel) rfl
theorem gw820 : (Jvm.Cond.methodLink "NotationPressLaw" (35 : Nat) ({ cls := "NotationPress", name := "get", desc := "(II)I" } : Jvm.MethodName)) ∈ np_gw := np_gwi 820 (by decide +kernel) rfl
theorem gw821 : (Jvm.Cond.instanceMethod ({ cls := "NotationPress", name := "get", desc := "(II)I" } : Jvm.MethodName)) ∈ np_gw := np_gwi 821 (by decide +kernel) rfl
theorem gw822 : (Jvm.Cond.selects "NotationPress" ({ cls := "NotationPress", name := "get", desc := "(II)I" } : Jvm.MethodName) ({ cls := "NotationPress", name := "get", desc := "(II)I" } : Jvm.MethodName)) ∈ np_gw := np_gwi 822 (by decide +kernel) rfl
theorem gw823 : (Jvm.Cond.code ({ cls := "NotationPress", name := "get", desc := "(II)I" } : Jvm.MethodName) prog_1_method_8_code (3 : Nat) (Option.some Jvm.ClassFile.FieldType.int)) ∈ np_gw := np_gwi 823 (by decide +kernel) rfl
theorem gw827 : (Jvm.Cond.methodLink "NotationPressLaw" (39 : Nat) ({ cls := "NotationPress", name := "message", desc := "(I)I" } : Jvm.MethodName)) ∈ np_gw := np_gwi 827 (by decide +kernel) rfl
theorem gw828 : (Jvm.Cond.instanceMethod ({ cls := "NotationPress", name := "message", desc := "(I)I" } : Jvm.MethodName)) ∈ np_gw := np_gwi 828 (by decide +kernel) rfl
theorem gw829 : (Jvm.Cond.selects "NotationPress" ({ cls := "NotationPress", name := "message", desc := "(I)I" } : Jvm.MethodName) ({ cls := "NotationPress", name := "message", desc := "(I)I" } : Jvm.MethodName)) ∈ np_gw := np_gwi 829 (by decide +kernel) rfl
theorem gw830 : (Jvm.Cond.code ({ cls := "NotationPress", name := "message", desc := "(I)I" } : Jvm.MethodName) prog_1_method_9_code (3 : Nat) (Option.some Jvm.ClassFile.FieldType.int)) ∈ np_gw := np_gwi 830 (by decide +kernel) rfl
theorem gw851 : (Jvm.Cond.methodLink "NotationPressLaw" (42 : Nat) ({ cls := "NotationPress", name := "sample", desc := "(II)Z" } : Jvm.MethodName)) ∈ np_gw := np_gwi 851 (by decide +kernel) rfl
theorem gw852 : (Jvm.Cond.instanceMethod ({ cls := "NotationPress", name := "sample", desc := "(II)Z" } : Jvm.MethodName)) ∈ np_gw := np_gwi 852 (by decide +kernel) rfl
theorem gw853 : (Jvm.Cond.selects "NotationPress" ({ cls := "NotationPress", name := "sample", desc := "(II)Z" } : Jvm.MethodName) ({ cls := "NotationPress", name := "sample", desc := "(II)Z" } : Jvm.MethodName)) ∈ np_gw := np_gwi 853 (by decide +kernel) rfl
theorem gw854 : (Jvm.Cond.code ({ cls := "NotationPress", name := "sample", desc := "(II)Z" } : Jvm.MethodName) prog_1_method_10_code (5 : Nat) (Option.some Jvm.ClassFile.FieldType.boolean)) ∈ np_gw := np_gwi 854 (by decide +kernel) rfl
theorem gw1028 : (Jvm.Cond.methodLink "NotationPressLaw" (46 : Nat) ({ cls := "NotationPress", name := "type", desc := "(II)I" } : Jvm.MethodName)) ∈ np_gw := np_gwi 1028 (by decide +kernel) rfl
theorem gw1029 : (Jvm.Cond.instanceMethod ({ cls := "NotationPress", name := "type", desc := "(II)I" } : Jvm.MethodName)) ∈ np_gw := np_gwi 1029 (by decide +kernel) rfl
theorem gw1030 : (Jvm.Cond.selects "NotationPress" ({ cls := "NotationPress", name := "type", desc := "(II)I" } : Jvm.MethodName) ({ cls := "NotationPress", name := "type", desc := "(II)I" } : Jvm.MethodName)) ∈ np_gw := np_gwi 1030 (by decide +kernel) rfl
theorem gw1031 : (Jvm.Cond.code ({ cls := "NotationPress", name := "type", desc := "(II)I" } : Jvm.MethodName) prog_1_method_11_code (6 : Nat) (Option.some Jvm.ClassFile.FieldType.int)) ∈ np_gw := np_gwi 1031 (by decide +kernel) rfl
theorem gw1053 : (Jvm.Cond.methodLink "NotationPressLaw" (49 : Nat) ({ cls := "NotationPress", name := "print", desc := "(II)I" } : Jvm.MethodName)) ∈ np_gw := np_gwi 1053 (by decide +kernel) rfl
theorem gw1054 : (Jvm.Cond.instanceMethod ({ cls := "NotationPress", name := "print", desc := "(II)I" } : Jvm.MethodName)) ∈ np_gw := np_gwi 1054 (by decide +kernel) rfl
theorem gw1055 : (Jvm.Cond.selects "NotationPress" ({ cls := "NotationPress", name := "print", desc := "(II)I" } : Jvm.MethodName) ({ cls := "NotationPress", name := "print", desc := "(II)I" } : Jvm.MethodName)) ∈ np_gw := np_gwi 1055 (by decide +kernel) rfl
theorem gw1056 : (Jvm.Cond.code ({ cls := "NotationPress", name := "print", desc := "(II)I" } : Jvm.MethodName) prog_1_method_12_code (7 : Nat) (Option.some Jvm.ClassFile.FieldType.int)) ∈ np_gw := np_gwi 1056 (by decide +kernel) rfl
theorem gw1070 : (Jvm.Cond.methodLink "NotationPressLaw" (52 : Nat) ({ cls := "NotationPress", name := "close", desc := "(I)Z" } : Jvm.MethodName)) ∈ np_gw := np_gwi 1070 (by decide +kernel) rfl
theorem gw1071 : (Jvm.Cond.instanceMethod ({ cls := "NotationPress", name := "close", desc := "(I)Z" } : Jvm.MethodName)) ∈ np_gw := np_gwi 1071 (by decide +kernel) rfl
theorem gw1072 : (Jvm.Cond.selects "NotationPress" ({ cls := "NotationPress", name := "close", desc := "(I)Z" } : Jvm.MethodName) ({ cls := "NotationPress", name := "close", desc := "(I)Z" } : Jvm.MethodName)) ∈ np_gw := np_gwi 1072 (by decide +kernel) rfl
theorem gw1073 : (Jvm.Cond.code ({ cls := "NotationPress", name := "close", desc := "(I)Z" } : Jvm.MethodName) prog_1_method_13_code (4 : Nat) (Option.some Jvm.ClassFile.FieldType.boolean)) ∈ np_gw := np_gwi 1073 (by decide +kernel) rfl
theorem gw1077 : (Jvm.Cond.methodLink "NotationPressLaw" (56 : Nat) ({ cls := "NotationPress", name := "unit", desc := "(II)C" } : Jvm.MethodName)) ∈ np_gw := np_gwi 1077 (by decide +kernel) rfl
theorem gw1078 : (Jvm.Cond.instanceMethod ({ cls := "NotationPress", name := "unit", desc := "(II)C" } : Jvm.MethodName)) ∈ np_gw := np_gwi 1078 (by decide +kernel) rfl
theorem gw1079 : (Jvm.Cond.selects "NotationPress" ({ cls := "NotationPress", name := "unit", desc := "(II)C" } : Jvm.MethodName) ({ cls := "NotationPress", name := "unit", desc := "(II)C" } : Jvm.MethodName)) ∈ np_gw := np_gwi 1079 (by decide +kernel) rfl
theorem gw1080 : (Jvm.Cond.code ({ cls := "NotationPress", name := "unit", desc := "(II)C" } : Jvm.MethodName) prog_1_method_14_code (5 : Nat) (Option.some Jvm.ClassFile.FieldType.char)) ∈ np_gw := np_gwi 1080 (by decide +kernel) rfl
theorem gw1089 : (Jvm.Cond.methodLink "NotationPressLaw" (60 : Nat) ({ cls := "NotationPress", name := "readings", desc := "(III)I" } : Jvm.MethodName)) ∈ np_gw := np_gwi 1089 (by decide +kernel) rfl
theorem gw1090 : (Jvm.Cond.instanceMethod ({ cls := "NotationPress", name := "readings", desc := "(III)I" } : Jvm.MethodName)) ∈ np_gw := np_gwi 1090 (by decide +kernel) rfl
theorem gw1091 : (Jvm.Cond.selects "NotationPress" ({ cls := "NotationPress", name := "readings", desc := "(III)I" } : Jvm.MethodName) ({ cls := "NotationPress", name := "readings", desc := "(III)I" } : Jvm.MethodName)) ∈ np_gw := np_gwi 1091 (by decide +kernel) rfl
theorem gw1092 : (Jvm.Cond.code ({ cls := "NotationPress", name := "readings", desc := "(III)I" } : Jvm.MethodName) prog_1_method_15_code (8 : Nat) (Option.some Jvm.ClassFile.FieldType.int)) ∈ np_gw := np_gwi 1092 (by decide +kernel) rfl
theorem gw1196 : (Jvm.Cond.methodLink "NotationPressLaw" (63 : Nat) ({ cls := "NotationPress", name := "readingsAnew", desc := "(III)I" } : Jvm.MethodName)) ∈ np_gw := np_gwi 1196 (by decide +kernel) rfl
theorem gw1197 : (Jvm.Cond.instanceMethod ({ cls := "NotationPress", name := "readingsAnew", desc := "(III)I" } : Jvm.MethodName)) ∈ np_gw := np_gwi 1197 (by decide +kernel) rfl
theorem gw1198 : (Jvm.Cond.selects "NotationPress" ({ cls := "NotationPress", name := "readingsAnew", desc := "(III)I" } : Jvm.MethodName) ({ cls := "NotationPress", name := "readingsAnew", desc := "(III)I" } : Jvm.MethodName)) ∈ np_gw := np_gwi 1198 (by decide +kernel) rfl
theorem gw1199 : (Jvm.Cond.code ({ cls := "NotationPress", name := "readingsAnew", desc := "(III)I" } : Jvm.MethodName) prog_1_method_16_code (6 : Nat) (Option.some Jvm.ClassFile.FieldType.int)) ∈ np_gw := np_gwi 1199 (by decide +kernel) rfl
theorem gw1207 : (Jvm.Cond.methodLink "NotationPressLaw" (66 : Nat) ({ cls := "NotationPress", name := "read", desc := "(IIII)I" } : Jvm.MethodName)) ∈ np_gw := np_gwi 1207 (by decide +kernel) rfl
theorem gw1208 : (Jvm.Cond.instanceMethod ({ cls := "NotationPress", name := "read", desc := "(IIII)I" } : Jvm.MethodName)) ∈ np_gw := np_gwi 1208 (by decide +kernel) rfl
theorem gw1209 : (Jvm.Cond.selects "NotationPress" ({ cls := "NotationPress", name := "read", desc := "(IIII)I" } : Jvm.MethodName) ({ cls := "NotationPress", name := "read", desc := "(IIII)I" } : Jvm.MethodName)) ∈ np_gw := np_gwi 1209 (by decide +kernel) rfl
theorem gw1210 : (Jvm.Cond.code ({ cls := "NotationPress", name := "read", desc := "(IIII)I" } : Jvm.MethodName) prog_1_method_17_code (9 : Nat) (Option.some Jvm.ClassFile.FieldType.int)) ∈ np_gw := np_gwi 1210 (by decide +kernel) rfl
theorem gw1215 : (Jvm.Cond.methodLink "NotationPressLaw" (69 : Nat) ({ cls := "NotationPress", name := "stream", desc := "(II)I" } : Jvm.MethodName)) ∈ np_gw := np_gwi 1215 (by decide +kernel) rfl
theorem gw1216 : (Jvm.Cond.instanceMethod ({ cls := "NotationPress", name := "stream", desc := "(II)I" } : Jvm.MethodName)) ∈ np_gw := np_gwi 1216 (by decide +kernel) rfl
theorem gw1217 : (Jvm.Cond.selects "NotationPress" ({ cls := "NotationPress", name := "stream", desc := "(II)I" } : Jvm.MethodName) ({ cls := "NotationPress", name := "stream", desc := "(II)I" } : Jvm.MethodName)) ∈ np_gw := np_gwi 1217 (by decide +kernel) rfl
theorem gw1218 : (Jvm.Cond.code ({ cls := "NotationPress", name := "stream", desc := "(II)I" } : Jvm.MethodName) prog_1_method_18_code (6 : Nat) (Option.some Jvm.ClassFile.FieldType.int)) ∈ np_gw := np_gwi 1218 (by decide +kernel) rfl
theorem gw1230 : (Jvm.Cond.methodLink "NotationPressLaw" (72 : Nat) ({ cls := "NotationPress", name := "step", desc := "(I)I" } : Jvm.MethodName)) ∈ np_gw := np_gwi 1230 (by decide +kernel) rfl
theorem gw1231 : (Jvm.Cond.instanceMethod ({ cls := "NotationPress", name := "step", desc := "(I)I" } : Jvm.MethodName)) ∈ np_gw := np_gwi 1231 (by decide +kernel) rfl
theorem gw1232 : (Jvm.Cond.selects "NotationPress" ({ cls := "NotationPress", name := "step", desc := "(I)I" } : Jvm.MethodName) ({ cls := "NotationPress", name := "step", desc := "(I)I" } : Jvm.MethodName)) ∈ np_gw := np_gwi 1232 (by decide +kernel) rfl
theorem gw1233 : (Jvm.Cond.code ({ cls := "NotationPress", name := "step", desc := "(I)I" } : Jvm.MethodName) prog_1_method_19_code (7 : Nat) (Option.some Jvm.ClassFile.FieldType.int)) ∈ np_gw := np_gwi 1233 (by decide +kernel) rfl
theorem gw1292 : (Jvm.Cond.methodLink "NotationPressLaw" (75 : Nat) ({ cls := "NotationPress", name := "progress", desc := "(I)I" } : Jvm.MethodName)) ∈ np_gw := np_gwi 1292 (by decide +kernel) rfl
theorem gw1293 : (Jvm.Cond.instanceMethod ({ cls := "NotationPress", name := "progress", desc := "(I)I" } : Jvm.MethodName)) ∈ np_gw := np_gwi 1293 (by decide +kernel) rfl
theorem gw1294 : (Jvm.Cond.selects "NotationPress" ({ cls := "NotationPress", name := "progress", desc := "(I)I" } : Jvm.MethodName) ({ cls := "NotationPress", name := "progress", desc := "(I)I" } : Jvm.MethodName)) ∈ np_gw := np_gwi 1294 (by decide +kernel) rfl
theorem gw1295 : (Jvm.Cond.code ({ cls := "NotationPress", name := "progress", desc := "(I)I" } : Jvm.MethodName) prog_1_method_20_code (3 : Nat) (Option.some Jvm.ClassFile.FieldType.int)) ∈ np_gw := np_gwi 1295 (by decide +kernel) rfl
theorem gw1299 : (Jvm.Cond.methodLink "NotationPressLaw" (78 : Nat) ({ cls := "NotationPress", name := "skipped", desc := "(II)I" } : Jvm.MethodName)) ∈ np_gw := np_gwi 1299 (by decide +kernel) rfl
theorem gw1300 : (Jvm.Cond.instanceMethod ({ cls := "NotationPress", name := "skipped", desc := "(II)I" } : Jvm.MethodName)) ∈ np_gw := np_gwi 1300 (by decide +kernel) rfl
theorem gw1301 : (Jvm.Cond.selects "NotationPress" ({ cls := "NotationPress", name := "skipped", desc := "(II)I" } : Jvm.MethodName) ({ cls := "NotationPress", name := "skipped", desc := "(II)I" } : Jvm.MethodName)) ∈ np_gw := np_gwi 1301 (by decide +kernel) rfl
theorem gw1302 : (Jvm.Cond.code ({ cls := "NotationPress", name := "skipped", desc := "(II)I" } : Jvm.MethodName) prog_1_method_21_code (4 : Nat) (Option.some Jvm.ClassFile.FieldType.int)) ∈ np_gw := np_gwi 1302 (by decide +kernel) rfl
theorem gw1307 : (Jvm.Cond.methodLink "NotationPressLaw" (81 : Nat) ({ cls := "NotationPress", name := "cell", desc := "(IIII)I" } : Jvm.MethodName)) ∈ np_gw := np_gwi 1307 (by decide +kernel) rfl
theorem gw1308 : (Jvm.Cond.instanceMethod ({ cls := "NotationPress", name := "cell", desc := "(IIII)I" } : Jvm.MethodName)) ∈ np_gw := np_gwi 1308 (by decide +kernel) rfl
theorem gw1309 : (Jvm.Cond.selects "NotationPress" ({ cls := "NotationPress", name := "cell", desc := "(IIII)I" } : Jvm.MethodName) ({ cls := "NotationPress", name := "cell", desc := "(IIII)I" } : Jvm.MethodName)) ∈ np_gw := np_gwi 1309 (by decide +kernel) rfl
theorem gw1310 : (Jvm.Cond.code ({ cls := "NotationPress", name := "cell", desc := "(IIII)I" } : Jvm.MethodName) prog_1_method_22_code (6 : Nat) (Option.some Jvm.ClassFile.FieldType.int)) ∈ np_gw := np_gwi 1310 (by decide +kernel) rfl
theorem gw1317 : (Jvm.Cond.methodLink "NotationPressLaw" (84 : Nat) ({ cls := "NotationPress", name := "take", desc := "(II)I" } : Jvm.MethodName)) ∈ np_gw := np_gwi 1317 (by decide +kernel) rfl
theorem gw1318 : (Jvm.Cond.instanceMethod ({ cls := "NotationPress", name := "take", desc := "(II)I" } : Jvm.MethodName)) ∈ np_gw := np_gwi 1318 (by decide +kernel) rfl
theorem gw1319 : (Jvm.Cond.selects "NotationPress" ({ cls := "NotationPress", name := "take", desc := "(II)I" } : Jvm.MethodName) ({ cls := "NotationPress", name := "take", desc := "(II)I" } : Jvm.MethodName)) ∈ np_gw := np_gwi 1319 (by decide +kernel) rfl
theorem gw1320 : (Jvm.Cond.code ({ cls := "NotationPress", name := "take", desc := "(II)I" } : Jvm.MethodName) prog_1_method_23_code (6 : Nat) (Option.some Jvm.ClassFile.FieldType.int)) ∈ np_gw := np_gwi 1320 (by decide +kernel) rfl
theorem gw1324 : (Jvm.Cond.methodLink "NotationPressLaw" (87 : Nat) ({ cls := "NotationPress", name := "column", desc := "(IIII)I" } : Jvm.MethodName)) ∈ np_gw := np_gwi 1324 (by decide +kernel) rfl
theorem gw1325 : (Jvm.Cond.instanceMethod ({ cls := "NotationPress", name := "column", desc := "(IIII)I" } : Jvm.MethodName)) ∈ np_gw := np_gwi 1325 (by decide +kernel) rfl
theorem gw1326 : (Jvm.Cond.selects "NotationPress" ({ cls := "NotationPress", name := "column", desc := "(IIII)I" } : Jvm.MethodName) ({ cls := "NotationPress", name := "column", desc := "(IIII)I" } : Jvm.MethodName)) ∈ np_gw := np_gwi 1326 (by decide +kernel) rfl
theorem gw1327 : (Jvm.Cond.code ({ cls := "NotationPress", name := "column", desc := "(IIII)I" } : Jvm.MethodName) prog_1_method_24_code (7 : Nat) (Option.some Jvm.ClassFile.FieldType.int)) ∈ np_gw := np_gwi 1327 (by decide +kernel) rfl
theorem gw1339 : (Jvm.Cond.methodLink "NotationPressLaw" (90 : Nat) ({ cls := "NotationPress", name := "derived", desc := "(II)I" } : Jvm.MethodName)) ∈ np_gw := np_gwi 1339 (by decide +kernel) rfl
theorem gw1340 : (Jvm.Cond.instanceMethod ({ cls := "NotationPress", name := "derived", desc := "(II)I" } : Jvm.MethodName)) ∈ np_gw := np_gwi 1340 (by decide +kernel) rfl
theorem gw1341 : (Jvm.Cond.selects "NotationPress" ({ cls := "NotationPress", name := "derived", desc := "(II)I" } : Jvm.MethodName) ({ cls := "NotationPress", name := "derived", desc := "(II)I" } : Jvm.MethodName)) ∈ np_gw := np_gwi 1341 (by decide +kernel) rfl
theorem gw1342 : (Jvm.Cond.code ({ cls := "NotationPress", name := "derived", desc := "(II)I" } : Jvm.MethodName) prog_1_method_25_code (4 : Nat) (Option.some Jvm.ClassFile.FieldType.int)) ∈ np_gw := np_gwi 1342 (by decide +kernel) rfl
theorem gw1374 : (Jvm.Cond.methodLink "NotationPressLaw" (93 : Nat) ({ cls := "NotationPress", name := "derivedByBatch", desc := "(II)I" } : Jvm.MethodName)) ∈ np_gw := np_gwi 1374 (by decide +kernel) rfl
theorem gw1375 : (Jvm.Cond.instanceMethod ({ cls := "NotationPress", name := "derivedByBatch", desc := "(II)I" } : Jvm.MethodName)) ∈ np_gw := np_gwi 1375 (by decide +kernel) rfl
theorem gw1376 : (Jvm.Cond.selects "NotationPress" ({ cls := "NotationPress", name := "derivedByBatch", desc := "(II)I" } : Jvm.MethodName) ({ cls := "NotationPress", name := "derivedByBatch", desc := "(II)I" } : Jvm.MethodName)) ∈ np_gw := np_gwi 1376 (by decide +kernel) rfl
theorem gw1377 : (Jvm.Cond.code ({ cls := "NotationPress", name := "derivedByBatch", desc := "(II)I" } : Jvm.MethodName) prog_1_method_26_code (4 : Nat) (Option.some Jvm.ClassFile.FieldType.int)) ∈ np_gw := np_gwi 1377 (by decide +kernel) rfl
theorem gw1410 : (Jvm.Cond.methodLink "NotationPressLaw" (96 : Nat) ({ cls := "NotationPress", name := "change", desc := "(IIII)I" } : Jvm.MethodName)) ∈ np_gw := np_gwi 1410 (by decide +kernel) rfl
theorem gw1411 : (Jvm.Cond.instanceMethod ({ cls := "NotationPress", name := "change", desc := "(IIII)I" } : Jvm.MethodName)) ∈ np_gw := np_gwi 1411 (by decide +kernel) rfl
theorem gw1412 : (Jvm.Cond.selects "NotationPress" ({ cls := "NotationPress", name := "change", desc := "(IIII)I" } : Jvm.MethodName) ({ cls := "NotationPress", name := "change", desc := "(IIII)I" } : Jvm.MethodName)) ∈ np_gw := np_gwi 1412 (by decide +kernel) rfl
theorem gw1413 : (Jvm.Cond.code ({ cls := "NotationPress", name := "change", desc := "(IIII)I" } : Jvm.MethodName) prog_1_method_27_code (6 : Nat) (Option.some Jvm.ClassFile.FieldType.int)) ∈ np_gw := np_gwi 1413 (by decide +kernel) rfl
theorem gw1432 : (Jvm.Cond.methodLink "NotationPressLaw" (99 : Nat) ({ cls := "NotationPress", name := "upgrade", desc := "()I" } : Jvm.MethodName)) ∈ np_gw := np_gwi 1432 (by decide +kernel) rfl
theorem gw1433 : (Jvm.Cond.instanceMethod ({ cls := "NotationPress", name := "upgrade", desc := "()I" } : Jvm.MethodName)) ∈ np_gw := np_gwi 1433 (by decide +kernel) rfl
theorem gw1434 : (Jvm.Cond.selects "NotationPress" ({ cls := "NotationPress", name := "upgrade", desc := "()I" } : Jvm.MethodName) ({ cls := "NotationPress", name := "upgrade", desc := "()I" } : Jvm.MethodName)) ∈ np_gw := np_gwi 1434 (by decide +kernel) rfl
theorem gw1435 : (Jvm.Cond.code ({ cls := "NotationPress", name := "upgrade", desc := "()I" } : Jvm.MethodName) prog_1_method_28_code (2 : Nat) (Option.some Jvm.ClassFile.FieldType.int)) ∈ np_gw := np_gwi 1435 (by decide +kernel) rfl
theorem gw1462 : (Jvm.Cond.methodLink "NotationPressLaw" (102 : Nat) ({ cls := "NotationPress", name := "compose", desc := "(II)I" } : Jvm.MethodName)) ∈ np_gw := np_gwi 1462 (by decide +kernel) rfl
theorem gw1463 : (Jvm.Cond.instanceMethod ({ cls := "NotationPress", name := "compose", desc := "(II)I" } : Jvm.MethodName)) ∈ np_gw := np_gwi 1463 (by decide +kernel) rfl
theorem gw1464 : (Jvm.Cond.selects "NotationPress" ({ cls := "NotationPress", name := "compose", desc := "(II)I" } : Jvm.MethodName) ({ cls := "NotationPress", name := "compose", desc := "(II)I" } : Jvm.MethodName)) ∈ np_gw := np_gwi 1464 (by decide +kernel) rfl
theorem gw1465 : (Jvm.Cond.code ({ cls := "NotationPress", name := "compose", desc := "(II)I" } : Jvm.MethodName) prog_1_method_29_code (6 : Nat) (Option.some Jvm.ClassFile.FieldType.int)) ∈ np_gw := np_gwi 1465 (by decide +kernel) rfl
theorem gw1510 : (Jvm.Cond.methodLink "NotationPressLaw" (105 : Nat) ({ cls := "NotationPress", name := "reverse", desc := "(I)I" } : Jvm.MethodName)) ∈ np_gw := np_gwi 1510 (by decide +kernel) rfl
theorem gw1511 : (Jvm.Cond.instanceMethod ({ cls := "NotationPress", name := "reverse", desc := "(I)I" } : Jvm.MethodName)) ∈ np_gw := np_gwi 1511 (by decide +kernel) rfl
theorem gw1512 : (Jvm.Cond.selects "NotationPress" ({ cls := "NotationPress", name := "reverse", desc := "(I)I" } : Jvm.MethodName) ({ cls := "NotationPress", name := "reverse", desc := "(I)I" } : Jvm.MethodName)) ∈ np_gw := np_gwi 1512 (by decide +kernel) rfl
theorem gw1513 : (Jvm.Cond.code ({ cls := "NotationPress", name := "reverse", desc := "(I)I" } : Jvm.MethodName) prog_1_method_30_code (4 : Nat) (Option.some Jvm.ClassFile.FieldType.int)) ∈ np_gw := np_gwi 1513 (by decide +kernel) rfl
theorem gw1540 : (Jvm.Cond.methodLink "NotationPressLaw" (108 : Nat) ({ cls := "NotationPress", name := "upgraded", desc := "(II)I" } : Jvm.MethodName)) ∈ np_gw := np_gwi 1540 (by decide +kernel) rfl
theorem gw1541 : (Jvm.Cond.instanceMethod ({ cls := "NotationPress", name := "upgraded", desc := "(II)I" } : Jvm.MethodName)) ∈ np_gw := np_gwi 1541 (by decide +kernel) rfl
theorem gw1542 : (Jvm.Cond.selects "NotationPress" ({ cls := "NotationPress", name := "upgraded", desc := "(II)I" } : Jvm.MethodName) ({ cls := "NotationPress", name := "upgraded", desc := "(II)I" } : Jvm.MethodName)) ∈ np_gw := np_gwi 1542 (by decide +kernel) rfl
theorem gw1543 : (Jvm.Cond.code ({ cls := "NotationPress", name := "upgraded", desc := "(II)I" } : Jvm.MethodName) prog_1_method_31_code (4 : Nat) (Option.some Jvm.ClassFile.FieldType.int)) ∈ np_gw := np_gwi 1543 (by decide +kernel) rfl
theorem gw1572 : (Jvm.Cond.methodLink "NotationPressLaw" (111 : Nat) ({ cls := "NotationPress", name := "parts", desc := "(I)I" } : Jvm.MethodName)) ∈ np_gw := np_gwi 1572 (by decide +kernel) rfl
theorem gw1573 : (Jvm.Cond.instanceMethod ({ cls := "NotationPress", name := "parts", desc := "(I)I" } : Jvm.MethodName)) ∈ np_gw := np_gwi 1573 (by decide +kernel) rfl
theorem gw1574 : (Jvm.Cond.selects "NotationPress" ({ cls := "NotationPress", name := "parts", desc := "(I)I" } : Jvm.MethodName) ({ cls := "NotationPress", name := "parts", desc := "(I)I" } : Jvm.MethodName)) ∈ np_gw := np_gwi 1574 (by decide +kernel) rfl
theorem gw1575 : (Jvm.Cond.code ({ cls := "NotationPress", name := "parts", desc := "(I)I" } : Jvm.MethodName) prog_1_method_32_code (3 : Nat) (Option.some Jvm.ClassFile.FieldType.int)) ∈ np_gw := np_gwi 1575 (by decide +kernel) rfl
theorem gw1579 : (Jvm.Cond.methodLink "NotationPressLaw" (114 : Nat) ({ cls := "NotationPress", name := "compare", desc := "(I)I" } : Jvm.MethodName)) ∈ np_gw := np_gwi 1579 (by decide +kernel) rfl
theorem gw1580 : (Jvm.Cond.instanceMethod ({ cls := "NotationPress", name := "compare", desc := "(I)I" } : Jvm.MethodName)) ∈ np_gw := np_gwi 1580 (by decide +kernel) rfl
theorem gw1581 : (Jvm.Cond.selects "NotationPress" ({ cls := "NotationPress", name := "compare", desc := "(I)I" } : Jvm.MethodName) ({ cls := "NotationPress", name := "compare", desc := "(I)I" } : Jvm.MethodName)) ∈ np_gw := np_gwi 1581 (by decide +kernel) rfl
theorem gw1582 : (Jvm.Cond.code ({ cls := "NotationPress", name := "compare", desc := "(I)I" } : Jvm.MethodName) prog_1_method_33_code (4 : Nat) (Option.some Jvm.ClassFile.FieldType.int)) ∈ np_gw := np_gwi 1582 (by decide +kernel) rfl
theorem gw1606 : (Jvm.Cond.methodLink "NotationPressLaw" (117 : Nat) ({ cls := "NotationPress", name := "find", desc := "(IIII)I" } : Jvm.MethodName)) ∈ np_gw := np_gwi 1606 (by decide +kernel) rfl
theorem gw1607 : (Jvm.Cond.instanceMethod ({ cls := "NotationPress", name := "find", desc := "(IIII)I" } : Jvm.MethodName)) ∈ np_gw := np_gwi 1607 (by decide +kernel) rfl
theorem gw1608 : (Jvm.Cond.selects "NotationPress" ({ cls := "NotationPress", name := "find", desc := "(IIII)I" } : Jvm.MethodName) ({ cls := "NotationPress", name := "find", desc := "(IIII)I" } : Jvm.MethodName)) ∈ np_gw := np_gwi 1608 (by decide +kernel) rfl
theorem gw1609 : (Jvm.Cond.code ({ cls := "NotationPress", name := "find", desc := "(IIII)I" } : Jvm.MethodName) prog_1_method_34_code (6 : Nat) (Option.some Jvm.ClassFile.FieldType.int)) ∈ np_gw := np_gwi 1609 (by decide +kernel) rfl
theorem gw1618 : (Jvm.Cond.methodLink "NotationPressLaw" (120 : Nat) ({ cls := "NotationPress", name := "findAnew", desc := "(IIII)I" } : Jvm.MethodName)) ∈ np_gw := np_gwi 1618 (by decide +kernel) rfl
theorem gw1619 : (Jvm.Cond.instanceMethod ({ cls := "NotationPress", name := "findAnew", desc := "(IIII)I" } : Jvm.MethodName)) ∈ np_gw := np_gwi 1619 (by decide +kernel) rfl
theorem gw1620 : (Jvm.Cond.selects "NotationPress" ({ cls := "NotationPress", name := "findAnew", desc := "(IIII)I" } : Jvm.MethodName) ({ cls := "NotationPress", name := "findAnew", desc := "(IIII)I" } : Jvm.MethodName)) ∈ np_gw := np_gwi 1620 (by decide +kernel) rfl
theorem gw1621 : (Jvm.Cond.code ({ cls := "NotationPress", name := "findAnew", desc := "(IIII)I" } : Jvm.MethodName) prog_1_method_35_code (6 : Nat) (Option.some Jvm.ClassFile.FieldType.int)) ∈ np_gw := np_gwi 1621 (by decide +kernel) rfl
theorem dL_item_0 : decode cL_item 0 = .ok (.aload 5, 2) := by decide +kernel
theorem dL_item_2 : decode cL_item 2 = .ok (.iconst 0, 1) := by decide +kernel
theorem dL_item_3 : decode cL_item 3 = .ok (.aload_n 0, 1) := by decide +kernel
theorem dL_item_4 : decode cL_item 4 = .ok (.iload_n 1, 1) := by decide +kernel
theorem dL_item_5 : decode cL_item 5 = .ok (.iload_n 2, 1) := by decide +kernel
theorem dL_item_6 : decode cL_item 6 = .ok (.iload_n 3, 1) := by decide +kernel
theorem dL_item_7 : decode cL_item 7 = .ok (.iload 4, 2) := by decide +kernel
theorem dL_item_9 : decode cL_item 9 = .ok (.invokevirtual 7, 3) := by decide +kernel
theorem dL_item_12 : decode cL_item 12 = .ok (.i2l, 1) := by decide +kernel
theorem dL_item_13 : decode cL_item 13 = .ok (.lastore, 1) := by decide +kernel
theorem dL_item_14 : decode cL_item 14 = .ok (.goto 15, 3) := by decide +kernel
theorem dL_item_17 : decode cL_item 17 = .ok (.astore 6, 2) := by decide +kernel
theorem dL_item_19 : decode cL_item 19 = .ok (.iconst 1, 1) := by decide +kernel
theorem dL_item_20 : decode cL_item 20 = .ok (.ireturn, 1) := by decide +kernel
theorem dL_item_21 : decode cL_item 21 = .ok (.astore 6, 2) := by decide +kernel
theorem dL_item_23 : decode cL_item 23 = .ok (.iconst 2, 1) := by decide +kernel
theorem dL_item_24 : decode cL_item 24 = .ok (.ireturn, 1) := by decide +kernel
theorem dL_item_25 : decode cL_item 25 = .ok (.astore 6, 2) := by decide +kernel
theorem dL_item_27 : decode cL_item 27 = .ok (.iconst 3, 1) := by decide +kernel
theorem dL_item_28 : decode cL_item 28 = .ok (.ireturn, 1) := by decide +kernel
theorem dL_item_29 : decode cL_item 29 = .ok (.iconst 0, 1) := by decide +kernel
theorem dL_item_30 : decode cL_item 30 = .ok (.ireturn, 1) := by decide +kernel
def hhL_item : List (Nat × Nat × Nat × Nat) := [((0 : Nat), (14 : Nat), (17 : Nat), (13 : Nat)), ((0 : Nat), (14 : Nat), (21 : Nat), (15 : Nat)), ((0 : Nat), (14 : Nat), (25 : Nat), (17 : Nat))]
theorem hdL_item_9_0 : np_hd RL (tableOf hhL_item) 9 0 17 := ⟨(tableOf hhL_item).take 0, _, (tableOf hhL_item).drop 1, rfl, (fun _ h => nomatch h), rfl, by decide, gw560, gw575, rfl⟩
theorem hdL_item_9_1 : np_hd RL (tableOf hhL_item) 9 1 21 := ⟨(tableOf hhL_item).take 1, _, (tableOf hhL_item).drop 2, rfl, List.forall_mem_cons.mpr ⟨Or.inr ⟨by decide, _, gw560, by decide⟩, (fun _ h => nomatch h)⟩, rfl, by decide, gw561, gw649, rfl⟩
theorem hdL_item_9_2 : np_hd RL (tableOf hhL_item) 9 2 25 := ⟨(tableOf hhL_item).take 2, _, (tableOf hhL_item).drop 3, rfl, List.forall_mem_cons.mpr ⟨Or.inr ⟨by decide, _, gw560, by decide⟩, List.forall_mem_cons.mpr ⟨Or.inr ⟨by decide, _, gw561, by decide⟩, (fun _ h => nomatch h)⟩⟩, rfl, by decide, gw562, gw669, rfl⟩
theorem hdL_item_9 : ∀ z ∈ ([(0, 17), (1, 21), (2, 25)] : List (Nat × Nat)), np_hd RL (tableOf hhL_item) 9 z.1 z.2 := List.forall_mem_cons.mpr ⟨hdL_item_9_0, List.forall_mem_cons.mpr ⟨hdL_item_9_1, List.forall_mem_cons.mpr ⟨hdL_item_9_2, fun _ h => nomatch h⟩⟩⟩
def is_L_item (Rt : np_Rt) : List (Nat × np_Op) := [(0, np_ald 2 5), (2, np_push 1 (.int 0)), (3, np_ald 1 0), (4, np_ild 1 1), (5, np_ild 1 2), (6, np_ild 1 3), (7, np_ild 2 4), (9, nq_callVX 11 5 sp_X11_item 5 1 6 1 6 [(0, 17), (1, 21), (2, 25)]), (12, np_i2l), (13, nq_last), (14, np_goto 29), (17, np_ast 2 6), (19, np_push 1 (.int 1)), (20, np_ret Rt), (21, np_ast 2 6), (23, np_push 1 (.int 2)), (24, np_ret Rt), (25, np_ast 2 6), (27, np_push 1 (.int 3)), (28, np_ret Rt), (29, np_push 1 (.int 0)), (30, np_ret Rt)]
set_option maxRecDepth 20000 in
theorem so_L_item {X : np_Ctx} {Rt : np_Rt} (hX : np_ok RL cL_item 7 7 124 1 6 .ireturn X) (htb : np_tab X = tableOf hhL_item) (hR : ∀ st w ce sl, Rt st w ce sl → X.2.2.1 st w ce sl) : ∀ q ∈ is_L_item Rt, np_S X q.1 q.2 :=
  List.forall_mem_cons.mpr ⟨np_s_aload hX dL_item_0, List.forall_mem_cons.mpr ⟨np_s_iconst hX dL_item_2 (by decide), List.forall_mem_cons.mpr ⟨np_s_aload_n hX dL_item_3 rfl, List.forall_mem_cons.mpr ⟨np_s_iload_n hX dL_item_4 rfl, List.forall_mem_cons.mpr ⟨np_s_iload_n hX dL_item_5 rfl, List.forall_mem_cons.mpr ⟨np_s_iload_n hX dL_item_6 rfl, List.forall_mem_cons.mpr ⟨np_s_iload hX dL_item_7, List.forall_mem_cons.mpr ⟨np_S.mono (op := np_callVX 11 5 sp_X11_item 5 1 6 1 6 [(0, 17), (1, 21), (2, 25)]) (np_s_callVX hX C_X11_item dL_item_9 (q := (RX11, TX11, 14)) rfl rfl gw566 gw130 gw563 gw564 gw565 ⟨by decide, by decide, by decide⟩ (by decide) (by decide) (htb.symm ▸ hdL_item_9)) nq_callVX_le, List.forall_mem_cons.mpr ⟨np_s_i2l hX dL_item_12, List.forall_mem_cons.mpr ⟨np_S.mono (op := np_last) (np_s_last hX dL_item_13) nq_last_le, List.forall_mem_cons.mpr ⟨np_s_goto hX dL_item_14 (by decide), List.forall_mem_cons.mpr ⟨np_s_astore hX dL_item_17 (by decide), List.forall_mem_cons.mpr ⟨np_s_iconst hX dL_item_19 (by decide), List.forall_mem_cons.mpr ⟨np_S.mono (op := np_ret X.2.2.1) (np_s_ret hX dL_item_20) (nq_ret_le hR), List.forall_mem_cons.mpr ⟨np_s_astore hX dL_item_21 (by decide), List.forall_mem_cons.mpr ⟨np_s_iconst hX dL_item_23 (by decide), List.forall_mem_cons.mpr ⟨np_S.mono (op := np_ret X.2.2.1) (np_s_ret hX dL_item_24) (nq_ret_le hR), List.forall_mem_cons.mpr ⟨np_s_astore hX dL_item_25 (by decide), List.forall_mem_cons.mpr ⟨np_s_iconst hX dL_item_27 (by decide), List.forall_mem_cons.mpr ⟨np_S.mono (op := np_ret X.2.2.1) (np_s_ret hX dL_item_28) (nq_ret_le hR), List.forall_mem_cons.mpr ⟨np_s_iconst hX dL_item_29 (by decide), List.forall_mem_cons.mpr ⟨np_S.mono (op := np_ret X.2.2.1) (np_s_ret hX dL_item_30) (nq_ret_le hR), fun _ h => nomatch h⟩⟩⟩⟩⟩⟩⟩⟩⟩⟩⟩⟩⟩⟩⟩⟩⟩⟩⟩⟩⟩⟩
abbrev sp_L_item : np_Sp := nq_in is_L_item (some .int) 1 6 400
theorem C_L_item : np_CW yL_item cL_item 7 (some .int) hhL_item 7 124 1 6 sp_L_item := nq_inCW 400 (by decide) (fun X Rt hX htb hR => so_L_item hX htb hR)
theorem dL_description_0 : decode cL_description 0 = .ok (.aload_n 1, 1) := by decide +kernel
theorem dL_description_1 : decode cL_description 1 = .ok (.iconst 0, 1) := by decide +kernel
theorem dL_description_2 : decode cL_description 2 = .ok (.aload_n 0, 1) := by decide +kernel
theorem dL_description_3 : decode cL_description 3 = .ok (.invokevirtual 19, 3) := by decide +kernel
theorem dL_description_6 : decode cL_description 6 = .ok (.i2l, 1) := by decide +kernel
theorem dL_description_7 : decode cL_description 7 = .ok (.lastore, 1) := by decide +kernel
theorem dL_description_8 : decode cL_description 8 = .ok (.goto 6, 3) := by decide +kernel
theorem dL_description_11 : decode cL_description 11 = .ok (.astore_n 2, 1) := by decide +kernel
theorem dL_description_12 : decode cL_description 12 = .ok (.iconst 1, 1) := by decide +kernel
theorem dL_description_13 : decode cL_description 13 = .ok (.ireturn, 1) := by decide +kernel
theorem dL_description_14 : decode cL_description 14 = .ok (.iconst 0, 1) := by decide +kernel
theorem dL_description_15 : decode cL_description 15 = .ok (.ireturn, 1) := by decide +kernel
def hhL_description : List (Nat × Nat × Nat × Nat) := [((0 : Nat), (8 : Nat), (11 : Nat), (17 : Nat))]
theorem hdL_description_3_0 : np_hd RL (tableOf hhL_description) 3 2 11 := ⟨(tableOf hhL_description).take 0, _, (tableOf hhL_description).drop 1, rfl, (fun _ h => nomatch h), rfl, by decide, gw562, gw669, rfl⟩
theorem hdL_description_3 : ∀ z ∈ ([(2, 11)] : List (Nat × Nat)), np_hd RL (tableOf hhL_description) 3 z.1 z.2 := List.forall_mem_cons.mpr ⟨hdL_description_3_0, fun _ h => nomatch h⟩
def is_L_description (Rt : np_Rt) : List (Nat × np_Op) := [(0, np_ald 1 1), (1, np_push 1 (.int 0)), (2, np_ald 1 0), (3, nq_callVX 11 1 sp_X11_description 2 1 6 1 6 [(2, 11)]), (6, np_i2l), (7, nq_last), (8, np_goto 14), (11, np_ast 1 2), (12, np_push 1 (.int 1)), (13, np_ret Rt), (14, np_push 1 (.int 0)), (15, np_ret Rt)]
set_option maxRecDepth 20000 in
theorem so_L_description {X : np_Ctx} {Rt : np_Rt} (hX : np_ok RL cL_description 3 7 121 1 6 .ireturn X) (htb : np_tab X = tableOf hhL_description) (hR : ∀ st w ce sl, Rt st w ce sl → X.2.2.1 st w ce sl) : ∀ q ∈ is_L_description Rt, np_S X q.1 q.2 :=
  List.forall_mem_cons.mpr ⟨np_s_aload_n hX dL_description_0 rfl, List.forall_mem_cons.mpr ⟨np_s_iconst hX dL_description_1 (by decide), List.forall_mem_cons.mpr ⟨np_s_aload_n hX dL_description_2 rfl, List.forall_mem_cons.mpr ⟨np_S.mono (op := np_callVX 11 1 sp_X11_description 2 1 6 1 6 [(2, 11)]) (np_s_callVX hX C_X11_description dL_description_3 (q := (RX11, TX11, 14)) rfl rfl gw696 gw130 gw693 gw694 gw695 ⟨by decide, by decide, by decide⟩ (by decide) (by decide) (htb.symm ▸ hdL_description_3)) nq_callVX_le, List.forall_mem_cons.mpr ⟨np_s_i2l hX dL_description_6, List.forall_mem_cons.mpr ⟨np_S.mono (op := np_last) (np_s_last hX dL_description_7) nq_last_le, List.forall_mem_cons.mpr ⟨np_s_goto hX dL_description_8 (by decide), List.forall_mem_cons.mpr ⟨np_s_astore_n hX dL_description_11 rfl (by decide), List.forall_mem_cons.mpr ⟨np_s_iconst hX dL_description_12 (by decide), List.forall_mem_cons.mpr ⟨np_S.mono (op := np_ret X.2.2.1) (np_s_ret hX dL_description_13) (nq_ret_le hR), List.forall_mem_cons.mpr ⟨np_s_iconst hX dL_description_14 (by decide), List.forall_mem_cons.mpr ⟨np_S.mono (op := np_ret X.2.2.1) (np_s_ret hX dL_description_15) (nq_ret_le hR), fun _ h => nomatch h⟩⟩⟩⟩⟩⟩⟩⟩⟩⟩⟩⟩
abbrev sp_L_description : np_Sp := nq_in is_L_description (some .int) 1 6 400
theorem C_L_description : np_CW yL_description cL_description 3 (some .int) hhL_description 7 121 1 6 sp_L_description := nq_inCW 400 (by decide) (fun X Rt hX htb hR => so_L_description hX htb hR)
theorem dL_sure_0 : decode cL_sure 0 = .ok (.aload_n 2, 1) := by decide +kernel
theorem dL_sure_1 : decode cL_sure 1 = .ok (.iconst 0, 1) := by decide +kernel
theorem dL_sure_2 : decode cL_sure 2 = .ok (.aload_n 0, 1) := by decide +kernel
theorem dL_sure_3 : decode cL_sure 3 = .ok (.iload_n 1, 1) := by decide +kernel
theorem dL_sure_4 : decode cL_sure 4 = .ok (.invokevirtual 23, 3) := by decide +kernel
theorem dL_sure_7 : decode cL_sure 7 = .ok (.i2l, 1) := by decide +kernel
theorem dL_sure_8 : decode cL_sure 8 = .ok (.lastore, 1) := by decide +kernel
theorem dL_sure_9 : decode cL_sure 9 = .ok (.goto 6, 3) := by decide +kernel
theorem dL_sure_12 : decode cL_sure 12 = .ok (.astore_n 3, 1) := by decide +kernel
theorem dL_sure_13 : decode cL_sure 13 = .ok (.iconst 1, 1) := by decide +kernel
theorem dL_sure_14 : decode cL_sure 14 = .ok (.ireturn, 1) := by decide +kernel
theorem dL_sure_15 : decode cL_sure 15 = .ok (.iconst 0, 1) := by decide +kernel
theorem dL_sure_16 : decode cL_sure 16 = .ok (.ireturn, 1) := by decide +kernel
def hhL_sure : List (Nat × Nat × Nat × Nat) := [((0 : Nat), (9 : Nat), (12 : Nat), (13 : Nat))]
theorem hdL_sure_4_0 : np_hd RL (tableOf hhL_sure) 4 0 12 := ⟨(tableOf hhL_sure).take 0, _, (tableOf hhL_sure).drop 1, rfl, (fun _ h => nomatch h), rfl, by decide, gw560, gw575, rfl⟩
theorem hdL_sure_4 : ∀ z ∈ ([(0, 12)] : List (Nat × Nat)), np_hd RL (tableOf hhL_sure) 4 z.1 z.2 := List.forall_mem_cons.mpr ⟨hdL_sure_4_0, fun _ h => nomatch h⟩
def is_L_sure (Rt : np_Rt) : List (Nat × np_Op) := [(0, np_ald 1 2), (1, np_push 1 (.int 0)), (2, np_ald 1 0), (3, np_ild 1 1), (4, nq_callVX 11 2 sp_X11_sure 3 1 6 1 6 [(0, 12)]), (7, np_i2l), (8, nq_last), (9, np_goto 15), (12, np_ast 1 3), (13, np_push 1 (.int 1)), (14, np_ret Rt), (15, np_push 1 (.int 0)), (16, np_ret Rt)]
set_option maxRecDepth 20000 in
theorem so_L_sure {X : np_Ctx} {Rt : np_Rt} (hX : np_ok RL cL_sure 4 7 122 1 6 .ireturn X) (htb : np_tab X = tableOf hhL_sure) (hR : ∀ st w ce sl, Rt st w ce sl → X.2.2.1 st w ce sl) : ∀ q ∈ is_L_sure Rt, np_S X q.1 q.2 :=
  List.forall_mem_cons.mpr ⟨np_s_aload_n hX dL_sure_0 rfl, List.forall_mem_cons.mpr ⟨np_s_iconst hX dL_sure_1 (by decide), List.forall_mem_cons.mpr ⟨np_s_aload_n hX dL_sure_2 rfl, List.forall_mem_cons.mpr ⟨np_s_iload_n hX dL_sure_3 rfl, List.forall_mem_cons.mpr ⟨np_S.mono (op := np_callVX 11 2 sp_X11_sure 3 1 6 1 6 [(0, 12)]) (np_s_callVX hX C_X11_sure dL_sure_4 (q := (RX11, TX11, 14)) rfl rfl gw757 gw130 gw754 gw755 gw756 ⟨by decide, by decide, by decide⟩ (by decide) (by decide) (htb.symm ▸ hdL_sure_4)) nq_callVX_le, List.forall_mem_cons.mpr ⟨np_s_i2l hX dL_sure_7, List.forall_mem_cons.mpr ⟨np_S.mono (op := np_last) (np_s_last hX dL_sure_8) nq_last_le, List.forall_mem_cons.mpr ⟨np_s_goto hX dL_sure_9 (by decide), List.forall_mem_cons.mpr ⟨np_s_astore_n hX dL_sure_12 rfl (by decide), List.forall_mem_cons.mpr ⟨np_s_iconst hX dL_sure_13 (by decide), List.forall_mem_cons.mpr ⟨np_S.mono (op := np_ret X.2.2.1) (np_s_ret hX dL_sure_14) (nq_ret_le hR), List.forall_mem_cons.mpr ⟨np_s_iconst hX dL_sure_15 (by decide), List.forall_mem_cons.mpr ⟨np_S.mono (op := np_ret X.2.2.1) (np_s_ret hX dL_sure_16) (nq_ret_le hR), fun _ h => nomatch h⟩⟩⟩⟩⟩⟩⟩⟩⟩⟩⟩⟩⟩
abbrev sp_L_sure : np_Sp := nq_in is_L_sure (some .int) 1 6 400
theorem C_L_sure : np_CW yL_sure cL_sure 4 (some .int) hhL_sure 7 122 1 6 sp_L_sure := nq_inCW 400 (by decide) (fun X Rt hX htb hR => so_L_sure hX htb hR)
theorem dL_constrain_0 : decode cL_constrain 0 = .ok (.aload 7, 2) := by decide +kernel
theorem dL_constrain_2 : decode cL_constrain 2 = .ok (.iconst 0, 1) := by decide +kernel
theorem dL_constrain_3 : decode cL_constrain 3 = .ok (.aload_n 0, 1) := by decide +kernel
theorem dL_constrain_4 : decode cL_constrain 4 = .ok (.iload_n 1, 1) := by decide +kernel
theorem dL_constrain_5 : decode cL_constrain 5 = .ok (.iload_n 2, 1) := by decide +kernel
theorem dL_constrain_6 : decode cL_constrain 6 = .ok (.iload_n 3, 1) := by decide +kernel
theorem dL_constrain_7 : decode cL_constrain 7 = .ok (.iload 4, 2) := by decide +kernel
theorem dL_constrain_9 : decode cL_constrain 9 = .ok (.iload 5, 2) := by decide +kernel
theorem dL_constrain_11 : decode cL_constrain 11 = .ok (.iload 6, 2) := by decide +kernel
theorem dL_constrain_13 : decode cL_constrain 13 = .ok (.invokevirtual 27, 3) := by decide +kernel
theorem dL_constrain_16 : decode cL_constrain 16 = .ok (.i2l, 1) := by decide +kernel
theorem dL_constrain_17 : decode cL_constrain 17 = .ok (.lastore, 1) := by decide +kernel
theorem dL_constrain_18 : decode cL_constrain 18 = .ok (.goto 15, 3) := by decide +kernel
theorem dL_constrain_21 : decode cL_constrain 21 = .ok (.astore 8, 2) := by decide +kernel
theorem dL_constrain_23 : decode cL_constrain 23 = .ok (.iconst 1, 1) := by decide +kernel
theorem dL_constrain_24 : decode cL_constrain 24 = .ok (.ireturn, 1) := by decide +kernel
theorem dL_constrain_25 : decode cL_constrain 25 = .ok (.astore 8, 2) := by decide +kernel
theorem dL_constrain_27 : decode cL_constrain 27 = .ok (.iconst 2, 1) := by decide +kernel
theorem dL_constrain_28 : decode cL_constrain 28 = .ok (.ireturn, 1) := by decide +kernel
theorem dL_constrain_29 : decode cL_constrain 29 = .ok (.astore 8, 2) := by decide +kernel
theorem dL_constrain_31 : decode cL_constrain 31 = .ok (.iconst 3, 1) := by decide +kernel
theorem dL_constrain_32 : decode cL_constrain 32 = .ok (.ireturn, 1) := by decide +kernel
theorem dL_constrain_33 : decode cL_constrain 33 = .ok (.iconst 0, 1) := by decide +kernel
theorem dL_constrain_34 : decode cL_constrain 34 = .ok (.ireturn, 1) := by decide +kernel
def hhL_constrain : List (Nat × Nat × Nat × Nat) := [((0 : Nat), (18 : Nat), (21 : Nat), (13 : Nat)), ((0 : Nat), (18 : Nat), (25 : Nat), (15 : Nat)), ((0 : Nat), (18 : Nat), (29 : Nat), (17 : Nat))]
theorem hdL_constrain_13_0 : np_hd RL (tableOf hhL_constrain) 13 0 21 := ⟨(tableOf hhL_constrain).take 0, _, (tableOf hhL_constrain).drop 1, rfl, (fun _ h => nomatch h), rfl, by decide, gw560, gw575, rfl⟩
theorem hdL_constrain_13_1 : np_hd RL (tableOf hhL_constrain) 13 1 25 := ⟨(tableOf hhL_constrain).take 1, _, (tableOf hhL_constrain).drop 2, rfl, List.forall_mem_cons.mpr ⟨Or.inr ⟨by decide, _, gw560, by decide⟩, (fun _ h => nomatch h)⟩, rfl, by decide, gw561, gw649, rfl⟩
theorem hdL_constrain_13_2 : np_hd RL (tableOf hhL_constrain) 13 2 29 := ⟨(tableOf hhL_constrain).take 2, _, (tableOf hhL_constrain).drop 3, rfl, List.forall_mem_cons.mpr ⟨Or.inr ⟨by decide, _, gw560, by decide⟩, List.forall_mem_cons.mpr ⟨Or.inr ⟨by decide, _, gw561, by decide⟩, (fun _ h => nomatch h)⟩⟩, rfl, by decide, gw562, gw669, rfl⟩
theorem hdL_constrain_13 : ∀ z ∈ ([(0, 21), (1, 25), (2, 29)] : List (Nat × Nat)), np_hd RL (tableOf hhL_constrain) 13 z.1 z.2 := List.forall_mem_cons.mpr ⟨hdL_constrain_13_0, List.forall_mem_cons.mpr ⟨hdL_constrain_13_1, List.forall_mem_cons.mpr ⟨hdL_constrain_13_2, fun _ h => nomatch h⟩⟩⟩
def is_L_constrain (Rt : np_Rt) : List (Nat × np_Op) := [(0, np_ald 2 7), (2, np_push 1 (.int 0)), (3, np_ald 1 0), (4, np_ild 1 1), (5, np_ild 1 2), (6, np_ild 1 3), (7, np_ild 2 4), (9, np_ild 2 5), (11, np_ild 2 6), (13, nq_callVX 11 7 sp_X11_constrain 8 1 6 1 6 [(0, 21), (1, 25), (2, 29)]), (16, np_i2l), (17, nq_last), (18, np_goto 33), (21, np_ast 2 8), (23, np_push 1 (.int 1)), (24, np_ret Rt), (25, np_ast 2 8), (27, np_push 1 (.int 2)), (28, np_ret Rt), (29, np_ast 2 8), (31, np_push 1 (.int 3)), (32, np_ret Rt), (33, np_push 1 (.int 0)), (34, np_ret Rt)]
set_option maxRecDepth 20000 in
theorem so_L_constrain {X : np_Ctx} {Rt : np_Rt} (hX : np_ok RL cL_constrain 9 7 127 1 6 .ireturn X) (htb : np_tab X = tableOf hhL_constrain) (hR : ∀ st w ce sl, Rt st w ce sl → X.2.2.1 st w ce sl) : ∀ q ∈ is_L_constrain Rt, np_S X q.1 q.2 :=
  List.forall_mem_cons.mpr ⟨np_s_aload hX dL_constrain_0, List.forall_mem_cons.mpr ⟨np_s_iconst hX dL_constrain_2 (by decide), List.forall_mem_cons.mpr ⟨np_s_aload_n hX dL_constrain_3 rfl, List.forall_mem_cons.mpr ⟨np_s_iload_n hX dL_constrain_4 rfl, List.forall_mem_cons.mpr ⟨np_s_iload_n hX dL_constrain_5 rfl, List.forall_mem_cons.mpr ⟨np_s_iload_n hX dL_constrain_6 rfl, List.forall_mem_cons.mpr ⟨np_s_iload hX dL_constrain_7, List.forall_mem_cons.mpr ⟨np_s_iload hX dL_constrain_9, List.forall_mem_cons.mpr ⟨np_s_iload hX dL_constrain_11, List.forall_mem_cons.mpr ⟨np_S.mono (op := np_callVX 11 7 sp_X11_constrain 8 1 6 1 6 [(0, 21), (1, 25), (2, 29)]) (np_s_callVX hX C_X11_constrain dL_constrain_13 (q := (RX11, TX11, 14)) rfl rfl gw776 gw130 gw773 gw774 gw775 ⟨by decide, by decide, by decide⟩ (by decide) (by decide) (htb.symm ▸ hdL_constrain_13)) nq_callVX_le, List.forall_mem_cons.mpr ⟨np_s_i2l hX dL_constrain_16, List.forall_mem_cons.mpr ⟨np_S.mono (op := np_last) (np_s_last hX dL_constrain_17) nq_last_le, List.forall_mem_cons.mpr ⟨np_s_goto hX dL_constrain_18 (by decide), List.forall_mem_cons.mpr ⟨np_s_astore hX dL_constrain_21 (by decide), List.forall_mem_cons.mpr ⟨np_s_iconst hX dL_constrain_23 (by decide), List.forall_mem_cons.mpr ⟨np_S.mono (op := np_ret X.2.2.1) (np_s_ret hX dL_constrain_24) (nq_ret_le hR), List.forall_mem_cons.mpr ⟨np_s_astore hX dL_constrain_25 (by decide), List.forall_mem_cons.mpr ⟨np_s_iconst hX dL_constrain_27 (by decide), List.forall_mem_cons.mpr ⟨np_S.mono (op := np_ret X.2.2.1) (np_s_ret hX dL_constrain_28) (nq_ret_le hR), List.forall_mem_cons.mpr ⟨np_s_astore hX dL_constrain_29 (by decide), List.forall_mem_cons.mpr ⟨np_s_iconst hX dL_constrain_31 (by decide), List.forall_mem_cons.mpr ⟨np_S.mono (op := np_ret X.2.2.1) (np_s_ret hX dL_constrain_32) (nq_ret_le hR), List.forall_mem_cons.mpr ⟨np_s_iconst hX dL_constrain_33 (by decide), List.forall_mem_cons.mpr ⟨np_S.mono (op := np_ret X.2.2.1) (np_s_ret hX dL_constrain_34) (nq_ret_le hR), fun _ h => nomatch h⟩⟩⟩⟩⟩⟩⟩⟩⟩⟩⟩⟩⟩⟩⟩⟩⟩⟩⟩⟩⟩⟩⟩⟩
abbrev sp_L_constrain : np_Sp := nq_in is_L_constrain (some .int) 1 6 400
theorem C_L_constrain : np_CW yL_constrain cL_constrain 9 (some .int) hhL_constrain 7 127 1 6 sp_L_constrain := nq_inCW 400 (by decide) (fun X Rt hX htb hR => so_L_constrain hX htb hR)
theorem dL_set_0 : decode cL_set 0 = .ok (.aload 4, 2) := by decide +kernel
theorem dL_set_2 : decode cL_set 2 = .ok (.iconst 0, 1) := by decide +kernel
theorem dL_set_3 : decode cL_set 3 = .ok (.aload_n 0, 1) := by decide +kernel
theorem dL_set_4 : decode cL_set 4 = .ok (.iload_n 1, 1) := by decide +kernel
theorem dL_set_5 : decode cL_set 5 = .ok (.iload_n 2, 1) := by decide +kernel
theorem dL_set_6 : decode cL_set 6 = .ok (.iload_n 3, 1) := by decide +kernel
theorem dL_set_7 : decode cL_set 7 = .ok (.invokevirtual 31, 3) := by decide +kernel
theorem dL_set_10 : decode cL_set 10 = .ok (.i2l, 1) := by decide +kernel
theorem dL_set_11 : decode cL_set 11 = .ok (.lastore, 1) := by decide +kernel
theorem dL_set_12 : decode cL_set 12 = .ok (.goto 7, 3) := by decide +kernel
theorem dL_set_15 : decode cL_set 15 = .ok (.astore 5, 2) := by decide +kernel
theorem dL_set_17 : decode cL_set 17 = .ok (.iconst 1, 1) := by decide +kernel
theorem dL_set_18 : decode cL_set 18 = .ok (.ireturn, 1) := by decide +kernel
theorem dL_set_19 : decode cL_set 19 = .ok (.iconst 0, 1) := by decide +kernel
theorem dL_set_20 : decode cL_set 20 = .ok (.ireturn, 1) := by decide +kernel
def hhL_set : List (Nat × Nat × Nat × Nat) := [((0 : Nat), (12 : Nat), (15 : Nat), (13 : Nat))]
theorem hdL_set_7_0 : np_hd RL (tableOf hhL_set) 7 0 15 := ⟨(tableOf hhL_set).take 0, _, (tableOf hhL_set).drop 1, rfl, (fun _ h => nomatch h), rfl, by decide, gw560, gw575, rfl⟩
theorem hdL_set_7 : ∀ z ∈ ([(0, 15)] : List (Nat × Nat)), np_hd RL (tableOf hhL_set) 7 z.1 z.2 := List.forall_mem_cons.mpr ⟨hdL_set_7_0, fun _ h => nomatch h⟩
def is_L_set (Rt : np_Rt) : List (Nat × np_Op) := [(0, np_ald 2 4), (2, np_push 1 (.int 0)), (3, np_ald 1 0), (4, np_ild 1 1), (5, np_ild 1 2), (6, np_ild 1 3), (7, nq_callVX 11 4 sp_X11_set 5 1 6 1 6 [(0, 15)]), (10, np_i2l), (11, nq_last), (12, np_goto 19), (15, np_ast 2 5), (17, np_push 1 (.int 1)), (18, np_ret Rt), (19, np_push 1 (.int 0)), (20, np_ret Rt)]
set_option maxRecDepth 20000 in
theorem so_L_set {X : np_Ctx} {Rt : np_Rt} (hX : np_ok RL cL_set 6 7 124 1 6 .ireturn X) (htb : np_tab X = tableOf hhL_set) (hR : ∀ st w ce sl, Rt st w ce sl → X.2.2.1 st w ce sl) : ∀ q ∈ is_L_set Rt, np_S X q.1 q.2 :=
  List.forall_mem_cons.mpr ⟨np_s_aload hX dL_set_0, List.forall_mem_cons.mpr ⟨np_s_iconst hX dL_set_2 (by decide), List.forall_mem_cons.mpr ⟨np_s_aload_n hX dL_set_3 rfl, List.forall_mem_cons.mpr ⟨np_s_iload_n hX dL_set_4 rfl, List.forall_mem_cons.mpr ⟨np_s_iload_n hX dL_set_5 rfl, List.forall_mem_cons.mpr ⟨np_s_iload_n hX dL_set_6 rfl, List.forall_mem_cons.mpr ⟨np_S.mono (op := np_callVX 11 4 sp_X11_set 5 1 6 1 6 [(0, 15)]) (np_s_callVX hX C_X11_set dL_set_7 (q := (RX11, TX11, 14)) rfl rfl gw807 gw130 gw804 gw805 gw806 ⟨by decide, by decide, by decide⟩ (by decide) (by decide) (htb.symm ▸ hdL_set_7)) nq_callVX_le, List.forall_mem_cons.mpr ⟨np_s_i2l hX dL_set_10, List.forall_mem_cons.mpr ⟨np_S.mono (op := np_last) (np_s_last hX dL_set_11) nq_last_le, List.forall_mem_cons.mpr ⟨np_s_goto hX dL_set_12 (by decide), List.forall_mem_cons.mpr ⟨np_s_astore hX dL_set_15 (by decide), List.forall_mem_cons.mpr ⟨np_s_iconst hX dL_set_17 (by decide), List.forall_mem_cons.mpr ⟨np_S.mono (op := np_ret X.2.2.1) (np_s_ret hX dL_set_18) (nq_ret_le hR), List.forall_mem_cons.mpr ⟨np_s_iconst hX dL_set_19 (by decide), List.forall_mem_cons.mpr ⟨np_S.mono (op := np_ret X.2.2.1) (np_s_ret hX dL_set_20) (nq_ret_le hR), fun _ h => nomatch h⟩⟩⟩⟩⟩⟩⟩⟩⟩⟩⟩⟩⟩⟩⟩
abbrev sp_L_set : np_Sp := nq_in is_L_set (some .int) 1 6 400
theorem C_L_set : np_CW yL_set cL_set 6 (some .int) hhL_set 7 124 1 6 sp_L_set := nq_inCW 400 (by decide) (fun X Rt hX htb hR => so_L_set hX htb hR)
theorem dL_get_0 : decode cL_get 0 = .ok (.aload_n 3, 1) := by decide +kernel
theorem dL_get_1 : decode cL_get 1 = .ok (.iconst 0, 1) := by decide +kernel
theorem dL_get_2 : decode cL_get 2 = .ok (.aload_n 0, 1) := by decide +kernel
theorem dL_get_3 : decode cL_get 3 = .ok (.iload_n 1, 1) := by decide +kernel
theorem dL_get_4 : decode cL_get 4 = .ok (.iload_n 2, 1) := by decide +kernel
theorem dL_get_5 : decode cL_get 5 = .ok (.invokevirtual 35, 3) := by decide +kernel
theorem dL_get_8 : decode cL_get 8 = .ok (.i2l, 1) := by decide +kernel
theorem dL_get_9 : decode cL_get 9 = .ok (.lastore, 1) := by decide +kernel
theorem dL_get_10 : decode cL_get 10 = .ok (.goto 7, 3) := by decide +kernel
theorem dL_get_13 : decode cL_get 13 = .ok (.astore 4, 2) := by decide +kernel
theorem dL_get_15 : decode cL_get 15 = .ok (.iconst 1, 1) := by decide +kernel
theorem dL_get_16 : decode cL_get 16 = .ok (.ireturn, 1) := by decide +kernel
theorem dL_get_17 : decode cL_get 17 = .ok (.iconst 0, 1) := by decide +kernel
theorem dL_get_18 : decode cL_get 18 = .ok (.ireturn, 1) := by decide +kernel
def hhL_get : List (Nat × Nat × Nat × Nat) := [((0 : Nat), (10 : Nat), (13 : Nat), (13 : Nat))]
theorem hdL_get_5_0 : np_hd RL (tableOf hhL_get) 5 0 13 := ⟨(tableOf hhL_get).take 0, _, (tableOf hhL_get).drop 1, rfl, (fun _ h => nomatch h), rfl, by decide, gw560, gw575, rfl⟩
theorem hdL_get_5 : ∀ z ∈ ([(0, 13)] : List (Nat × Nat)), np_hd RL (tableOf hhL_get) 5 z.1 z.2 := List.forall_mem_cons.mpr ⟨hdL_get_5_0, fun _ h => nomatch h⟩
def is_L_get (Rt : np_Rt) : List (Nat × np_Op) := [(0, np_ald 1 3), (1, np_push 1 (.int 0)), (2, np_ald 1 0), (3, np_ild 1 1), (4, np_ild 1 2), (5, nq_callVX 11 3 sp_X11_get 3 1 6 1 6 [(0, 13)]), (8, np_i2l), (9, nq_last), (10, np_goto 17), (13, np_ast 2 4), (15, np_push 1 (.int 1)), (16, np_ret Rt), (17, np_push 1 (.int 0)), (18, np_ret Rt)]
set_option maxRecDepth 20000 in
theorem so_L_get {X : np_Ctx} {Rt : np_Rt} (hX : np_ok RL cL_get 5 7 122 1 6 .ireturn X) (htb : np_tab X = tableOf hhL_get) (hR : ∀ st w ce sl, Rt st w ce sl → X.2.2.1 st w ce sl) : ∀ q ∈ is_L_get Rt, np_S X q.1 q.2 :=
  List.forall_mem_cons.mpr ⟨np_s_aload_n hX dL_get_0 rfl, List.forall_mem_cons.mpr ⟨np_s_iconst hX dL_get_1 (by decide), List.forall_mem_cons.mpr ⟨np_s_aload_n hX dL_get_2 rfl, List.forall_mem_cons.mpr ⟨np_s_iload_n hX dL_get_3 rfl, List.forall_mem_cons.mpr ⟨np_s_iload_n hX dL_get_4 rfl, List.forall_mem_cons.mpr ⟨np_S.mono (op := np_callVX 11 3 sp_X11_get 3 1 6 1 6 [(0, 13)]) (np_s_callVX hX C_X11_get dL_get_5 (q := (RX11, TX11, 14)) rfl rfl gw823 gw130 gw820 gw821 gw822 ⟨by decide, by decide, by decide⟩ (by decide) (by decide) (htb.symm ▸ hdL_get_5)) nq_callVX_le, List.forall_mem_cons.mpr ⟨np_s_i2l hX dL_get_8, List.forall_mem_cons.mpr ⟨np_S.mono (op := np_last) (np_s_last hX dL_get_9) nq_last_le, List.forall_mem_cons.mpr ⟨np_s_goto hX dL_get_10 (by decide), List.forall_mem_cons.mpr ⟨np_s_astore hX dL_get_13 (by decide), List.forall_mem_cons.mpr ⟨np_s_iconst hX dL_get_15 (by decide), List.forall_mem_cons.mpr ⟨np_S.mono (op := np_ret X.2.2.1) (np_s_ret hX dL_get_16) (nq_ret_le hR), List.forall_mem_cons.mpr ⟨np_s_iconst hX dL_get_17 (by decide), List.forall_mem_cons.mpr ⟨np_S.mono (op := np_ret X.2.2.1) (np_s_ret hX dL_get_18) (nq_ret_le hR), fun _ h => nomatch h⟩⟩⟩⟩⟩⟩⟩⟩⟩⟩⟩⟩⟩⟩
abbrev sp_L_get : np_Sp := nq_in is_L_get (some .int) 1 6 400
theorem C_L_get : np_CW yL_get cL_get 5 (some .int) hhL_get 7 122 1 6 sp_L_get := nq_inCW 400 (by decide) (fun X Rt hX htb hR => so_L_get hX htb hR)
theorem dL_message_0 : decode cL_message 0 = .ok (.aload_n 2, 1) := by decide +kernel
theorem dL_message_1 : decode cL_message 1 = .ok (.iconst 0, 1) := by decide +kernel
theorem dL_message_2 : decode cL_message 2 = .ok (.aload_n 0, 1) := by decide +kernel
theorem dL_message_3 : decode cL_message 3 = .ok (.iload_n 1, 1) := by decide +kernel
theorem dL_message_4 : decode cL_message 4 = .ok (.invokevirtual 39, 3) := by decide +kernel
theorem dL_message_7 : decode cL_message 7 = .ok (.i2l, 1) := by decide +kernel
theorem dL_message_8 : decode cL_message 8 = .ok (.lastore, 1) := by decide +kernel
theorem dL_message_9 : decode cL_message 9 = .ok (.goto 6, 3) := by decide +kernel
theorem dL_message_12 : decode cL_message 12 = .ok (.astore_n 3, 1) := by decide +kernel
theorem dL_message_13 : decode cL_message 13 = .ok (.iconst 1, 1) := by decide +kernel
theorem dL_message_14 : decode cL_message 14 = .ok (.ireturn, 1) := by decide +kernel
theorem dL_message_15 : decode cL_message 15 = .ok (.iconst 0, 1) := by decide +kernel
theorem dL_message_16 : decode cL_message 16 = .ok (.ireturn, 1) := by decide +kernel
def hhL_message : List (Nat × Nat × Nat × Nat) := [((0 : Nat), (9 : Nat), (12 : Nat), (13 : Nat))]
theorem hdL_message_4_0 : np_hd RL (tableOf hhL_message) 4 0 12 := ⟨(tableOf hhL_message).take 0, _, (tableOf hhL_message).drop 1, rfl, (fun _ h => nomatch h), rfl, by decide, gw560, gw575, rfl⟩
theorem hdL_message_4 : ∀ z ∈ ([(0, 12)] : List (Nat × Nat)), np_hd RL (tableOf hhL_message) 4 z.1 z.2 := List.forall_mem_cons.mpr ⟨hdL_message_4_0, fun _ h => nomatch h⟩
def is_L_message (Rt : np_Rt) : List (Nat × np_Op) := [(0, np_ald 1 2), (1, np_push 1 (.int 0)), (2, np_ald 1 0), (3, np_ild 1 1), (4, nq_callVX 11 2 sp_X11_message 3 1 6 1 6 [(0, 12)]), (7, np_i2l), (8, nq_last), (9, np_goto 15), (12, np_ast 1 3), (13, np_push 1 (.int 1)), (14, np_ret Rt), (15, np_push 1 (.int 0)), (16, np_ret Rt)]
set_option maxRecDepth 20000 in
theorem so_L_message {X : np_Ctx} {Rt : np_Rt} (hX : np_ok RL cL_message 4 7 122 1 6 .ireturn X) (htb : np_tab X = tableOf hhL_message) (hR : ∀ st w ce sl, Rt st w ce sl → X.2.2.1 st w ce sl) : ∀ q ∈ is_L_message Rt, np_S X q.1 q.2 :=
  List.forall_mem_cons.mpr ⟨np_s_aload_n hX dL_message_0 rfl, List.forall_mem_cons.mpr ⟨np_s_iconst hX dL_message_1 (by decide), List.forall_mem_cons.mpr ⟨np_s_aload_n hX dL_message_2 rfl, List.forall_mem_cons.mpr ⟨np_s_iload_n hX dL_message_3 rfl, List.forall_mem_cons.mpr ⟨np_S.mono (op := np_callVX 11 2 sp_X11_message 3 1 6 1 6 [(0, 12)]) (np_s_callVX hX C_X11_message dL_message_4 (q := (RX11, TX11, 14)) rfl rfl gw830 gw130 gw827 gw828 gw829 ⟨by decide, by decide, by decide⟩ (by decide) (by decide) (htb.symm ▸ hdL_message_4)) nq_callVX_le, List.forall_mem_cons.mpr ⟨np_s_i2l hX dL_message_7, List.forall_mem_cons.mpr ⟨np_S.mono (op := np_last) (np_s_last hX dL_message_8) nq_last_le, List.forall_mem_cons.mpr ⟨np_s_goto hX dL_message_9 (by decide), List.forall_mem_cons.mpr ⟨np_s_astore_n hX dL_message_12 rfl (by decide), List.forall_mem_cons.mpr ⟨np_s_iconst hX dL_message_13 (by decide), List.forall_mem_cons.mpr ⟨np_S.mono (op := np_ret X.2.2.1) (np_s_ret hX dL_message_14) (nq_ret_le hR), List.forall_mem_cons.mpr ⟨np_s_iconst hX dL_message_15 (by decide), List.forall_mem_cons.mpr ⟨np_S.mono (op := np_ret X.2.2.1) (np_s_ret hX dL_message_16) (nq_ret_le hR), fun _ h => nomatch h⟩⟩⟩⟩⟩⟩⟩⟩⟩⟩⟩⟩⟩
abbrev sp_L_message : np_Sp := nq_in is_L_message (some .int) 1 6 400
theorem C_L_message : np_CW yL_message cL_message 4 (some .int) hhL_message 7 122 1 6 sp_L_message := nq_inCW 400 (by decide) (fun X Rt hX htb hR => so_L_message hX htb hR)
theorem dL_sample_0 : decode cL_sample 0 = .ok (.aload_n 3, 1) := by decide +kernel
theorem dL_sample_1 : decode cL_sample 1 = .ok (.iconst 0, 1) := by decide +kernel
theorem dL_sample_2 : decode cL_sample 2 = .ok (.aload_n 0, 1) := by decide +kernel
theorem dL_sample_3 : decode cL_sample 3 = .ok (.iload_n 1, 1) := by decide +kernel
theorem dL_sample_4 : decode cL_sample 4 = .ok (.iload_n 2, 1) := by decide +kernel
theorem dL_sample_5 : decode cL_sample 5 = .ok (.invokevirtual 42, 3) := by decide +kernel
theorem dL_sample_8 : decode cL_sample 8 = .ok (.ifCond .eq 7, 3) := by decide +kernel
theorem dL_sample_11 : decode cL_sample 11 = .ok (.lconst 1, 1) := by decide +kernel
theorem dL_sample_12 : decode cL_sample 12 = .ok (.goto 4, 3) := by decide +kernel
theorem dL_sample_15 : decode cL_sample 15 = .ok (.lconst 0, 1) := by decide +kernel
theorem dL_sample_16 : decode cL_sample 16 = .ok (.lastore, 1) := by decide +kernel
theorem dL_sample_17 : decode cL_sample 17 = .ok (.goto 11, 3) := by decide +kernel
theorem dL_sample_20 : decode cL_sample 20 = .ok (.astore 4, 2) := by decide +kernel
theorem dL_sample_22 : decode cL_sample 22 = .ok (.iconst 1, 1) := by decide +kernel
theorem dL_sample_23 : decode cL_sample 23 = .ok (.ireturn, 1) := by decide +kernel
theorem dL_sample_24 : decode cL_sample 24 = .ok (.astore 4, 2) := by decide +kernel
theorem dL_sample_26 : decode cL_sample 26 = .ok (.iconst 2, 1) := by decide +kernel
theorem dL_sample_27 : decode cL_sample 27 = .ok (.ireturn, 1) := by decide +kernel
theorem dL_sample_28 : decode cL_sample 28 = .ok (.iconst 0, 1) := by decide +kernel
theorem dL_sample_29 : decode cL_sample 29 = .ok (.ireturn, 1) := by decide +kernel
def hhL_sample : List (Nat × Nat × Nat × Nat) := [((0 : Nat), (17 : Nat), (20 : Nat), (13 : Nat)), ((0 : Nat), (17 : Nat), (24 : Nat), (15 : Nat))]
theorem hdL_sample_5_0 : np_hd RL (tableOf hhL_sample) 5 0 20 := ⟨(tableOf hhL_sample).take 0, _, (tableOf hhL_sample).drop 1, rfl, (fun _ h => nomatch h), rfl, by decide, gw560, gw575, rfl⟩
theorem hdL_sample_5_1 : np_hd RL (tableOf hhL_sample) 5 1 24 := ⟨(tableOf hhL_sample).take 1, _, (tableOf hhL_sample).drop 2, rfl, List.forall_mem_cons.mpr ⟨Or.inr ⟨by decide, _, gw560, by decide⟩, (fun _ h => nomatch h)⟩, rfl, by decide, gw561, gw649, rfl⟩
theorem hdL_sample_5 : ∀ z ∈ ([(0, 20), (1, 24)] : List (Nat × Nat)), np_hd RL (tableOf hhL_sample) 5 z.1 z.2 := List.forall_mem_cons.mpr ⟨hdL_sample_5_0, List.forall_mem_cons.mpr ⟨hdL_sample_5_1, fun _ h => nomatch h⟩⟩
def is_L_sample (Rt : np_Rt) : List (Nat × np_Op) := [(0, np_ald 1 3), (1, np_push 1 (.int 0)), (2, np_ald 1 0), (3, np_ild 1 1), (4, np_ild 1 2), (5, nq_callVX 11 3 sp_X11_sample 5 1 6 1 6 [(0, 20), (1, 24)]), (8, nq_if (fun x => x = 0) 15), (11, np_push 1 (.long 1)), (12, np_goto 16), (15, np_push 1 (.long 0)), (16, nq_last), (17, np_goto 28), (20, np_ast 2 4), (22, np_push 1 (.int 1)), (23, np_ret Rt), (24, np_ast 2 4), (26, np_push 1 (.int 2)), (27, np_ret Rt), (28, np_push 1 (.int 0)), (29, np_ret Rt)]
set_option maxRecDepth 20000 in
theorem so_L_sample {X : np_Ctx} {Rt : np_Rt} (hX : np_ok RL cL_sample 5 7 124 1 6 .ireturn X) (htb : np_tab X = tableOf hhL_sample) (hR : ∀ st w ce sl, Rt st w ce sl → X.2.2.1 st w ce sl) : ∀ q ∈ is_L_sample Rt, np_S X q.1 q.2 :=
  List.forall_mem_cons.mpr ⟨np_s_aload_n hX dL_sample_0 rfl, List.forall_mem_cons.mpr ⟨np_s_iconst hX dL_sample_1 (by decide), List.forall_mem_cons.mpr ⟨np_s_aload_n hX dL_sample_2 rfl, List.forall_mem_cons.mpr ⟨np_s_iload_n hX dL_sample_3 rfl, List.forall_mem_cons.mpr ⟨np_s_iload_n hX dL_sample_4 rfl, List.forall_mem_cons.mpr ⟨np_S.mono (op := np_callVX 11 3 sp_X11_sample 5 1 6 1 6 [(0, 20), (1, 24)]) (np_s_callVX hX C_X11_sample dL_sample_5 (q := (RX11, TX11, 14)) rfl rfl gw854 gw130 gw851 gw852 gw853 ⟨by decide, by decide, by decide⟩ (by decide) (by decide) (htb.symm ▸ hdL_sample_5)) nq_callVX_le, List.forall_mem_cons.mpr ⟨np_S.mono (op := np_if (fun x => x = 0) 15) (np_s_if_eq hX dL_sample_8 (by decide)) nq_if_le, List.forall_mem_cons.mpr ⟨np_s_lconst hX dL_sample_11 (by decide), List.forall_mem_cons.mpr ⟨np_s_goto hX dL_sample_12 (by decide), List.forall_mem_cons.mpr ⟨np_s_lconst hX dL_sample_15 (by decide), List.forall_mem_cons.mpr ⟨np_S.mono (op := np_last) (np_s_last hX dL_sample_16) nq_last_le, List.forall_mem_cons.mpr ⟨np_s_goto hX dL_sample_17 (by decide), List.forall_mem_cons.mpr ⟨np_s_astore hX dL_sample_20 (by decide), List.forall_mem_cons.mpr ⟨np_s_iconst hX dL_sample_22 (by decide), List.forall_mem_cons.mpr ⟨np_S.mono (op := np_ret X.2.2.1) (np_s_ret hX dL_sample_23) (nq_ret_le hR), List.forall_mem_cons.mpr ⟨np_s_astore hX dL_sample_24 (by decide), List.forall_mem_cons.mpr ⟨np_s_iconst hX dL_sample_26 (by decide), List.forall_mem_cons.mpr ⟨np_S.mono (op := np_ret X.2.2.1) (np_s_ret hX dL_sample_27) (nq_ret_le hR), List.forall_mem_cons.mpr ⟨np_s_iconst hX dL_sample_28 (by decide), List.forall_mem_cons.mpr ⟨np_S.mono (op := np_ret X.2.2.1) (np_s_ret hX dL_sample_29) (nq_ret_le hR), fun _ h => nomatch h⟩⟩⟩⟩⟩⟩⟩⟩⟩⟩⟩⟩⟩⟩⟩⟩⟩⟩⟩⟩
abbrev sp_L_sample : np_Sp := nq_in is_L_sample (some .int) 1 6 400
theorem C_L_sample : np_CW yL_sample cL_sample 5 (some .int) hhL_sample 7 124 1 6 sp_L_sample := nq_inCW 400 (by decide) (fun X Rt hX htb hR => so_L_sample hX htb hR)
theorem dL_type_0 : decode cL_type 0 = .ok (.aload_n 3, 1) := by decide +kernel
theorem dL_type_1 : decode cL_type 1 = .ok (.iconst 0, 1) := by decide +kernel
theorem dL_type_2 : decode cL_type 2 = .ok (.aload_n 0, 1) := by decide +kernel
theorem dL_type_3 : decode cL_type 3 = .ok (.iload_n 1, 1) := by decide +kernel
theorem dL_type_4 : decode cL_type 4 = .ok (.iload_n 2, 1) := by decide +kernel
theorem dL_type_5 : decode cL_type 5 = .ok (.invokevirtual 46, 3) := by decide +kernel
theorem dL_type_8 : decode cL_type 8 = .ok (.i2l, 1) := by decide +kernel
theorem dL_type_9 : decode cL_type 9 = .ok (.lastore, 1) := by decide +kernel
theorem dL_type_10 : decode cL_type 10 = .ok (.goto 15, 3) := by decide +kernel
theorem dL_type_13 : decode cL_type 13 = .ok (.astore 4, 2) := by decide +kernel
theorem dL_type_15 : decode cL_type 15 = .ok (.iconst 1, 1) := by decide +kernel
theorem dL_type_16 : decode cL_type 16 = .ok (.ireturn, 1) := by decide +kernel
theorem dL_type_17 : decode cL_type 17 = .ok (.astore 4, 2) := by decide +kernel
theorem dL_type_19 : decode cL_type 19 = .ok (.iconst 2, 1) := by decide +kernel
theorem dL_type_20 : decode cL_type 20 = .ok (.ireturn, 1) := by decide +kernel
theorem dL_type_21 : decode cL_type 21 = .ok (.astore 4, 2) := by decide +kernel
theorem dL_type_23 : decode cL_type 23 = .ok (.iconst 3, 1) := by decide +kernel
theorem dL_type_24 : decode cL_type 24 = .ok (.ireturn, 1) := by decide +kernel
theorem dL_type_25 : decode cL_type 25 = .ok (.iconst 0, 1) := by decide +kernel
theorem dL_type_26 : decode cL_type 26 = .ok (.ireturn, 1) := by decide +kernel
def hhL_type : List (Nat × Nat × Nat × Nat) := [((0 : Nat), (10 : Nat), (13 : Nat), (13 : Nat)), ((0 : Nat), (10 : Nat), (17 : Nat), (15 : Nat)), ((0 : Nat), (10 : Nat), (21 : Nat), (17 : Nat))]
theorem hdL_type_5_0 : np_hd RL (tableOf hhL_type) 5 0 13 := ⟨(tableOf hhL_type).take 0, _, (tableOf hhL_type).drop 1, rfl, (fun _ h => nomatch h), rfl, by decide, gw560, gw575, rfl⟩
theorem hdL_type_5_1 : np_hd RL (tableOf hhL_type) 5 1 17 := ⟨(tableOf hhL_type).take 1, _, (tableOf hhL_type).drop 2, rfl, List.forall_mem_cons.mpr ⟨Or.inr ⟨by decide, _, gw560, by decide⟩, (fun _ h => nomatch h)⟩, rfl, by decide, gw561, gw649, rfl⟩
theorem hdL_type_5_2 : np_hd RL (tableOf hhL_type) 5 2 21 := ⟨(tableOf hhL_type).take 2, _, (tableOf hhL_type).drop 3, rfl, List.forall_mem_cons.mpr ⟨Or.inr ⟨by decide, _, gw560, by decide⟩, List.forall_mem_cons.mpr ⟨Or.inr ⟨by decide, _, gw561, by decide⟩, (fun _ h => nomatch h)⟩⟩, rfl, by decide, gw562, gw669, rfl⟩
theorem hdL_type_5 : ∀ z ∈ ([(0, 13), (1, 17), (2, 21)] : List (Nat × Nat)), np_hd RL (tableOf hhL_type) 5 z.1 z.2 := List.forall_mem_cons.mpr ⟨hdL_type_5_0, List.forall_mem_cons.mpr ⟨hdL_type_5_1, List.forall_mem_cons.mpr ⟨hdL_type_5_2, fun _ h => nomatch h⟩⟩⟩
def is_L_type (Rt : np_Rt) : List (Nat × np_Op) := [(0, np_ald 1 3), (1, np_push 1 (.int 0)), (2, np_ald 1 0), (3, np_ild 1 1), (4, np_ild 1 2), (5, nq_callVX 11 3 sp_X11_type 6 1 6 1 6 [(0, 13), (1, 17), (2, 21)]), (8, np_i2l), (9, nq_last), (10, np_goto 25), (13, np_ast 2 4), (15, np_push 1 (.int 1)), (16, np_ret Rt), (17, np_ast 2 4), (19, np_push 1 (.int 2)), (20, np_ret Rt), (21, np_ast 2 4), (23, np_push 1 (.int 3)), (24, np_ret Rt), (25, np_push 1 (.int 0)), (26, np_ret Rt)]
set_option maxRecDepth 20000 in
theorem so_L_type {X : np_Ctx} {Rt : np_Rt} (hX : np_ok RL cL_type 5 7 125 1 6 .ireturn X) (htb : np_tab X = tableOf hhL_type) (hR : ∀ st w ce sl, Rt st w ce sl → X.2.2.1 st w ce sl) : ∀ q ∈ is_L_type Rt, np_S X q.1 q.2 :=
  List.forall_mem_cons.mpr ⟨np_s_aload_n hX dL_type_0 rfl, List.forall_mem_cons.mpr ⟨np_s_iconst hX dL_type_1 (by decide), List.forall_mem_cons.mpr ⟨np_s_aload_n hX dL_type_2 rfl, List.forall_mem_cons.mpr ⟨np_s_iload_n hX dL_type_3 rfl, List.forall_mem_cons.mpr ⟨np_s_iload_n hX dL_type_4 rfl, List.forall_mem_cons.mpr ⟨np_S.mono (op := np_callVX 11 3 sp_X11_type 6 1 6 1 6 [(0, 13), (1, 17), (2, 21)]) (np_s_callVX hX C_X11_type dL_type_5 (q := (RX11, TX11, 14)) rfl rfl gw1031 gw130 gw1028 gw1029 gw1030 ⟨by decide, by decide, by decide⟩ (by decide) (by decide) (htb.symm ▸ hdL_type_5)) nq_callVX_le, List.forall_mem_cons.mpr ⟨np_s_i2l hX dL_type_8, List.forall_mem_cons.mpr ⟨np_S.mono (op := np_last) (np_s_last hX dL_type_9) nq_last_le, List.forall_mem_cons.mpr ⟨np_s_goto hX dL_type_10 (by decide), List.forall_mem_cons.mpr ⟨np_s_astore hX dL_type_13 (by decide), List.forall_mem_cons.mpr ⟨np_s_iconst hX dL_type_15 (by decide), List.forall_mem_cons.mpr ⟨np_S.mono (op := np_ret X.2.2.1) (np_s_ret hX dL_type_16) (nq_ret_le hR), List.forall_mem_cons.mpr ⟨np_s_astore hX dL_type_17 (by decide), List.forall_mem_cons.mpr ⟨np_s_iconst hX dL_type_19 (by decide), List.forall_mem_cons.mpr ⟨np_S.mono (op := np_ret X.2.2.1) (np_s_ret hX dL_type_20) (nq_ret_le hR), List.forall_mem_cons.mpr ⟨np_s_astore hX dL_type_21 (by decide), List.forall_mem_cons.mpr ⟨np_s_iconst hX dL_type_23 (by decide), List.forall_mem_cons.mpr ⟨np_S.mono (op := np_ret X.2.2.1) (np_s_ret hX dL_type_24) (nq_ret_le hR), List.forall_mem_cons.mpr ⟨np_s_iconst hX dL_type_25 (by decide), List.forall_mem_cons.mpr ⟨np_S.mono (op := np_ret X.2.2.1) (np_s_ret hX dL_type_26) (nq_ret_le hR), fun _ h => nomatch h⟩⟩⟩⟩⟩⟩⟩⟩⟩⟩⟩⟩⟩⟩⟩⟩⟩⟩⟩⟩
abbrev sp_L_type : np_Sp := nq_in is_L_type (some .int) 1 6 400
theorem C_L_type : np_CW yL_type cL_type 5 (some .int) hhL_type 7 125 1 6 sp_L_type := nq_inCW 400 (by decide) (fun X Rt hX htb hR => so_L_type hX htb hR)
theorem dL_print_0 : decode cL_print 0 = .ok (.aload_n 3, 1) := by decide +kernel
theorem dL_print_1 : decode cL_print 1 = .ok (.iconst 0, 1) := by decide +kernel
theorem dL_print_2 : decode cL_print 2 = .ok (.aload_n 0, 1) := by decide +kernel
theorem dL_print_3 : decode cL_print 3 = .ok (.iload_n 1, 1) := by decide +kernel
theorem dL_print_4 : decode cL_print 4 = .ok (.iload_n 2, 1) := by decide +kernel
theorem dL_print_5 : decode cL_print 5 = .ok (.invokevirtual 49, 3) := by decide +kernel
theorem dL_print_8 : decode cL_print 8 = .ok (.i2l, 1) := by decide +kernel
theorem dL_print_9 : decode cL_print 9 = .ok (.lastore, 1) := by decide +kernel
theorem dL_print_10 : decode cL_print 10 = .ok (.goto 11, 3) := by decide +kernel
theorem dL_print_13 : decode cL_print 13 = .ok (.astore 4, 2) := by decide +kernel
theorem dL_print_15 : decode cL_print 15 = .ok (.iconst 1, 1) := by decide +kernel
theorem dL_print_16 : decode cL_print 16 = .ok (.ireturn, 1) := by decide +kernel
theorem dL_print_17 : decode cL_print 17 = .ok (.astore 4, 2) := by decide +kernel
theorem dL_print_19 : decode cL_print 19 = .ok (.iconst 2, 1) := by decide +kernel
theorem dL_print_20 : decode cL_print 20 = .ok (.ireturn, 1) := by decide +kernel
theorem dL_print_21 : decode cL_print 21 = .ok (.iconst 0, 1) := by decide +kernel
theorem dL_print_22 : decode cL_print 22 = .ok (.ireturn, 1) := by decide +kernel
def hhL_print : List (Nat × Nat × Nat × Nat) := [((0 : Nat), (10 : Nat), (13 : Nat), (13 : Nat)), ((0 : Nat), (10 : Nat), (17 : Nat), (17 : Nat))]
theorem hdL_print_5_0 : np_hd RL (tableOf hhL_print) 5 0 13 := ⟨(tableOf hhL_print).take 0, _, (tableOf hhL_print).drop 1, rfl, (fun _ h => nomatch h), rfl, by decide, gw560, gw575, rfl⟩
theorem hdL_print_5_1 : np_hd RL (tableOf hhL_print) 5 2 17 := ⟨(tableOf hhL_print).take 1, _, (tableOf hhL_print).drop 2, rfl, List.forall_mem_cons.mpr ⟨Or.inr ⟨by decide, _, gw560, by decide⟩, (fun _ h => nomatch h)⟩, rfl, by decide, gw562, gw669, rfl⟩
theorem hdL_print_5 : ∀ z ∈ ([(0, 13), (2, 17)] : List (Nat × Nat)), np_hd RL (tableOf hhL_print) 5 z.1 z.2 := List.forall_mem_cons.mpr ⟨hdL_print_5_0, List.forall_mem_cons.mpr ⟨hdL_print_5_1, fun _ h => nomatch h⟩⟩
def is_L_print (Rt : np_Rt) : List (Nat × np_Op) := [(0, np_ald 1 3), (1, np_push 1 (.int 0)), (2, np_ald 1 0), (3, np_ild 1 1), (4, np_ild 1 2), (5, nq_callVX 11 3 sp_X11_print 7 1 6 1 6 [(0, 13), (2, 17)]), (8, np_i2l), (9, nq_last), (10, np_goto 21), (13, np_ast 2 4), (15, np_push 1 (.int 1)), (16, np_ret Rt), (17, np_ast 2 4), (19, np_push 1 (.int 2)), (20, np_ret Rt), (21, np_push 1 (.int 0)), (22, np_ret Rt)]
set_option maxRecDepth 20000 in
theorem so_L_print {X : np_Ctx} {Rt : np_Rt} (hX : np_ok RL cL_print 5 7 126 1 6 .ireturn X) (htb : np_tab X = tableOf hhL_print) (hR : ∀ st w ce sl, Rt st w ce sl → X.2.2.1 st w ce sl) : ∀ q ∈ is_L_print Rt, np_S X q.1 q.2 :=
  List.forall_mem_cons.mpr ⟨np_s_aload_n hX dL_print_0 rfl, List.forall_mem_cons.mpr ⟨np_s_iconst hX dL_print_1 (by decide), List.forall_mem_cons.mpr ⟨np_s_aload_n hX dL_print_2 rfl, List.forall_mem_cons.mpr ⟨np_s_iload_n hX dL_print_3 rfl, List.forall_mem_cons.mpr ⟨np_s_iload_n hX dL_print_4 rfl, List.forall_mem_cons.mpr ⟨np_S.mono (op := np_callVX 11 3 sp_X11_print 7 1 6 1 6 [(0, 13), (2, 17)]) (np_s_callVX hX C_X11_print dL_print_5 (q := (RX11, TX11, 14)) rfl rfl gw1056 gw130 gw1053 gw1054 gw1055 ⟨by decide, by decide, by decide⟩ (by decide) (by decide) (htb.symm ▸ hdL_print_5)) nq_callVX_le, List.forall_mem_cons.mpr ⟨np_s_i2l hX dL_print_8, List.forall_mem_cons.mpr ⟨np_S.mono (op := np_last) (np_s_last hX dL_print_9) nq_last_le, List.forall_mem_cons.mpr ⟨np_s_goto hX dL_print_10 (by decide), List.forall_mem_cons.mpr ⟨np_s_astore hX dL_print_13 (by decide), List.forall_mem_cons.mpr ⟨np_s_iconst hX dL_print_15 (by decide), List.forall_mem_cons.mpr ⟨np_S.mono (op := np_ret X.2.2.1) (np_s_ret hX dL_print_16) (nq_ret_le hR), List.forall_mem_cons.mpr ⟨np_s_astore hX dL_print_17 (by decide), List.forall_mem_cons.mpr ⟨np_s_iconst hX dL_print_19 (by decide), List.forall_mem_cons.mpr ⟨np_S.mono (op := np_ret X.2.2.1) (np_s_ret hX dL_print_20) (nq_ret_le hR), List.forall_mem_cons.mpr ⟨np_s_iconst hX dL_print_21 (by decide), List.forall_mem_cons.mpr ⟨np_S.mono (op := np_ret X.2.2.1) (np_s_ret hX dL_print_22) (nq_ret_le hR), fun _ h => nomatch h⟩⟩⟩⟩⟩⟩⟩⟩⟩⟩⟩⟩⟩⟩⟩⟩⟩
abbrev sp_L_print : np_Sp := nq_in is_L_print (some .int) 1 6 400
theorem C_L_print : np_CW yL_print cL_print 5 (some .int) hhL_print 7 126 1 6 sp_L_print := nq_inCW 400 (by decide) (fun X Rt hX htb hR => so_L_print hX htb hR)
theorem dL_close_0 : decode cL_close 0 = .ok (.aload_n 2, 1) := by decide +kernel
theorem dL_close_1 : decode cL_close 1 = .ok (.iconst 0, 1) := by decide +kernel
theorem dL_close_2 : decode cL_close 2 = .ok (.aload_n 0, 1) := by decide +kernel
theorem dL_close_3 : decode cL_close 3 = .ok (.iload_n 1, 1) := by decide +kernel
theorem dL_close_4 : decode cL_close 4 = .ok (.invokevirtual 52, 3) := by decide +kernel
theorem dL_close_7 : decode cL_close 7 = .ok (.ifCond .eq 7, 3) := by decide +kernel
theorem dL_close_10 : decode cL_close 10 = .ok (.lconst 1, 1) := by decide +kernel
theorem dL_close_11 : decode cL_close 11 = .ok (.goto 4, 3) := by decide +kernel
theorem dL_close_14 : decode cL_close 14 = .ok (.lconst 0, 1) := by decide +kernel
theorem dL_close_15 : decode cL_close 15 = .ok (.lastore, 1) := by decide +kernel
theorem dL_close_16 : decode cL_close 16 = .ok (.goto 6, 3) := by decide +kernel
theorem dL_close_19 : decode cL_close 19 = .ok (.astore_n 3, 1) := by decide +kernel
theorem dL_close_20 : decode cL_close 20 = .ok (.iconst 1, 1) := by decide +kernel
theorem dL_close_21 : decode cL_close 21 = .ok (.ireturn, 1) := by decide +kernel
theorem dL_close_22 : decode cL_close 22 = .ok (.iconst 0, 1) := by decide +kernel
theorem dL_close_23 : decode cL_close 23 = .ok (.ireturn, 1) := by decide +kernel
def hhL_close : List (Nat × Nat × Nat × Nat) := [((0 : Nat), (16 : Nat), (19 : Nat), (13 : Nat))]
theorem hdL_close_4_0 : np_hd RL (tableOf hhL_close) 4 0 19 := ⟨(tableOf hhL_close).take 0, _, (tableOf hhL_close).drop 1, rfl, (fun _ h => nomatch h), rfl, by decide, gw560, gw575, rfl⟩
theorem hdL_close_4 : ∀ z ∈ ([(0, 19)] : List (Nat × Nat)), np_hd RL (tableOf hhL_close) 4 z.1 z.2 := List.forall_mem_cons.mpr ⟨hdL_close_4_0, fun _ h => nomatch h⟩
def is_L_close (Rt : np_Rt) : List (Nat × np_Op) := [(0, np_ald 1 2), (1, np_push 1 (.int 0)), (2, np_ald 1 0), (3, np_ild 1 1), (4, nq_callVX 11 2 sp_X11_close 4 1 6 1 6 [(0, 19)]), (7, nq_if (fun x => x = 0) 14), (10, np_push 1 (.long 1)), (11, np_goto 15), (14, np_push 1 (.long 0)), (15, nq_last), (16, np_goto 22), (19, np_ast 1 3), (20, np_push 1 (.int 1)), (21, np_ret Rt), (22, np_push 1 (.int 0)), (23, np_ret Rt)]
set_option maxRecDepth 20000 in
theorem so_L_close {X : np_Ctx} {Rt : np_Rt} (hX : np_ok RL cL_close 4 7 123 1 6 .ireturn X) (htb : np_tab X = tableOf hhL_close) (hR : ∀ st w ce sl, Rt st w ce sl → X.2.2.1 st w ce sl) : ∀ q ∈ is_L_close Rt, np_S X q.1 q.2 :=
  List.forall_mem_cons.mpr ⟨np_s_aload_n hX dL_close_0 rfl, List.forall_mem_cons.mpr ⟨np_s_iconst hX dL_close_1 (by decide), List.forall_mem_cons.mpr ⟨np_s_aload_n hX dL_close_2 rfl, List.forall_mem_cons.mpr ⟨np_s_iload_n hX dL_close_3 rfl, List.forall_mem_cons.mpr ⟨np_S.mono (op := np_callVX 11 2 sp_X11_close 4 1 6 1 6 [(0, 19)]) (np_s_callVX hX C_X11_close dL_close_4 (q := (RX11, TX11, 14)) rfl rfl gw1073 gw130 gw1070 gw1071 gw1072 ⟨by decide, by decide, by decide⟩ (by decide) (by decide) (htb.symm ▸ hdL_close_4)) nq_callVX_le, List.forall_mem_cons.mpr ⟨np_S.mono (op := np_if (fun x => x = 0) 14) (np_s_if_eq hX dL_close_7 (by decide)) nq_if_le, List.forall_mem_cons.mpr ⟨np_s_lconst hX dL_close_10 (by decide), List.forall_mem_cons.mpr ⟨np_s_goto hX dL_close_11 (by decide), List.forall_mem_cons.mpr ⟨np_s_lconst hX dL_close_14 (by decide), List.forall_mem_cons.mpr ⟨np_S.mono (op := np_last) (np_s_last hX dL_close_15) nq_last_le, List.forall_mem_cons.mpr ⟨np_s_goto hX dL_close_16 (by decide), List.forall_mem_cons.mpr ⟨np_s_astore_n hX dL_close_19 rfl (by decide), List.forall_mem_cons.mpr ⟨np_s_iconst hX dL_close_20 (by decide), List.forall_mem_cons.mpr ⟨np_S.mono (op := np_ret X.2.2.1) (np_s_ret hX dL_close_21) (nq_ret_le hR), List.forall_mem_cons.mpr ⟨np_s_iconst hX dL_close_22 (by decide), List.forall_mem_cons.mpr ⟨np_S.mono (op := np_ret X.2.2.1) (np_s_ret hX dL_close_23) (nq_ret_le hR), fun _ h => nomatch h⟩⟩⟩⟩⟩⟩⟩⟩⟩⟩⟩⟩⟩⟩⟩⟩
abbrev sp_L_close : np_Sp := nq_in is_L_close (some .int) 1 6 400
theorem C_L_close : np_CW yL_close cL_close 4 (some .int) hhL_close 7 123 1 6 sp_L_close := nq_inCW 400 (by decide) (fun X Rt hX htb hR => so_L_close hX htb hR)
theorem dL_unit_0 : decode cL_unit 0 = .ok (.aload_n 3, 1) := by decide +kernel
theorem dL_unit_1 : decode cL_unit 1 = .ok (.iconst 0, 1) := by decide +kernel
theorem dL_unit_2 : decode cL_unit 2 = .ok (.aload_n 0, 1) := by decide +kernel
theorem dL_unit_3 : decode cL_unit 3 = .ok (.iload_n 1, 1) := by decide +kernel
theorem dL_unit_4 : decode cL_unit 4 = .ok (.iload_n 2, 1) := by decide +kernel
theorem dL_unit_5 : decode cL_unit 5 = .ok (.invokevirtual 56, 3) := by decide +kernel
theorem dL_unit_8 : decode cL_unit 8 = .ok (.i2l, 1) := by decide +kernel
theorem dL_unit_9 : decode cL_unit 9 = .ok (.lastore, 1) := by decide +kernel
theorem dL_unit_10 : decode cL_unit 10 = .ok (.goto 7, 3) := by decide +kernel
theorem dL_unit_13 : decode cL_unit 13 = .ok (.astore 4, 2) := by decide +kernel
theorem dL_unit_15 : decode cL_unit 15 = .ok (.iconst 1, 1) := by decide +kernel
theorem dL_unit_16 : decode cL_unit 16 = .ok (.ireturn, 1) := by decide +kernel
theorem dL_unit_17 : decode cL_unit 17 = .ok (.iconst 0, 1) := by decide +kernel
theorem dL_unit_18 : decode cL_unit 18 = .ok (.ireturn, 1) := by decide +kernel
def hhL_unit : List (Nat × Nat × Nat × Nat) := [((0 : Nat), (10 : Nat), (13 : Nat), (13 : Nat))]
theorem hdL_unit_5_0 : np_hd RL (tableOf hhL_unit) 5 0 13 := ⟨(tableOf hhL_unit).take 0, _, (tableOf hhL_unit).drop 1, rfl, (fun _ h => nomatch h), rfl, by decide, gw560, gw575, rfl⟩
theorem hdL_unit_5 : ∀ z ∈ ([(0, 13)] : List (Nat × Nat)), np_hd RL (tableOf hhL_unit) 5 z.1 z.2 := List.forall_mem_cons.mpr ⟨hdL_unit_5_0, fun _ h => nomatch h⟩
def is_L_unit (Rt : np_Rt) : List (Nat × np_Op) := [(0, np_ald 1 3), (1, np_push 1 (.int 0)), (2, np_ald 1 0), (3, np_ild 1 1), (4, np_ild 1 2), (5, nq_callVX 11 3 sp_X11_unit 5 1 6 1 6 [(0, 13)]), (8, np_i2l), (9, nq_last), (10, np_goto 17), (13, np_ast 2 4), (15, np_push 1 (.int 1)), (16, np_ret Rt), (17, np_push 1 (.int 0)), (18, np_ret Rt)]
set_option maxRecDepth 20000 in
theorem so_L_unit {X : np_Ctx} {Rt : np_Rt} (hX : np_ok RL cL_unit 5 7 124 1 6 .ireturn X) (htb : np_tab X = tableOf hhL_unit) (hR : ∀ st w ce sl, Rt st w ce sl → X.2.2.1 st w ce sl) : ∀ q ∈ is_L_unit Rt, np_S X q.1 q.2 :=
  List.forall_mem_cons.mpr ⟨np_s_aload_n hX dL_unit_0 rfl, List.forall_mem_cons.mpr ⟨np_s_iconst hX dL_unit_1 (by decide), List.forall_mem_cons.mpr ⟨np_s_aload_n hX dL_unit_2 rfl, List.forall_mem_cons.mpr ⟨np_s_iload_n hX dL_unit_3 rfl, List.forall_mem_cons.mpr ⟨np_s_iload_n hX dL_unit_4 rfl, List.forall_mem_cons.mpr ⟨np_S.mono (op := np_callVX 11 3 sp_X11_unit 5 1 6 1 6 [(0, 13)]) (np_s_callVX hX C_X11_unit dL_unit_5 (q := (RX11, TX11, 14)) rfl rfl gw1080 gw130 gw1077 gw1078 gw1079 ⟨by decide, by decide, by decide⟩ (by decide) (by decide) (htb.symm ▸ hdL_unit_5)) nq_callVX_le, List.forall_mem_cons.mpr ⟨np_s_i2l hX dL_unit_8, List.forall_mem_cons.mpr ⟨np_S.mono (op := np_last) (np_s_last hX dL_unit_9) nq_last_le, List.forall_mem_cons.mpr ⟨np_s_goto hX dL_unit_10 (by decide), List.forall_mem_cons.mpr ⟨np_s_astore hX dL_unit_13 (by decide), List.forall_mem_cons.mpr ⟨np_s_iconst hX dL_unit_15 (by decide), List.forall_mem_cons.mpr ⟨np_S.mono (op := np_ret X.2.2.1) (np_s_ret hX dL_unit_16) (nq_ret_le hR), List.forall_mem_cons.mpr ⟨np_s_iconst hX dL_unit_17 (by decide), List.forall_mem_cons.mpr ⟨np_S.mono (op := np_ret X.2.2.1) (np_s_ret hX dL_unit_18) (nq_ret_le hR), fun _ h => nomatch h⟩⟩⟩⟩⟩⟩⟩⟩⟩⟩⟩⟩⟩⟩
abbrev sp_L_unit : np_Sp := nq_in is_L_unit (some .int) 1 6 400
theorem C_L_unit : np_CW yL_unit cL_unit 5 (some .int) hhL_unit 7 124 1 6 sp_L_unit := nq_inCW 400 (by decide) (fun X Rt hX htb hR => so_L_unit hX htb hR)
theorem dL_readings_0 : decode cL_readings 0 = .ok (.aload 4, 2) := by decide +kernel
theorem dL_readings_2 : decode cL_readings 2 = .ok (.iconst 0, 1) := by decide +kernel
theorem dL_readings_3 : decode cL_readings 3 = .ok (.aload_n 0, 1) := by decide +kernel
theorem dL_readings_4 : decode cL_readings 4 = .ok (.iload_n 1, 1) := by decide +kernel
theorem dL_readings_5 : decode cL_readings 5 = .ok (.iload_n 2, 1) := by decide +kernel
theorem dL_readings_6 : decode cL_readings 6 = .ok (.iload_n 3, 1) := by decide +kernel
theorem dL_readings_7 : decode cL_readings 7 = .ok (.invokevirtual 60, 3) := by decide +kernel
theorem dL_readings_10 : decode cL_readings 10 = .ok (.i2l, 1) := by decide +kernel
theorem dL_readings_11 : decode cL_readings 11 = .ok (.lastore, 1) := by decide +kernel
theorem dL_readings_12 : decode cL_readings 12 = .ok (.goto 7, 3) := by decide +kernel
theorem dL_readings_15 : decode cL_readings 15 = .ok (.astore 5, 2) := by decide +kernel
theorem dL_readings_17 : decode cL_readings 17 = .ok (.iconst 1, 1) := by decide +kernel
theorem dL_readings_18 : decode cL_readings 18 = .ok (.ireturn, 1) := by decide +kernel
theorem dL_readings_19 : decode cL_readings 19 = .ok (.iconst 0, 1) := by decide +kernel
theorem dL_readings_20 : decode cL_readings 20 = .ok (.ireturn, 1) := by decide +kernel
def hhL_readings : List (Nat × Nat × Nat × Nat) := [((0 : Nat), (12 : Nat), (15 : Nat), (13 : Nat))]
theorem hdL_readings_7_0 : np_hd RL (tableOf hhL_readings) 7 0 15 := ⟨(tableOf hhL_readings).take 0, _, (tableOf hhL_readings).drop 1, rfl, (fun _ h => nomatch h), rfl, by decide, gw560, gw575, rfl⟩
theorem hdL_readings_7 : ∀ z ∈ ([(0, 15)] : List (Nat × Nat)), np_hd RL (tableOf hhL_readings) 7 z.1 z.2 := List.forall_mem_cons.mpr ⟨hdL_readings_7_0, fun _ h => nomatch h⟩
def is_L_readings (Rt : np_Rt) : List (Nat × np_Op) := [(0, np_ald 2 4), (2, np_push 1 (.int 0)), (3, np_ald 1 0), (4, np_ild 1 1), (5, np_ild 1 2), (6, np_ild 1 3), (7, nq_callVX 11 4 sp_X11_readings 8 1 6 1 6 [(0, 15)]), (10, np_i2l), (11, nq_last), (12, np_goto 19), (15, np_ast 2 5), (17, np_push 1 (.int 1)), (18, np_ret Rt), (19, np_push 1 (.int 0)), (20, np_ret Rt)]
set_option maxRecDepth 20000 in
theorem so_L_readings {X : np_Ctx} {Rt : np_Rt} (hX : np_ok RL cL_readings 6 7 127 1 6 .ireturn X) (htb : np_tab X = tableOf hhL_readings) (hR : ∀ st w ce sl, Rt st w ce sl → X.2.2.1 st w ce sl) : ∀ q ∈ is_L_readings Rt, np_S X q.1 q.2 :=
  List.forall_mem_cons.mpr ⟨np_s_aload hX dL_readings_0, List.forall_mem_cons.mpr ⟨np_s_iconst hX dL_readings_2 (by decide), List.forall_mem_cons.mpr ⟨np_s_aload_n hX dL_readings_3 rfl, List.forall_mem_cons.mpr ⟨np_s_iload_n hX dL_readings_4 rfl, List.forall_mem_cons.mpr ⟨np_s_iload_n hX dL_readings_5 rfl, List.forall_mem_cons.mpr ⟨np_s_iload_n hX dL_readings_6 rfl, List.forall_mem_cons.mpr ⟨np_S.mono (op := np_callVX 11 4 sp_X11_readings 8 1 6 1 6 [(0, 15)]) (np_s_callVX hX C_X11_readings dL_readings_7 (q := (RX11, TX11, 14)) rfl rfl gw1092 gw130 gw1089 gw1090 gw1091 ⟨by decide, by decide, by decide⟩ (by decide) (by decide) (htb.symm ▸ hdL_readings_7)) nq_callVX_le, List.forall_mem_cons.mpr ⟨np_s_i2l hX dL_readings_10, List.forall_mem_cons.mpr ⟨np_S.mono (op := np_last) (np_s_last hX dL_readings_11) nq_last_le, List.forall_mem_cons.mpr ⟨np_s_goto hX dL_readings_12 (by decide), List.forall_mem_cons.mpr ⟨np_s_astore hX dL_readings_15 (by decide), List.forall_mem_cons.mpr ⟨np_s_iconst hX dL_readings_17 (by decide), List.forall_mem_cons.mpr ⟨np_S.mono (op := np_ret X.2.2.1) (np_s_ret hX dL_readings_18) (nq_ret_le hR), List.forall_mem_cons.mpr ⟨np_s_iconst hX dL_readings_19 (by decide), List.forall_mem_cons.mpr ⟨np_S.mono (op := np_ret X.2.2.1) (np_s_ret hX dL_readings_20) (nq_ret_le hR), fun _ h => nomatch h⟩⟩⟩⟩⟩⟩⟩⟩⟩⟩⟩⟩⟩⟩⟩
abbrev sp_L_readings : np_Sp := nq_in is_L_readings (some .int) 1 6 400
theorem C_L_readings : np_CW yL_readings cL_readings 6 (some .int) hhL_readings 7 127 1 6 sp_L_readings := nq_inCW 400 (by decide) (fun X Rt hX htb hR => so_L_readings hX htb hR)
theorem dL_readingsAnew_0 : decode cL_readingsAnew 0 = .ok (.aload 4, 2) := by decide +kernel
theorem dL_readingsAnew_2 : decode cL_readingsAnew 2 = .ok (.iconst 0, 1) := by decide +kernel
theorem dL_readingsAnew_3 : decode cL_readingsAnew 3 = .ok (.aload_n 0, 1) := by decide +kernel
theorem dL_readingsAnew_4 : decode cL_readingsAnew 4 = .ok (.iload_n 1, 1) := by decide +kernel
theorem dL_readingsAnew_5 : decode cL_readingsAnew 5 = .ok (.iload_n 2, 1) := by decide +kernel
theorem dL_readingsAnew_6 : decode cL_readingsAnew 6 = .ok (.iload_n 3, 1) := by decide +kernel
theorem dL_readingsAnew_7 : decode cL_readingsAnew 7 = .ok (.invokevirtual 63, 3) := by decide +kernel
theorem dL_readingsAnew_10 : decode cL_readingsAnew 10 = .ok (.i2l, 1) := by decide +kernel
theorem dL_readingsAnew_11 : decode cL_readingsAnew 11 = .ok (.lastore, 1) := by decide +kernel
theorem dL_readingsAnew_12 : decode cL_readingsAnew 12 = .ok (.goto 7, 3) := by decide +kernel
theorem dL_readingsAnew_15 : decode cL_readingsAnew 15 = .ok (.astore 5, 2) := by decide +kernel
theorem dL_readingsAnew_17 : decode cL_readingsAnew 17 = .ok (.iconst 1, 1) := by decide +kernel
theorem dL_readingsAnew_18 : decode cL_readingsAnew 18 = .ok (.ireturn, 1) := by decide +kernel
theorem dL_readingsAnew_19 : decode cL_readingsAnew 19 = .ok (.iconst 0, 1) := by decide +kernel
theorem dL_readingsAnew_20 : decode cL_readingsAnew 20 = .ok (.ireturn, 1) := by decide +kernel
def hhL_readingsAnew : List (Nat × Nat × Nat × Nat) := [((0 : Nat), (12 : Nat), (15 : Nat), (13 : Nat))]
theorem hdL_readingsAnew_7_0 : np_hd RL (tableOf hhL_readingsAnew) 7 0 15 := ⟨(tableOf hhL_readingsAnew).take 0, _, (tableOf hhL_readingsAnew).drop 1, rfl, (fun _ h => nomatch h), rfl, by decide, gw560, gw575, rfl⟩
theorem hdL_readingsAnew_7 : ∀ z ∈ ([(0, 15)] : List (Nat × Nat)), np_hd RL (tableOf hhL_readingsAnew) 7 z.1 z.2 := List.forall_mem_cons.mpr ⟨hdL_readingsAnew_7_0, fun _ h => nomatch h⟩
def is_L_readingsAnew (Rt : np_Rt) : List (Nat × np_Op) := [(0, np_ald 2 4), (2, np_push 1 (.int 0)), (3, np_ald 1 0), (4, np_ild 1 1), (5, np_ild 1 2), (6, np_ild 1 3), (7, nq_callVX 11 4 sp_X11_readingsAnew 6 1 6 1 6 [(0, 15)]), (10, np_i2l), (11, nq_last), (12, np_goto 19), (15, np_ast 2 5), (17, np_push 1 (.int 1)), (18, np_ret Rt), (19, np_push 1 (.int 0)), (20, np_ret Rt)]
set_option maxRecDepth 20000 in
theorem so_L_readingsAnew {X : np_Ctx} {Rt : np_Rt} (hX : np_ok RL cL_readingsAnew 6 7 125 1 6 .ireturn X) (htb : np_tab X = tableOf hhL_readingsAnew) (hR : ∀ st w ce sl, Rt st w ce sl → X.2.2.1 st w ce sl) : ∀ q ∈ is_L_readingsAnew Rt, np_S X q.1 q.2 :=
  List.forall_mem_cons.mpr ⟨np_s_aload hX dL_readingsAnew_0, List.forall_mem_cons.mpr ⟨np_s_iconst hX dL_readingsAnew_2 (by decide), List.forall_mem_cons.mpr ⟨np_s_aload_n hX dL_readingsAnew_3 rfl, List.forall_mem_cons.mpr ⟨np_s_iload_n hX dL_readingsAnew_4 rfl, List.forall_mem_cons.mpr ⟨np_s_iload_n hX dL_readingsAnew_5 rfl, List.forall_mem_cons.mpr ⟨np_s_iload_n hX dL_readingsAnew_6 rfl, List.forall_mem_cons.mpr ⟨np_S.mono (op := np_callVX 11 4 sp_X11_readingsAnew 6 1 6 1 6 [(0, 15)]) (np_s_callVX hX C_X11_readingsAnew dL_readingsAnew_7 (q := (RX11, TX11, 14)) rfl rfl gw1199 gw130 gw1196 gw1197 gw1198 ⟨by decide, by decide, by decide⟩ (by decide) (by decide) (htb.symm ▸ hdL_readingsAnew_7)) nq_callVX_le, List.forall_mem_cons.mpr ⟨np_s_i2l hX dL_readingsAnew_10, List.forall_mem_cons.mpr ⟨np_S.mono (op := np_last) (np_s_last hX dL_readingsAnew_11) nq_last_le, List.forall_mem_cons.mpr ⟨np_s_goto hX dL_readingsAnew_12 (by decide), List.forall_mem_cons.mpr ⟨np_s_astore hX dL_readingsAnew_15 (by decide), List.forall_mem_cons.mpr ⟨np_s_iconst hX dL_readingsAnew_17 (by decide), List.forall_mem_cons.mpr ⟨np_S.mono (op := np_ret X.2.2.1) (np_s_ret hX dL_readingsAnew_18) (nq_ret_le hR), List.forall_mem_cons.mpr ⟨np_s_iconst hX dL_readingsAnew_19 (by decide), List.forall_mem_cons.mpr ⟨np_S.mono (op := np_ret X.2.2.1) (np_s_ret hX dL_readingsAnew_20) (nq_ret_le hR), fun _ h => nomatch h⟩⟩⟩⟩⟩⟩⟩⟩⟩⟩⟩⟩⟩⟩⟩
abbrev sp_L_readingsAnew : np_Sp := nq_in is_L_readingsAnew (some .int) 1 6 400
theorem C_L_readingsAnew : np_CW yL_readingsAnew cL_readingsAnew 6 (some .int) hhL_readingsAnew 7 125 1 6 sp_L_readingsAnew := nq_inCW 400 (by decide) (fun X Rt hX htb hR => so_L_readingsAnew hX htb hR)
theorem dL_read_0 : decode cL_read 0 = .ok (.aload 5, 2) := by decide +kernel
theorem dL_read_2 : decode cL_read 2 = .ok (.iconst 0, 1) := by decide +kernel
theorem dL_read_3 : decode cL_read 3 = .ok (.aload_n 0, 1) := by decide +kernel
theorem dL_read_4 : decode cL_read 4 = .ok (.iload_n 1, 1) := by decide +kernel
theorem dL_read_5 : decode cL_read 5 = .ok (.iload_n 2, 1) := by decide +kernel
theorem dL_read_6 : decode cL_read 6 = .ok (.iload_n 3, 1) := by decide +kernel
theorem dL_read_7 : decode cL_read 7 = .ok (.iload 4, 2) := by decide +kernel
theorem dL_read_9 : decode cL_read 9 = .ok (.invokevirtual 66, 3) := by decide +kernel
theorem dL_read_12 : decode cL_read 12 = .ok (.i2l, 1) := by decide +kernel
theorem dL_read_13 : decode cL_read 13 = .ok (.lastore, 1) := by decide +kernel
theorem dL_read_14 : decode cL_read 14 = .ok (.goto 7, 3) := by decide +kernel
theorem dL_read_17 : decode cL_read 17 = .ok (.astore 6, 2) := by decide +kernel
theorem dL_read_19 : decode cL_read 19 = .ok (.iconst 1, 1) := by decide +kernel
theorem dL_read_20 : decode cL_read 20 = .ok (.ireturn, 1) := by decide +kernel
theorem dL_read_21 : decode cL_read 21 = .ok (.iconst 0, 1) := by decide +kernel
theorem dL_read_22 : decode cL_read 22 = .ok (.ireturn, 1) := by decide +kernel
def hhL_read : List (Nat × Nat × Nat × Nat) := [((0 : Nat), (14 : Nat), (17 : Nat), (13 : Nat))]
theorem hdL_read_9_0 : np_hd RL (tableOf hhL_read) 9 0 17 := ⟨(tableOf hhL_read).take 0, _, (tableOf hhL_read).drop 1, rfl, (fun _ h => nomatch h), rfl, by decide, gw560, gw575, rfl⟩
theorem hdL_read_9 : ∀ z ∈ ([(0, 17)] : List (Nat × Nat)), np_hd RL (tableOf hhL_read) 9 z.1 z.2 := List.forall_mem_cons.mpr ⟨hdL_read_9_0, fun _ h => nomatch h⟩
def is_L_read (Rt : np_Rt) : List (Nat × np_Op) := [(0, np_ald 2 5), (2, np_push 1 (.int 0)), (3, np_ald 1 0), (4, np_ild 1 1), (5, np_ild 1 2), (6, np_ild 1 3), (7, np_ild 2 4), (9, nq_callVX 11 5 sp_X11_read 9 1 6 1 6 [(0, 17)]), (12, np_i2l), (13, nq_last), (14, np_goto 21), (17, np_ast 2 6), (19, np_push 1 (.int 1)), (20, np_ret Rt), (21, np_push 1 (.int 0)), (22, np_ret Rt)]
set_option maxRecDepth 20000 in
theorem so_L_read {X : np_Ctx} {Rt : np_Rt} (hX : np_ok RL cL_read 7 7 128 1 6 .ireturn X) (htb : np_tab X = tableOf hhL_read) (hR : ∀ st w ce sl, Rt st w ce sl → X.2.2.1 st w ce sl) : ∀ q ∈ is_L_read Rt, np_S X q.1 q.2 :=
  List.forall_mem_cons.mpr ⟨np_s_aload hX dL_read_0, List.forall_mem_cons.mpr ⟨np_s_iconst hX dL_read_2 (by decide), List.forall_mem_cons.mpr ⟨np_s_aload_n hX dL_read_3 rfl, List.forall_mem_cons.mpr ⟨np_s_iload_n hX dL_read_4 rfl, List.forall_mem_cons.mpr ⟨np_s_iload_n hX dL_read_5 rfl, List.forall_mem_cons.mpr ⟨np_s_iload_n hX dL_read_6 rfl, List.forall_mem_cons.mpr ⟨np_s_iload hX dL_read_7, List.forall_mem_cons.mpr ⟨np_S.mono (op := np_callVX 11 5 sp_X11_read 9 1 6 1 6 [(0, 17)]) (np_s_callVX hX C_X11_read dL_read_9 (q := (RX11, TX11, 14)) rfl rfl gw1210 gw130 gw1207 gw1208 gw1209 ⟨by decide, by decide, by decide⟩ (by decide) (by decide) (htb.symm ▸ hdL_read_9)) nq_callVX_le, List.forall_mem_cons.mpr ⟨np_s_i2l hX dL_read_12, List.forall_mem_cons.mpr ⟨np_S.mono (op := np_last) (np_s_last hX dL_read_13) nq_last_le, List.forall_mem_cons.mpr ⟨np_s_goto hX dL_read_14 (by decide), List.forall_mem_cons.mpr ⟨np_s_astore hX dL_read_17 (by decide), List.forall_mem_cons.mpr ⟨np_s_iconst hX dL_read_19 (by decide), List.forall_mem_cons.mpr ⟨np_S.mono (op := np_ret X.2.2.1) (np_s_ret hX dL_read_20) (nq_ret_le hR), List.forall_mem_cons.mpr ⟨np_s_iconst hX dL_read_21 (by decide), List.forall_mem_cons.mpr ⟨np_S.mono (op := np_ret X.2.2.1) (np_s_ret hX dL_read_22) (nq_ret_le hR), fun _ h => nomatch h⟩⟩⟩⟩⟩⟩⟩⟩⟩⟩⟩⟩⟩⟩⟩⟩
abbrev sp_L_read : np_Sp := nq_in is_L_read (some .int) 1 6 400
theorem C_L_read : np_CW yL_read cL_read 7 (some .int) hhL_read 7 128 1 6 sp_L_read := nq_inCW 400 (by decide) (fun X Rt hX htb hR => so_L_read hX htb hR)
theorem dL_stream_0 : decode cL_stream 0 = .ok (.aload_n 3, 1) := by decide +kernel
theorem dL_stream_1 : decode cL_stream 1 = .ok (.iconst 0, 1) := by decide +kernel
theorem dL_stream_2 : decode cL_stream 2 = .ok (.aload_n 0, 1) := by decide +kernel
theorem dL_stream_3 : decode cL_stream 3 = .ok (.iload_n 1, 1) := by decide +kernel
theorem dL_stream_4 : decode cL_stream 4 = .ok (.iload_n 2, 1) := by decide +kernel
theorem dL_stream_5 : decode cL_stream 5 = .ok (.invokevirtual 69, 3) := by decide +kernel
theorem dL_stream_8 : decode cL_stream 8 = .ok (.i2l, 1) := by decide +kernel
theorem dL_stream_9 : decode cL_stream 9 = .ok (.lastore, 1) := by decide +kernel
theorem dL_stream_10 : decode cL_stream 10 = .ok (.goto 7, 3) := by decide +kernel
theorem dL_stream_13 : decode cL_stream 13 = .ok (.astore 4, 2) := by decide +kernel
theorem dL_stream_15 : decode cL_stream 15 = .ok (.iconst 1, 1) := by decide +kernel
theorem dL_stream_16 : decode cL_stream 16 = .ok (.ireturn, 1) := by decide +kernel
theorem dL_stream_17 : decode cL_stream 17 = .ok (.iconst 0, 1) := by decide +kernel
theorem dL_stream_18 : decode cL_stream 18 = .ok (.ireturn, 1) := by decide +kernel
def hhL_stream : List (Nat × Nat × Nat × Nat) := [((0 : Nat), (10 : Nat), (13 : Nat), (13 : Nat))]
theorem hdL_stream_5_0 : np_hd RL (tableOf hhL_stream) 5 0 13 := ⟨(tableOf hhL_stream).take 0, _, (tableOf hhL_stream).drop 1, rfl, (fun _ h => nomatch h), rfl, by decide, gw560, gw575, rfl⟩
theorem hdL_stream_5 : ∀ z ∈ ([(0, 13)] : List (Nat × Nat)), np_hd RL (tableOf hhL_stream) 5 z.1 z.2 := List.forall_mem_cons.mpr ⟨hdL_stream_5_0, fun _ h => nomatch h⟩
def is_L_stream (Rt : np_Rt) : List (Nat × np_Op) := [(0, np_ald 1 3), (1, np_push 1 (.int 0)), (2, np_ald 1 0), (3, np_ild 1 1), (4, np_ild 1 2), (5, nq_callVX 11 3 sp_X11_stream 6 1 6 1 6 [(0, 13)]), (8, np_i2l), (9, nq_last), (10, np_goto 17), (13, np_ast 2 4), (15, np_push 1 (.int 1)), (16, np_ret Rt), (17, np_push 1 (.int 0)), (18, np_ret Rt)]
set_option maxRecDepth 20000 in
theorem so_L_stream {X : np_Ctx} {Rt : np_Rt} (hX : np_ok RL cL_stream 5 7 125 1 6 .ireturn X) (htb : np_tab X = tableOf hhL_stream) (hR : ∀ st w ce sl, Rt st w ce sl → X.2.2.1 st w ce sl) : ∀ q ∈ is_L_stream Rt, np_S X q.1 q.2 :=
  List.forall_mem_cons.mpr ⟨np_s_aload_n hX dL_stream_0 rfl, List.forall_mem_cons.mpr ⟨np_s_iconst hX dL_stream_1 (by decide), List.forall_mem_cons.mpr ⟨np_s_aload_n hX dL_stream_2 rfl, List.forall_mem_cons.mpr ⟨np_s_iload_n hX dL_stream_3 rfl, List.forall_mem_cons.mpr ⟨np_s_iload_n hX dL_stream_4 rfl, List.forall_mem_cons.mpr ⟨np_S.mono (op := np_callVX 11 3 sp_X11_stream 6 1 6 1 6 [(0, 13)]) (np_s_callVX hX C_X11_stream dL_stream_5 (q := (RX11, TX11, 14)) rfl rfl gw1218 gw130 gw1215 gw1216 gw1217 ⟨by decide, by decide, by decide⟩ (by decide) (by decide) (htb.symm ▸ hdL_stream_5)) nq_callVX_le, List.forall_mem_cons.mpr ⟨np_s_i2l hX dL_stream_8, List.forall_mem_cons.mpr ⟨np_S.mono (op := np_last) (np_s_last hX dL_stream_9) nq_last_le, List.forall_mem_cons.mpr ⟨np_s_goto hX dL_stream_10 (by decide), List.forall_mem_cons.mpr ⟨np_s_astore hX dL_stream_13 (by decide), List.forall_mem_cons.mpr ⟨np_s_iconst hX dL_stream_15 (by decide), List.forall_mem_cons.mpr ⟨np_S.mono (op := np_ret X.2.2.1) (np_s_ret hX dL_stream_16) (nq_ret_le hR), List.forall_mem_cons.mpr ⟨np_s_iconst hX dL_stream_17 (by decide), List.forall_mem_cons.mpr ⟨np_S.mono (op := np_ret X.2.2.1) (np_s_ret hX dL_stream_18) (nq_ret_le hR), fun _ h => nomatch h⟩⟩⟩⟩⟩⟩⟩⟩⟩⟩⟩⟩⟩⟩
abbrev sp_L_stream : np_Sp := nq_in is_L_stream (some .int) 1 6 400
theorem C_L_stream : np_CW yL_stream cL_stream 5 (some .int) hhL_stream 7 125 1 6 sp_L_stream := nq_inCW 400 (by decide) (fun X Rt hX htb hR => so_L_stream hX htb hR)
theorem dL_step_0 : decode cL_step 0 = .ok (.aload_n 2, 1) := by decide +kernel
theorem dL_step_1 : decode cL_step 1 = .ok (.iconst 0, 1) := by decide +kernel
theorem dL_step_2 : decode cL_step 2 = .ok (.aload_n 0, 1) := by decide +kernel
theorem dL_step_3 : decode cL_step 3 = .ok (.iload_n 1, 1) := by decide +kernel
theorem dL_step_4 : decode cL_step 4 = .ok (.invokevirtual 72, 3) := by decide +kernel
theorem dL_step_7 : decode cL_step 7 = .ok (.i2l, 1) := by decide +kernel
theorem dL_step_8 : decode cL_step 8 = .ok (.lastore, 1) := by decide +kernel
theorem dL_step_9 : decode cL_step 9 = .ok (.goto 9, 3) := by decide +kernel
theorem dL_step_12 : decode cL_step 12 = .ok (.astore_n 3, 1) := by decide +kernel
theorem dL_step_13 : decode cL_step 13 = .ok (.iconst 1, 1) := by decide +kernel
theorem dL_step_14 : decode cL_step 14 = .ok (.ireturn, 1) := by decide +kernel
theorem dL_step_15 : decode cL_step 15 = .ok (.astore_n 3, 1) := by decide +kernel
theorem dL_step_16 : decode cL_step 16 = .ok (.iconst 2, 1) := by decide +kernel
theorem dL_step_17 : decode cL_step 17 = .ok (.ireturn, 1) := by decide +kernel
theorem dL_step_18 : decode cL_step 18 = .ok (.iconst 0, 1) := by decide +kernel
theorem dL_step_19 : decode cL_step 19 = .ok (.ireturn, 1) := by decide +kernel
def hhL_step : List (Nat × Nat × Nat × Nat) := [((0 : Nat), (9 : Nat), (12 : Nat), (13 : Nat)), ((0 : Nat), (9 : Nat), (15 : Nat), (17 : Nat))]
theorem hdL_step_4_0 : np_hd RL (tableOf hhL_step) 4 0 12 := ⟨(tableOf hhL_step).take 0, _, (tableOf hhL_step).drop 1, rfl, (fun _ h => nomatch h), rfl, by decide, gw560, gw575, rfl⟩
theorem hdL_step_4_1 : np_hd RL (tableOf hhL_step) 4 2 15 := ⟨(tableOf hhL_step).take 1, _, (tableOf hhL_step).drop 2, rfl, List.forall_mem_cons.mpr ⟨Or.inr ⟨by decide, _, gw560, by decide⟩, (fun _ h => nomatch h)⟩, rfl, by decide, gw562, gw669, rfl⟩
theorem hdL_step_4 : ∀ z ∈ ([(0, 12), (2, 15)] : List (Nat × Nat)), np_hd RL (tableOf hhL_step) 4 z.1 z.2 := List.forall_mem_cons.mpr ⟨hdL_step_4_0, List.forall_mem_cons.mpr ⟨hdL_step_4_1, fun _ h => nomatch h⟩⟩
def is_L_step (Rt : np_Rt) : List (Nat × np_Op) := [(0, np_ald 1 2), (1, np_push 1 (.int 0)), (2, np_ald 1 0), (3, np_ild 1 1), (4, nq_callVX 11 2 sp_X11_step 7 1 6 1 6 [(0, 12), (2, 15)]), (7, np_i2l), (8, nq_last), (9, np_goto 18), (12, np_ast 1 3), (13, np_push 1 (.int 1)), (14, np_ret Rt), (15, np_ast 1 3), (16, np_push 1 (.int 2)), (17, np_ret Rt), (18, np_push 1 (.int 0)), (19, np_ret Rt)]
set_option maxRecDepth 20000 in
theorem so_L_step {X : np_Ctx} {Rt : np_Rt} (hX : np_ok RL cL_step 4 7 126 1 6 .ireturn X) (htb : np_tab X = tableOf hhL_step) (hR : ∀ st w ce sl, Rt st w ce sl → X.2.2.1 st w ce sl) : ∀ q ∈ is_L_step Rt, np_S X q.1 q.2 :=
  List.forall_mem_cons.mpr ⟨np_s_aload_n hX dL_step_0 rfl, List.forall_mem_cons.mpr ⟨np_s_iconst hX dL_step_1 (by decide), List.forall_mem_cons.mpr ⟨np_s_aload_n hX dL_step_2 rfl, List.forall_mem_cons.mpr ⟨np_s_iload_n hX dL_step_3 rfl, List.forall_mem_cons.mpr ⟨np_S.mono (op := np_callVX 11 2 sp_X11_step 7 1 6 1 6 [(0, 12), (2, 15)]) (np_s_callVX hX C_X11_step dL_step_4 (q := (RX11, TX11, 14)) rfl rfl gw1233 gw130 gw1230 gw1231 gw1232 ⟨by decide, by decide, by decide⟩ (by decide) (by decide) (htb.symm ▸ hdL_step_4)) nq_callVX_le, List.forall_mem_cons.mpr ⟨np_s_i2l hX dL_step_7, List.forall_mem_cons.mpr ⟨np_S.mono (op := np_last) (np_s_last hX dL_step_8) nq_last_le, List.forall_mem_cons.mpr ⟨np_s_goto hX dL_step_9 (by decide), List.forall_mem_cons.mpr ⟨np_s_astore_n hX dL_step_12 rfl (by decide), List.forall_mem_cons.mpr ⟨np_s_iconst hX dL_step_13 (by decide), List.forall_mem_cons.mpr ⟨np_S.mono (op := np_ret X.2.2.1) (np_s_ret hX dL_step_14) (nq_ret_le hR), List.forall_mem_cons.mpr ⟨np_s_astore_n hX dL_step_15 rfl (by decide), List.forall_mem_cons.mpr ⟨np_s_iconst hX dL_step_16 (by decide), List.forall_mem_cons.mpr ⟨np_S.mono (op := np_ret X.2.2.1) (np_s_ret hX dL_step_17) (nq_ret_le hR), List.forall_mem_cons.mpr ⟨np_s_iconst hX dL_step_18 (by decide), List.forall_mem_cons.mpr ⟨np_S.mono (op := np_ret X.2.2.1) (np_s_ret hX dL_step_19) (nq_ret_le hR), fun _ h => nomatch h⟩⟩⟩⟩⟩⟩⟩⟩⟩⟩⟩⟩⟩⟩⟩⟩
abbrev sp_L_step : np_Sp := nq_in is_L_step (some .int) 1 6 400
theorem C_L_step : np_CW yL_step cL_step 4 (some .int) hhL_step 7 126 1 6 sp_L_step := nq_inCW 400 (by decide) (fun X Rt hX htb hR => so_L_step hX htb hR)
theorem dL_progress_0 : decode cL_progress 0 = .ok (.aload_n 2, 1) := by decide +kernel
theorem dL_progress_1 : decode cL_progress 1 = .ok (.iconst 0, 1) := by decide +kernel
theorem dL_progress_2 : decode cL_progress 2 = .ok (.aload_n 0, 1) := by decide +kernel
theorem dL_progress_3 : decode cL_progress 3 = .ok (.iload_n 1, 1) := by decide +kernel
theorem dL_progress_4 : decode cL_progress 4 = .ok (.invokevirtual 75, 3) := by decide +kernel
theorem dL_progress_7 : decode cL_progress 7 = .ok (.i2l, 1) := by decide +kernel
theorem dL_progress_8 : decode cL_progress 8 = .ok (.lastore, 1) := by decide +kernel
theorem dL_progress_9 : decode cL_progress 9 = .ok (.goto 6, 3) := by decide +kernel
theorem dL_progress_12 : decode cL_progress 12 = .ok (.astore_n 3, 1) := by decide +kernel
theorem dL_progress_13 : decode cL_progress 13 = .ok (.iconst 1, 1) := by decide +kernel
theorem dL_progress_14 : decode cL_progress 14 = .ok (.ireturn, 1) := by decide +kernel
theorem dL_progress_15 : decode cL_progress 15 = .ok (.iconst 0, 1) := by decide +kernel
theorem dL_progress_16 : decode cL_progress 16 = .ok (.ireturn, 1) := by decide +kernel
def hhL_progress : List (Nat × Nat × Nat × Nat) := [((0 : Nat), (9 : Nat), (12 : Nat), (13 : Nat))]
theorem hdL_progress_4_0 : np_hd RL (tableOf hhL_progress) 4 0 12 := ⟨(tableOf hhL_progress).take 0, _, (tableOf hhL_progress).drop 1, rfl, (fun _ h => nomatch h), rfl, by decide, gw560, gw575, rfl⟩
theorem hdL_progress_4 : ∀ z ∈ ([(0, 12)] : List (Nat × Nat)), np_hd RL (tableOf hhL_progress) 4 z.1 z.2 := List.forall_mem_cons.mpr ⟨hdL_progress_4_0, fun _ h => nomatch h⟩
def is_L_progress (Rt : np_Rt) : List (Nat × np_Op) := [(0, np_ald 1 2), (1, np_push 1 (.int 0)), (2, np_ald 1 0), (3, np_ild 1 1), (4, nq_callVX 11 2 sp_X11_progress 3 1 6 1 6 [(0, 12)]), (7, np_i2l), (8, nq_last), (9, np_goto 15), (12, np_ast 1 3), (13, np_push 1 (.int 1)), (14, np_ret Rt), (15, np_push 1 (.int 0)), (16, np_ret Rt)]
set_option maxRecDepth 20000 in
theorem so_L_progress {X : np_Ctx} {Rt : np_Rt} (hX : np_ok RL cL_progress 4 7 122 1 6 .ireturn X) (htb : np_tab X = tableOf hhL_progress) (hR : ∀ st w ce sl, Rt st w ce sl → X.2.2.1 st w ce sl) : ∀ q ∈ is_L_progress Rt, np_S X q.1 q.2 :=
  List.forall_mem_cons.mpr ⟨np_s_aload_n hX dL_progress_0 rfl, List.forall_mem_cons.mpr ⟨np_s_iconst hX dL_progress_1 (by decide), List.forall_mem_cons.mpr ⟨np_s_aload_n hX dL_progress_2 rfl, List.forall_mem_cons.mpr ⟨np_s_iload_n hX dL_progress_3 rfl, List.forall_mem_cons.mpr ⟨np_S.mono (op := np_callVX 11 2 sp_X11_progress 3 1 6 1 6 [(0, 12)]) (np_s_callVX hX C_X11_progress dL_progress_4 (q := (RX11, TX11, 14)) rfl rfl gw1295 gw130 gw1292 gw1293 gw1294 ⟨by decide, by decide, by decide⟩ (by decide) (by decide) (htb.symm ▸ hdL_progress_4)) nq_callVX_le, List.forall_mem_cons.mpr ⟨np_s_i2l hX dL_progress_7, List.forall_mem_cons.mpr ⟨np_S.mono (op := np_last) (np_s_last hX dL_progress_8) nq_last_le, List.forall_mem_cons.mpr ⟨np_s_goto hX dL_progress_9 (by decide), List.forall_mem_cons.mpr ⟨np_s_astore_n hX dL_progress_12 rfl (by decide), List.forall_mem_cons.mpr ⟨np_s_iconst hX dL_progress_13 (by decide), List.forall_mem_cons.mpr ⟨np_S.mono (op := np_ret X.2.2.1) (np_s_ret hX dL_progress_14) (nq_ret_le hR), List.forall_mem_cons.mpr ⟨np_s_iconst hX dL_progress_15 (by decide), List.forall_mem_cons.mpr ⟨np_S.mono (op := np_ret X.2.2.1) (np_s_ret hX dL_progress_16) (nq_ret_le hR), fun _ h => nomatch h⟩⟩⟩⟩⟩⟩⟩⟩⟩⟩⟩⟩⟩
abbrev sp_L_progress : np_Sp := nq_in is_L_progress (some .int) 1 6 400
theorem C_L_progress : np_CW yL_progress cL_progress 4 (some .int) hhL_progress 7 122 1 6 sp_L_progress := nq_inCW 400 (by decide) (fun X Rt hX htb hR => so_L_progress hX htb hR)
theorem dL_skipped_0 : decode cL_skipped 0 = .ok (.aload_n 3, 1) := by decide +kernel
theorem dL_skipped_1 : decode cL_skipped 1 = .ok (.iconst 0, 1) := by decide +kernel
theorem dL_skipped_2 : decode cL_skipped 2 = .ok (.aload_n 0, 1) := by decide +kernel
theorem dL_skipped_3 : decode cL_skipped 3 = .ok (.iload_n 1, 1) := by decide +kernel
theorem dL_skipped_4 : decode cL_skipped 4 = .ok (.iload_n 2, 1) := by decide +kernel
theorem dL_skipped_5 : decode cL_skipped 5 = .ok (.invokevirtual 78, 3) := by decide +kernel
theorem dL_skipped_8 : decode cL_skipped 8 = .ok (.i2l, 1) := by decide +kernel
theorem dL_skipped_9 : decode cL_skipped 9 = .ok (.lastore, 1) := by decide +kernel
theorem dL_skipped_10 : decode cL_skipped 10 = .ok (.goto 7, 3) := by decide +kernel
theorem dL_skipped_13 : decode cL_skipped 13 = .ok (.astore 4, 2) := by decide +kernel
theorem dL_skipped_15 : decode cL_skipped 15 = .ok (.iconst 1, 1) := by decide +kernel
theorem dL_skipped_16 : decode cL_skipped 16 = .ok (.ireturn, 1) := by decide +kernel
theorem dL_skipped_17 : decode cL_skipped 17 = .ok (.iconst 0, 1) := by decide +kernel
theorem dL_skipped_18 : decode cL_skipped 18 = .ok (.ireturn, 1) := by decide +kernel
def hhL_skipped : List (Nat × Nat × Nat × Nat) := [((0 : Nat), (10 : Nat), (13 : Nat), (13 : Nat))]
theorem hdL_skipped_5_0 : np_hd RL (tableOf hhL_skipped) 5 0 13 := ⟨(tableOf hhL_skipped).take 0, _, (tableOf hhL_skipped).drop 1, rfl, (fun _ h => nomatch h), rfl, by decide, gw560, gw575, rfl⟩
theorem hdL_skipped_5 : ∀ z ∈ ([(0, 13)] : List (Nat × Nat)), np_hd RL (tableOf hhL_skipped) 5 z.1 z.2 := List.forall_mem_cons.mpr ⟨hdL_skipped_5_0, fun _ h => nomatch h⟩
def is_L_skipped (Rt : np_Rt) : List (Nat × np_Op) := [(0, np_ald 1 3), (1, np_push 1 (.int 0)), (2, np_ald 1 0), (3, np_ild 1 1), (4, np_ild 1 2), (5, nq_callVX 11 3 sp_X11_skipped 4 1 6 1 6 [(0, 13)]), (8, np_i2l), (9, nq_last), (10, np_goto 17), (13, np_ast 2 4), (15, np_push 1 (.int 1)), (16, np_ret Rt), (17, np_push 1 (.int 0)), (18, np_ret Rt)]
set_option maxRecDepth 20000 in
theorem so_L_skipped {X : np_Ctx} {Rt : np_Rt} (hX : np_ok RL cL_skipped 5 7 123 1 6 .ireturn X) (htb : np_tab X = tableOf hhL_skipped) (hR : ∀ st w ce sl, Rt st w ce sl → X.2.2.1 st w ce sl) : ∀ q ∈ is_L_skipped Rt, np_S X q.1 q.2 :=
  List.forall_mem_cons.mpr ⟨np_s_aload_n hX dL_skipped_0 rfl, List.forall_mem_cons.mpr ⟨np_s_iconst hX dL_skipped_1 (by decide), List.forall_mem_cons.mpr ⟨np_s_aload_n hX dL_skipped_2 rfl, List.forall_mem_cons.mpr ⟨np_s_iload_n hX dL_skipped_3 rfl, List.forall_mem_cons.mpr ⟨np_s_iload_n hX dL_skipped_4 rfl, List.forall_mem_cons.mpr ⟨np_S.mono (op := np_callVX 11 3 sp_X11_skipped 4 1 6 1 6 [(0, 13)]) (np_s_callVX hX C_X11_skipped dL_skipped_5 (q := (RX11, TX11, 14)) rfl rfl gw1302 gw130 gw1299 gw1300 gw1301 ⟨by decide, by decide, by decide⟩ (by decide) (by decide) (htb.symm ▸ hdL_skipped_5)) nq_callVX_le, List.forall_mem_cons.mpr ⟨np_s_i2l hX dL_skipped_8, List.forall_mem_cons.mpr ⟨np_S.mono (op := np_last) (np_s_last hX dL_skipped_9) nq_last_le, List.forall_mem_cons.mpr ⟨np_s_goto hX dL_skipped_10 (by decide), List.forall_mem_cons.mpr ⟨np_s_astore hX dL_skipped_13 (by decide), List.forall_mem_cons.mpr ⟨np_s_iconst hX dL_skipped_15 (by decide), List.forall_mem_cons.mpr ⟨np_S.mono (op := np_ret X.2.2.1) (np_s_ret hX dL_skipped_16) (nq_ret_le hR), List.forall_mem_cons.mpr ⟨np_s_iconst hX dL_skipped_17 (by decide), List.forall_mem_cons.mpr ⟨np_S.mono (op := np_ret X.2.2.1) (np_s_ret hX dL_skipped_18) (nq_ret_le hR), fun _ h => nomatch h⟩⟩⟩⟩⟩⟩⟩⟩⟩⟩⟩⟩⟩⟩
abbrev sp_L_skipped : np_Sp := nq_in is_L_skipped (some .int) 1 6 400
theorem C_L_skipped : np_CW yL_skipped cL_skipped 5 (some .int) hhL_skipped 7 123 1 6 sp_L_skipped := nq_inCW 400 (by decide) (fun X Rt hX htb hR => so_L_skipped hX htb hR)
theorem dL_cell_0 : decode cL_cell 0 = .ok (.aload 5, 2) := by decide +kernel
theorem dL_cell_2 : decode cL_cell 2 = .ok (.iconst 0, 1) := by decide +kernel
theorem dL_cell_3 : decode cL_cell 3 = .ok (.aload_n 0, 1) := by decide +kernel
theorem dL_cell_4 : decode cL_cell 4 = .ok (.iload_n 1, 1) := by decide +kernel
theorem dL_cell_5 : decode cL_cell 5 = .ok (.iload_n 2, 1) := by decide +kernel
theorem dL_cell_6 : decode cL_cell 6 = .ok (.iload_n 3, 1) := by decide +kernel
theorem dL_cell_7 : decode cL_cell 7 = .ok (.iload 4, 2) := by decide +kernel
theorem dL_cell_9 : decode cL_cell 9 = .ok (.invokevirtual 81, 3) := by decide +kernel
theorem dL_cell_12 : decode cL_cell 12 = .ok (.i2l, 1) := by decide +kernel
theorem dL_cell_13 : decode cL_cell 13 = .ok (.lastore, 1) := by decide +kernel
theorem dL_cell_14 : decode cL_cell 14 = .ok (.goto 7, 3) := by decide +kernel
theorem dL_cell_17 : decode cL_cell 17 = .ok (.astore 6, 2) := by decide +kernel
theorem dL_cell_19 : decode cL_cell 19 = .ok (.iconst 1, 1) := by decide +kernel
theorem dL_cell_20 : decode cL_cell 20 = .ok (.ireturn, 1) := by decide +kernel
theorem dL_cell_21 : decode cL_cell 21 = .ok (.iconst 0, 1) := by decide +kernel
theorem dL_cell_22 : decode cL_cell 22 = .ok (.ireturn, 1) := by decide +kernel
def hhL_cell : List (Nat × Nat × Nat × Nat) := [((0 : Nat), (14 : Nat), (17 : Nat), (13 : Nat))]
theorem hdL_cell_9_0 : np_hd RL (tableOf hhL_cell) 9 0 17 := ⟨(tableOf hhL_cell).take 0, _, (tableOf hhL_cell).drop 1, rfl, (fun _ h => nomatch h), rfl, by decide, gw560, gw575, rfl⟩
theorem hdL_cell_9 : ∀ z ∈ ([(0, 17)] : List (Nat × Nat)), np_hd RL (tableOf hhL_cell) 9 z.1 z.2 := List.forall_mem_cons.mpr ⟨hdL_cell_9_0, fun _ h => nomatch h⟩
def is_L_cell (Rt : np_Rt) : List (Nat × np_Op) := [(0, np_ald 2 5), (2, np_push 1 (.int 0)), (3, np_ald 1 0), (4, np_ild 1 1), (5, np_ild 1 2), (6, np_ild 1 3), (7, np_ild 2 4), (9, nq_callVX 11 5 sp_X11_cell 6 1 6 1 6 [(0, 17)]), (12, np_i2l), (13, nq_last), (14, np_goto 21), (17, np_ast 2 6), (19, np_push 1 (.int 1)), (20, np_ret Rt), (21, np_push 1 (.int 0)), (22, np_ret Rt)]
set_option maxRecDepth 20000 in
theorem so_L_cell {X : np_Ctx} {Rt : np_Rt} (hX : np_ok RL cL_cell 7 7 125 1 6 .ireturn X) (htb : np_tab X = tableOf hhL_cell) (hR : ∀ st w ce sl, Rt st w ce sl → X.2.2.1 st w ce sl) : ∀ q ∈ is_L_cell Rt, np_S X q.1 q.2 :=
  List.forall_mem_cons.mpr ⟨np_s_aload hX dL_cell_0, List.forall_mem_cons.mpr ⟨np_s_iconst hX dL_cell_2 (by decide), List.forall_mem_cons.mpr ⟨np_s_aload_n hX dL_cell_3 rfl, List.forall_mem_cons.mpr ⟨np_s_iload_n hX dL_cell_4 rfl, List.forall_mem_cons.mpr ⟨np_s_iload_n hX dL_cell_5 rfl, List.forall_mem_cons.mpr ⟨np_s_iload_n hX dL_cell_6 rfl, List.forall_mem_cons.mpr ⟨np_s_iload hX dL_cell_7, List.forall_mem_cons.mpr ⟨np_S.mono (op := np_callVX 11 5 sp_X11_cell 6 1 6 1 6 [(0, 17)]) (np_s_callVX hX C_X11_cell dL_cell_9 (q := (RX11, TX11, 14)) rfl rfl gw1310 gw130 gw1307 gw1308 gw1309 ⟨by decide, by decide, by decide⟩ (by decide) (by decide) (htb.symm ▸ hdL_cell_9)) nq_callVX_le, List.forall_mem_cons.mpr ⟨np_s_i2l hX dL_cell_12, List.forall_mem_cons.mpr ⟨np_S.mono (op := np_last) (np_s_last hX dL_cell_13) nq_last_le, List.forall_mem_cons.mpr ⟨np_s_goto hX dL_cell_14 (by decide), List.forall_mem_cons.mpr ⟨np_s_astore hX dL_cell_17 (by decide), List.forall_mem_cons.mpr ⟨np_s_iconst hX dL_cell_19 (by decide), List.forall_mem_cons.mpr ⟨np_S.mono (op := np_ret X.2.2.1) (np_s_ret hX dL_cell_20) (nq_ret_le hR), List.forall_mem_cons.mpr ⟨np_s_iconst hX dL_cell_21 (by decide), List.forall_mem_cons.mpr ⟨np_S.mono (op := np_ret X.2.2.1) (np_s_ret hX dL_cell_22) (nq_ret_le hR), fun _ h => nomatch h⟩⟩⟩⟩⟩⟩⟩⟩⟩⟩⟩⟩⟩⟩⟩⟩
abbrev sp_L_cell : np_Sp := nq_in is_L_cell (some .int) 1 6 400
theorem C_L_cell : np_CW yL_cell cL_cell 7 (some .int) hhL_cell 7 125 1 6 sp_L_cell := nq_inCW 400 (by decide) (fun X Rt hX htb hR => so_L_cell hX htb hR)
theorem dL_take_0 : decode cL_take 0 = .ok (.aload_n 3, 1) := by decide +kernel
theorem dL_take_1 : decode cL_take 1 = .ok (.iconst 0, 1) := by decide +kernel
theorem dL_take_2 : decode cL_take 2 = .ok (.aload_n 0, 1) := by decide +kernel
theorem dL_take_3 : decode cL_take 3 = .ok (.iload_n 1, 1) := by decide +kernel
theorem dL_take_4 : decode cL_take 4 = .ok (.iload_n 2, 1) := by decide +kernel
theorem dL_take_5 : decode cL_take 5 = .ok (.invokevirtual 84, 3) := by decide +kernel
theorem dL_take_8 : decode cL_take 8 = .ok (.i2l, 1) := by decide +kernel
theorem dL_take_9 : decode cL_take 9 = .ok (.lastore, 1) := by decide +kernel
theorem dL_take_10 : decode cL_take 10 = .ok (.goto 7, 3) := by decide +kernel
theorem dL_take_13 : decode cL_take 13 = .ok (.astore 4, 2) := by decide +kernel
theorem dL_take_15 : decode cL_take 15 = .ok (.iconst 1, 1) := by decide +kernel
theorem dL_take_16 : decode cL_take 16 = .ok (.ireturn, 1) := by decide +kernel
theorem dL_take_17 : decode cL_take 17 = .ok (.iconst 0, 1) := by decide +kernel
theorem dL_take_18 : decode cL_take 18 = .ok (.ireturn, 1) := by decide +kernel
def hhL_take : List (Nat × Nat × Nat × Nat) := [((0 : Nat), (10 : Nat), (13 : Nat), (13 : Nat))]
theorem hdL_take_5_0 : np_hd RL (tableOf hhL_take) 5 0 13 := ⟨(tableOf hhL_take).take 0, _, (tableOf hhL_take).drop 1, rfl, (fun _ h => nomatch h), rfl, by decide, gw560, gw575, rfl⟩
theorem hdL_take_5 : ∀ z ∈ ([(0, 13)] : List (Nat × Nat)), np_hd RL (tableOf hhL_take) 5 z.1 z.2 := List.forall_mem_cons.mpr ⟨hdL_take_5_0, fun _ h => nomatch h⟩
def is_L_take (Rt : np_Rt) : List (Nat × np_Op) := [(0, np_ald 1 3), (1, np_push 1 (.int 0)), (2, np_ald 1 0), (3, np_ild 1 1), (4, np_ild 1 2), (5, nq_callVX 11 3 sp_X11_take 6 1 6 1 6 [(0, 13)]), (8, np_i2l), (9, nq_last), (10, np_goto 17), (13, np_ast 2 4), (15, np_push 1 (.int 1)), (16, np_ret Rt), (17, np_push 1 (.int 0)), (18, np_ret Rt)]
set_option maxRecDepth 20000 in
theorem so_L_take {X : np_Ctx} {Rt : np_Rt} (hX : np_ok RL cL_take 5 7 125 1 6 .ireturn X) (htb : np_tab X = tableOf hhL_take) (hR : ∀ st w ce sl, Rt st w ce sl → X.2.2.1 st w ce sl) : ∀ q ∈ is_L_take Rt, np_S X q.1 q.2 :=
  List.forall_mem_cons.mpr ⟨np_s_aload_n hX dL_take_0 rfl, List.forall_mem_cons.mpr ⟨np_s_iconst hX dL_take_1 (by decide), List.forall_mem_cons.mpr ⟨np_s_aload_n hX dL_take_2 rfl, List.forall_mem_cons.mpr ⟨np_s_iload_n hX dL_take_3 rfl, List.forall_mem_cons.mpr ⟨np_s_iload_n hX dL_take_4 rfl, List.forall_mem_cons.mpr ⟨np_S.mono (op := np_callVX 11 3 sp_X11_take 6 1 6 1 6 [(0, 13)]) (np_s_callVX hX C_X11_take dL_take_5 (q := (RX11, TX11, 14)) rfl rfl gw1320 gw130 gw1317 gw1318 gw1319 ⟨by decide, by decide, by decide⟩ (by decide) (by decide) (htb.symm ▸ hdL_take_5)) nq_callVX_le, List.forall_mem_cons.mpr ⟨np_s_i2l hX dL_take_8, List.forall_mem_cons.mpr ⟨np_S.mono (op := np_last) (np_s_last hX dL_take_9) nq_last_le, List.forall_mem_cons.mpr ⟨np_s_goto hX dL_take_10 (by decide), List.forall_mem_cons.mpr ⟨np_s_astore hX dL_take_13 (by decide), List.forall_mem_cons.mpr ⟨np_s_iconst hX dL_take_15 (by decide), List.forall_mem_cons.mpr ⟨np_S.mono (op := np_ret X.2.2.1) (np_s_ret hX dL_take_16) (nq_ret_le hR), List.forall_mem_cons.mpr ⟨np_s_iconst hX dL_take_17 (by decide), List.forall_mem_cons.mpr ⟨np_S.mono (op := np_ret X.2.2.1) (np_s_ret hX dL_take_18) (nq_ret_le hR), fun _ h => nomatch h⟩⟩⟩⟩⟩⟩⟩⟩⟩⟩⟩⟩⟩⟩
abbrev sp_L_take : np_Sp := nq_in is_L_take (some .int) 1 6 400
theorem C_L_take : np_CW yL_take cL_take 5 (some .int) hhL_take 7 125 1 6 sp_L_take := nq_inCW 400 (by decide) (fun X Rt hX htb hR => so_L_take hX htb hR)
theorem dL_column_0 : decode cL_column 0 = .ok (.aload 5, 2) := by decide +kernel
theorem dL_column_2 : decode cL_column 2 = .ok (.iconst 0, 1) := by decide +kernel
theorem dL_column_3 : decode cL_column 3 = .ok (.aload_n 0, 1) := by decide +kernel
theorem dL_column_4 : decode cL_column 4 = .ok (.iload_n 1, 1) := by decide +kernel
theorem dL_column_5 : decode cL_column 5 = .ok (.iload_n 2, 1) := by decide +kernel
theorem dL_column_6 : decode cL_column 6 = .ok (.iload_n 3, 1) := by decide +kernel
theorem dL_column_7 : decode cL_column 7 = .ok (.iload 4, 2) := by decide +kernel
theorem dL_column_9 : decode cL_column 9 = .ok (.invokevirtual 87, 3) := by decide +kernel
theorem dL_column_12 : decode cL_column 12 = .ok (.i2l, 1) := by decide +kernel
theorem dL_column_13 : decode cL_column 13 = .ok (.lastore, 1) := by decide +kernel
theorem dL_column_14 : decode cL_column 14 = .ok (.goto 15, 3) := by decide +kernel
theorem dL_column_17 : decode cL_column 17 = .ok (.astore 6, 2) := by decide +kernel
theorem dL_column_19 : decode cL_column 19 = .ok (.iconst 1, 1) := by decide +kernel
theorem dL_column_20 : decode cL_column 20 = .ok (.ireturn, 1) := by decide +kernel
theorem dL_column_21 : decode cL_column 21 = .ok (.astore 6, 2) := by decide +kernel
theorem dL_column_23 : decode cL_column 23 = .ok (.iconst 2, 1) := by decide +kernel
theorem dL_column_24 : decode cL_column 24 = .ok (.ireturn, 1) := by decide +kernel
theorem dL_column_25 : decode cL_column 25 = .ok (.astore 6, 2) := by decide +kernel
theorem dL_column_27 : decode cL_column 27 = .ok (.iconst 3, 1) := by decide +kernel
theorem dL_column_28 : decode cL_column 28 = .ok (.ireturn, 1) := by decide +kernel
theorem dL_column_29 : decode cL_column 29 = .ok (.iconst 0, 1) := by decide +kernel
theorem dL_column_30 : decode cL_column 30 = .ok (.ireturn, 1) := by decide +kernel
def hhL_column : List (Nat × Nat × Nat × Nat) := [((0 : Nat), (14 : Nat), (17 : Nat), (13 : Nat)), ((0 : Nat), (14 : Nat), (21 : Nat), (15 : Nat)), ((0 : Nat), (14 : Nat), (25 : Nat), (17 : Nat))]
theorem hdL_column_9_0 : np_hd RL (tableOf hhL_column) 9 0 17 := ⟨(tableOf hhL_column).take 0, _, (tableOf hhL_column).drop 1, rfl, (fun _ h => nomatch h), rfl, by decide, gw560, gw575, rfl⟩
theorem hdL_column_9_1 : np_hd RL (tableOf hhL_column) 9 1 21 := ⟨(tableOf hhL_column).take 1, _, (tableOf hhL_column).drop 2, rfl, List.forall_mem_cons.mpr ⟨Or.inr ⟨by decide, _, gw560, by decide⟩, (fun _ h => nomatch h)⟩, rfl, by decide, gw561, gw649, rfl⟩
theorem hdL_column_9_2 : np_hd RL (tableOf hhL_column) 9 2 25 := ⟨(tableOf hhL_column).take 2, _, (tableOf hhL_column).drop 3, rfl, List.forall_mem_cons.mpr ⟨Or.inr ⟨by decide, _, gw560, by decide⟩, List.forall_mem_cons.mpr ⟨Or.inr ⟨by decide, _, gw561, by decide⟩, (fun _ h => nomatch h)⟩⟩, rfl, by decide, gw562, gw669, rfl⟩
theorem hdL_column_9 : ∀ z ∈ ([(0, 17), (1, 21), (2, 25)] : List (Nat × Nat)), np_hd RL (tableOf hhL_column) 9 z.1 z.2 := List.forall_mem_cons.mpr ⟨hdL_column_9_0, List.forall_mem_cons.mpr ⟨hdL_column_9_1, List.forall_mem_cons.mpr ⟨hdL_column_9_2, fun _ h => nomatch h⟩⟩⟩
def is_L_column (Rt : np_Rt) : List (Nat × np_Op) := [(0, np_ald 2 5), (2, np_push 1 (.int 0)), (3, np_ald 1 0), (4, np_ild 1 1), (5, np_ild 1 2), (6, np_ild 1 3), (7, np_ild 2 4), (9, nq_callVX 11 5 sp_X11_column 7 1 6 1 6 [(0, 17), (1, 21), (2, 25)]), (12, np_i2l), (13, nq_last), (14, np_goto 29), (17, np_ast 2 6), (19, np_push 1 (.int 1)), (20, np_ret Rt), (21, np_ast 2 6), (23, np_push 1 (.int 2)), (24, np_ret Rt), (25, np_ast 2 6), (27, np_push 1 (.int 3)), (28, np_ret Rt), (29, np_push 1 (.int 0)), (30, np_ret Rt)]
set_option maxRecDepth 20000 in
theorem so_L_column {X : np_Ctx} {Rt : np_Rt} (hX : np_ok RL cL_column 7 7 126 1 6 .ireturn X) (htb : np_tab X = tableOf hhL_column) (hR : ∀ st w ce sl, Rt st w ce sl → X.2.2.1 st w ce sl) : ∀ q ∈ is_L_column Rt, np_S X q.1 q.2 :=
  List.forall_mem_cons.mpr ⟨np_s_aload hX dL_column_0, List.forall_mem_cons.mpr ⟨np_s_iconst hX dL_column_2 (by decide), List.forall_mem_cons.mpr ⟨np_s_aload_n hX dL_column_3 rfl, List.forall_mem_cons.mpr ⟨np_s_iload_n hX dL_column_4 rfl, List.forall_mem_cons.mpr ⟨np_s_iload_n hX dL_column_5 rfl, List.forall_mem_cons.mpr ⟨np_s_iload_n hX dL_column_6 rfl, List.forall_mem_cons.mpr ⟨np_s_iload hX dL_column_7, List.forall_mem_cons.mpr ⟨np_S.mono (op := np_callVX 11 5 sp_X11_column 7 1 6 1 6 [(0, 17), (1, 21), (2, 25)]) (np_s_callVX hX C_X11_column dL_column_9 (q := (RX11, TX11, 14)) rfl rfl gw1327 gw130 gw1324 gw1325 gw1326 ⟨by decide, by decide, by decide⟩ (by decide) (by decide) (htb.symm ▸ hdL_column_9)) nq_callVX_le, List.forall_mem_cons.mpr ⟨np_s_i2l hX dL_column_12, List.forall_mem_cons.mpr ⟨np_S.mono (op := np_last) (np_s_last hX dL_column_13) nq_last_le, List.forall_mem_cons.mpr ⟨np_s_goto hX dL_column_14 (by decide), List.forall_mem_cons.mpr ⟨np_s_astore hX dL_column_17 (by decide), List.forall_mem_cons.mpr ⟨np_s_iconst hX dL_column_19 (by decide), List.forall_mem_cons.mpr ⟨np_S.mono (op := np_ret X.2.2.1) (np_s_ret hX dL_column_20) (nq_ret_le hR), List.forall_mem_cons.mpr ⟨np_s_astore hX dL_column_21 (by decide), List.forall_mem_cons.mpr ⟨np_s_iconst hX dL_column_23 (by decide), List.forall_mem_cons.mpr ⟨np_S.mono (op := np_ret X.2.2.1) (np_s_ret hX dL_column_24) (nq_ret_le hR), List.forall_mem_cons.mpr ⟨np_s_astore hX dL_column_25 (by decide), List.forall_mem_cons.mpr ⟨np_s_iconst hX dL_column_27 (by decide), List.forall_mem_cons.mpr ⟨np_S.mono (op := np_ret X.2.2.1) (np_s_ret hX dL_column_28) (nq_ret_le hR), List.forall_mem_cons.mpr ⟨np_s_iconst hX dL_column_29 (by decide), List.forall_mem_cons.mpr ⟨np_S.mono (op := np_ret X.2.2.1) (np_s_ret hX dL_column_30) (nq_ret_le hR), fun _ h => nomatch h⟩⟩⟩⟩⟩⟩⟩⟩⟩⟩⟩⟩⟩⟩⟩⟩⟩⟩⟩⟩⟩⟩
abbrev sp_L_column : np_Sp := nq_in is_L_column (some .int) 1 6 400
theorem C_L_column : np_CW yL_column cL_column 7 (some .int) hhL_column 7 126 1 6 sp_L_column := nq_inCW 400 (by decide) (fun X Rt hX htb hR => so_L_column hX htb hR)
theorem dL_derived_0 : decode cL_derived 0 = .ok (.aload_n 3, 1) := by decide +kernel
theorem dL_derived_1 : decode cL_derived 1 = .ok (.iconst 0, 1) := by decide +kernel
theorem dL_derived_2 : decode cL_derived 2 = .ok (.aload_n 0, 1) := by decide +kernel
theorem dL_derived_3 : decode cL_derived 3 = .ok (.iload_n 1, 1) := by decide +kernel
theorem dL_derived_4 : decode cL_derived 4 = .ok (.iload_n 2, 1) := by decide +kernel
theorem dL_derived_5 : decode cL_derived 5 = .ok (.invokevirtual 90, 3) := by decide +kernel
theorem dL_derived_8 : decode cL_derived 8 = .ok (.i2l, 1) := by decide +kernel
theorem dL_derived_9 : decode cL_derived 9 = .ok (.lastore, 1) := by decide +kernel
theorem dL_derived_10 : decode cL_derived 10 = .ok (.goto 7, 3) := by decide +kernel
theorem dL_derived_13 : decode cL_derived 13 = .ok (.astore 4, 2) := by decide +kernel
theorem dL_derived_15 : decode cL_derived 15 = .ok (.iconst 1, 1) := by decide +kernel
theorem dL_derived_16 : decode cL_derived 16 = .ok (.ireturn, 1) := by decide +kernel
theorem dL_derived_17 : decode cL_derived 17 = .ok (.iconst 0, 1) := by decide +kernel
theorem dL_derived_18 : decode cL_derived 18 = .ok (.ireturn, 1) := by decide +kernel
def hhL_derived : List (Nat × Nat × Nat × Nat) := [((0 : Nat), (10 : Nat), (13 : Nat), (13 : Nat))]
theorem hdL_derived_5_0 : np_hd RL (tableOf hhL_derived) 5 0 13 := ⟨(tableOf hhL_derived).take 0, _, (tableOf hhL_derived).drop 1, rfl, (fun _ h => nomatch h), rfl, by decide, gw560, gw575, rfl⟩
theorem hdL_derived_5 : ∀ z ∈ ([(0, 13)] : List (Nat × Nat)), np_hd RL (tableOf hhL_derived) 5 z.1 z.2 := List.forall_mem_cons.mpr ⟨hdL_derived_5_0, fun _ h => nomatch h⟩
def is_L_derived (Rt : np_Rt) : List (Nat × np_Op) := [(0, np_ald 1 3), (1, np_push 1 (.int 0)), (2, np_ald 1 0), (3, np_ild 1 1), (4, np_ild 1 2), (5, nq_callVX 11 3 sp_X11_derived 4 1 6 1 6 [(0, 13)]), (8, np_i2l), (9, nq_last), (10, np_goto 17), (13, np_ast 2 4), (15, np_push 1 (.int 1)), (16, np_ret Rt), (17, np_push 1 (.int 0)), (18, np_ret Rt)]
set_option maxRecDepth 20000 in
theorem so_L_derived {X : np_Ctx} {Rt : np_Rt} (hX : np_ok RL cL_derived 5 7 123 1 6 .ireturn X) (htb : np_tab X = tableOf hhL_derived) (hR : ∀ st w ce sl, Rt st w ce sl → X.2.2.1 st w ce sl) : ∀ q ∈ is_L_derived Rt, np_S X q.1 q.2 :=
  List.forall_mem_cons.mpr ⟨np_s_aload_n hX dL_derived_0 rfl, List.forall_mem_cons.mpr ⟨np_s_iconst hX dL_derived_1 (by decide), List.forall_mem_cons.mpr ⟨np_s_aload_n hX dL_derived_2 rfl, List.forall_mem_cons.mpr ⟨np_s_iload_n hX dL_derived_3 rfl, List.forall_mem_cons.mpr ⟨np_s_iload_n hX dL_derived_4 rfl, List.forall_mem_cons.mpr ⟨np_S.mono (op := np_callVX 11 3 sp_X11_derived 4 1 6 1 6 [(0, 13)]) (np_s_callVX hX C_X11_derived dL_derived_5 (q := (RX11, TX11, 14)) rfl rfl gw1342 gw130 gw1339 gw1340 gw1341 ⟨by decide, by decide, by decide⟩ (by decide) (by decide) (htb.symm ▸ hdL_derived_5)) nq_callVX_le, List.forall_mem_cons.mpr ⟨np_s_i2l hX dL_derived_8, List.forall_mem_cons.mpr ⟨np_S.mono (op := np_last) (np_s_last hX dL_derived_9) nq_last_le, List.forall_mem_cons.mpr ⟨np_s_goto hX dL_derived_10 (by decide), List.forall_mem_cons.mpr ⟨np_s_astore hX dL_derived_13 (by decide), List.forall_mem_cons.mpr ⟨np_s_iconst hX dL_derived_15 (by decide), List.forall_mem_cons.mpr ⟨np_S.mono (op := np_ret X.2.2.1) (np_s_ret hX dL_derived_16) (nq_ret_le hR), List.forall_mem_cons.mpr ⟨np_s_iconst hX dL_derived_17 (by decide), List.forall_mem_cons.mpr ⟨np_S.mono (op := np_ret X.2.2.1) (np_s_ret hX dL_derived_18) (nq_ret_le hR), fun _ h => nomatch h⟩⟩⟩⟩⟩⟩⟩⟩⟩⟩⟩⟩⟩⟩
abbrev sp_L_derived : np_Sp := nq_in is_L_derived (some .int) 1 6 400
theorem C_L_derived : np_CW yL_derived cL_derived 5 (some .int) hhL_derived 7 123 1 6 sp_L_derived := nq_inCW 400 (by decide) (fun X Rt hX htb hR => so_L_derived hX htb hR)
theorem dL_derivedByBatch_0 : decode cL_derivedByBatch 0 = .ok (.aload_n 3, 1) := by decide +kernel
theorem dL_derivedByBatch_1 : decode cL_derivedByBatch 1 = .ok (.iconst 0, 1) := by decide +kernel
theorem dL_derivedByBatch_2 : decode cL_derivedByBatch 2 = .ok (.aload_n 0, 1) := by decide +kernel
theorem dL_derivedByBatch_3 : decode cL_derivedByBatch 3 = .ok (.iload_n 1, 1) := by decide +kernel
theorem dL_derivedByBatch_4 : decode cL_derivedByBatch 4 = .ok (.iload_n 2, 1) := by decide +kernel
theorem dL_derivedByBatch_5 : decode cL_derivedByBatch 5 = .ok (.invokevirtual 93, 3) := by decide +kernel
theorem dL_derivedByBatch_8 : decode cL_derivedByBatch 8 = .ok (.i2l, 1) := by decide +kernel
theorem dL_derivedByBatch_9 : decode cL_derivedByBatch 9 = .ok (.lastore, 1) := by decide +kernel
theorem dL_derivedByBatch_10 : decode cL_derivedByBatch 10 = .ok (.goto 7, 3) := by decide +kernel
theorem dL_derivedByBatch_13 : decode cL_derivedByBatch 13 = .ok (.astore 4, 2) := by decide +kernel
theorem dL_derivedByBatch_15 : decode cL_derivedByBatch 15 = .ok (.iconst 1, 1) := by decide +kernel
theorem dL_derivedByBatch_16 : decode cL_derivedByBatch 16 = .ok (.ireturn, 1) := by decide +kernel
theorem dL_derivedByBatch_17 : decode cL_derivedByBatch 17 = .ok (.iconst 0, 1) := by decide +kernel
theorem dL_derivedByBatch_18 : decode cL_derivedByBatch 18 = .ok (.ireturn, 1) := by decide +kernel
def hhL_derivedByBatch : List (Nat × Nat × Nat × Nat) := [((0 : Nat), (10 : Nat), (13 : Nat), (13 : Nat))]
theorem hdL_derivedByBatch_5_0 : np_hd RL (tableOf hhL_derivedByBatch) 5 0 13 := ⟨(tableOf hhL_derivedByBatch).take 0, _, (tableOf hhL_derivedByBatch).drop 1, rfl, (fun _ h => nomatch h), rfl, by decide, gw560, gw575, rfl⟩
theorem hdL_derivedByBatch_5 : ∀ z ∈ ([(0, 13)] : List (Nat × Nat)), np_hd RL (tableOf hhL_derivedByBatch) 5 z.1 z.2 := List.forall_mem_cons.mpr ⟨hdL_derivedByBatch_5_0, fun _ h => nomatch h⟩
def is_L_derivedByBatch (Rt : np_Rt) : List (Nat × np_Op) := [(0, np_ald 1 3), (1, np_push 1 (.int 0)), (2, np_ald 1 0), (3, np_ild 1 1), (4, np_ild 1 2), (5, nq_callVX 11 3 sp_X11_derivedByBatch 4 1 6 1 6 [(0, 13)]), (8, np_i2l), (9, nq_last), (10, np_goto 17), (13, np_ast 2 4), (15, np_push 1 (.int 1)), (16, np_ret Rt), (17, np_push 1 (.int 0)), (18, np_ret Rt)]
set_option maxRecDepth 20000 in
theorem so_L_derivedByBatch {X : np_Ctx} {Rt : np_Rt} (hX : np_ok RL cL_derivedByBatch 5 7 123 1 6 .ireturn X) (htb : np_tab X = tableOf hhL_derivedByBatch) (hR : ∀ st w ce sl, Rt st w ce sl → X.2.2.1 st w ce sl) : ∀ q ∈ is_L_derivedByBatch Rt, np_S X q.1 q.2 :=
  List.forall_mem_cons.mpr ⟨np_s_aload_n hX dL_derivedByBatch_0 rfl, List.forall_mem_cons.mpr ⟨np_s_iconst hX dL_derivedByBatch_1 (by decide), List.forall_mem_cons.mpr ⟨np_s_aload_n hX dL_derivedByBatch_2 rfl, List.forall_mem_cons.mpr ⟨np_s_iload_n hX dL_derivedByBatch_3 rfl, List.forall_mem_cons.mpr ⟨np_s_iload_n hX dL_derivedByBatch_4 rfl, List.forall_mem_cons.mpr ⟨np_S.mono (op := np_callVX 11 3 sp_X11_derivedByBatch 4 1 6 1 6 [(0, 13)]) (np_s_callVX hX C_X11_derivedByBatch dL_derivedByBatch_5 (q := (RX11, TX11, 14)) rfl rfl gw1377 gw130 gw1374 gw1375 gw1376 ⟨by decide, by decide, by decide⟩ (by decide) (by decide) (htb.symm ▸ hdL_derivedByBatch_5)) nq_callVX_le, List.forall_mem_cons.mpr ⟨np_s_i2l hX dL_derivedByBatch_8, List.forall_mem_cons.mpr ⟨np_S.mono (op := np_last) (np_s_last hX dL_derivedByBatch_9) nq_last_le, List.forall_mem_cons.mpr ⟨np_s_goto hX dL_derivedByBatch_10 (by decide), List.forall_mem_cons.mpr ⟨np_s_astore hX dL_derivedByBatch_13 (by decide), List.forall_mem_cons.mpr ⟨np_s_iconst hX dL_derivedByBatch_15 (by decide), List.forall_mem_cons.mpr ⟨np_S.mono (op := np_ret X.2.2.1) (np_s_ret hX dL_derivedByBatch_16) (nq_ret_le hR), List.forall_mem_cons.mpr ⟨np_s_iconst hX dL_derivedByBatch_17 (by decide), List.forall_mem_cons.mpr ⟨np_S.mono (op := np_ret X.2.2.1) (np_s_ret hX dL_derivedByBatch_18) (nq_ret_le hR), fun _ h => nomatch h⟩⟩⟩⟩⟩⟩⟩⟩⟩⟩⟩⟩⟩⟩
abbrev sp_L_derivedByBatch : np_Sp := nq_in is_L_derivedByBatch (some .int) 1 6 400
theorem C_L_derivedByBatch : np_CW yL_derivedByBatch cL_derivedByBatch 5 (some .int) hhL_derivedByBatch 7 123 1 6 sp_L_derivedByBatch := nq_inCW 400 (by decide) (fun X Rt hX htb hR => so_L_derivedByBatch hX htb hR)
theorem dL_change_0 : decode cL_change 0 = .ok (.aload 5, 2) := by decide +kernel
theorem dL_change_2 : decode cL_change 2 = .ok (.iconst 0, 1) := by decide +kernel
theorem dL_change_3 : decode cL_change 3 = .ok (.aload_n 0, 1) := by decide +kernel
theorem dL_change_4 : decode cL_change 4 = .ok (.iload_n 1, 1) := by decide +kernel
theorem dL_change_5 : decode cL_change 5 = .ok (.iload_n 2, 1) := by decide +kernel
theorem dL_change_6 : decode cL_change 6 = .ok (.iload_n 3, 1) := by decide +kernel
theorem dL_change_7 : decode cL_change 7 = .ok (.iload 4, 2) := by decide +kernel
theorem dL_change_9 : decode cL_change 9 = .ok (.invokevirtual 96, 3) := by decide +kernel
theorem dL_change_12 : decode cL_change 12 = .ok (.i2l, 1) := by decide +kernel
theorem dL_change_13 : decode cL_change 13 = .ok (.lastore, 1) := by decide +kernel
theorem dL_change_14 : decode cL_change 14 = .ok (.goto 11, 3) := by decide +kernel
theorem dL_change_17 : decode cL_change 17 = .ok (.astore 6, 2) := by decide +kernel
theorem dL_change_19 : decode cL_change 19 = .ok (.iconst 1, 1) := by decide +kernel
theorem dL_change_20 : decode cL_change 20 = .ok (.ireturn, 1) := by decide +kernel
theorem dL_change_21 : decode cL_change 21 = .ok (.astore 6, 2) := by decide +kernel
theorem dL_change_23 : decode cL_change 23 = .ok (.iconst 2, 1) := by decide +kernel
theorem dL_change_24 : decode cL_change 24 = .ok (.ireturn, 1) := by decide +kernel
theorem dL_change_25 : decode cL_change 25 = .ok (.iconst 0, 1) := by decide +kernel
theorem dL_change_26 : decode cL_change 26 = .ok (.ireturn, 1) := by decide +kernel
def hhL_change : List (Nat × Nat × Nat × Nat) := [((0 : Nat), (14 : Nat), (17 : Nat), (13 : Nat)), ((0 : Nat), (14 : Nat), (21 : Nat), (15 : Nat))]
theorem hdL_change_9_0 : np_hd RL (tableOf hhL_change) 9 0 17 := ⟨(tableOf hhL_change).take 0, _, (tableOf hhL_change).drop 1, rfl, (fun _ h => nomatch h), rfl, by decide, gw560, gw575, rfl⟩
theorem hdL_change_9_1 : np_hd RL (tableOf hhL_change) 9 1 21 := ⟨(tableOf hhL_change).take 1, _, (tableOf hhL_change).drop 2, rfl, List.forall_mem_cons.mpr ⟨Or.inr ⟨by decide, _, gw560, by decide⟩, (fun _ h => nomatch h)⟩, rfl, by decide, gw561, gw649, rfl⟩
theorem hdL_change_9 : ∀ z ∈ ([(0, 17), (1, 21)] : List (Nat × Nat)), np_hd RL (tableOf hhL_change) 9 z.1 z.2 := List.forall_mem_cons.mpr ⟨hdL_change_9_0, List.forall_mem_cons.mpr ⟨hdL_change_9_1, fun _ h => nomatch h⟩⟩
def is_L_change (Rt : np_Rt) : List (Nat × np_Op) := [(0, np_ald 2 5), (2, np_push 1 (.int 0)), (3, np_ald 1 0), (4, np_ild 1 1), (5, np_ild 1 2), (6, np_ild 1 3), (7, np_ild 2 4), (9, nq_callVX 11 5 sp_X11_change 6 1 6 1 6 [(0, 17), (1, 21)]), (12, np_i2l), (13, nq_last), (14, np_goto 25), (17, np_ast 2 6), (19, np_push 1 (.int 1)), (20, np_ret Rt), (21, np_ast 2 6), (23, np_push 1 (.int 2)), (24, np_ret Rt), (25, np_push 1 (.int 0)), (26, np_ret Rt)]
set_option maxRecDepth 20000 in
theorem so_L_change {X : np_Ctx} {Rt : np_Rt} (hX : np_ok RL cL_change 7 7 125 1 6 .ireturn X) (htb : np_tab X = tableOf hhL_change) (hR : ∀ st w ce sl, Rt st w ce sl → X.2.2.1 st w ce sl) : ∀ q ∈ is_L_change Rt, np_S X q.1 q.2 :=
  List.forall_mem_cons.mpr ⟨np_s_aload hX dL_change_0, List.forall_mem_cons.mpr ⟨np_s_iconst hX dL_change_2 (by decide), List.forall_mem_cons.mpr ⟨np_s_aload_n hX dL_change_3 rfl, List.forall_mem_cons.mpr ⟨np_s_iload_n hX dL_change_4 rfl, List.forall_mem_cons.mpr ⟨np_s_iload_n hX dL_change_5 rfl, List.forall_mem_cons.mpr ⟨np_s_iload_n hX dL_change_6 rfl, List.forall_mem_cons.mpr ⟨np_s_iload hX dL_change_7, List.forall_mem_cons.mpr ⟨np_S.mono (op := np_callVX 11 5 sp_X11_change 6 1 6 1 6 [(0, 17), (1, 21)]) (np_s_callVX hX C_X11_change dL_change_9 (q := (RX11, TX11, 14)) rfl rfl gw1413 gw130 gw1410 gw1411 gw1412 ⟨by decide, by decide, by decide⟩ (by decide) (by decide) (htb.symm ▸ hdL_change_9)) nq_callVX_le, List.forall_mem_cons.mpr ⟨np_s_i2l hX dL_change_12, List.forall_mem_cons.mpr ⟨np_S.mono (op := np_last) (np_s_last hX dL_change_13) nq_last_le, List.forall_mem_cons.mpr ⟨np_s_goto hX dL_change_14 (by decide), List.forall_mem_cons.mpr ⟨np_s_astore hX dL_change_17 (by decide), List.forall_mem_cons.mpr ⟨np_s_iconst hX dL_change_19 (by decide), List.forall_mem_cons.mpr ⟨np_S.mono (op := np_ret X.2.2.1) (np_s_ret hX dL_change_20) (nq_ret_le hR), List.forall_mem_cons.mpr ⟨np_s_astore hX dL_change_21 (by decide), List.forall_mem_cons.mpr ⟨np_s_iconst hX dL_change_23 (by decide), List.forall_mem_cons.mpr ⟨np_S.mono (op := np_ret X.2.2.1) (np_s_ret hX dL_change_24) (nq_ret_le hR), List.forall_mem_cons.mpr ⟨np_s_iconst hX dL_change_25 (by decide), List.forall_mem_cons.mpr ⟨np_S.mono (op := np_ret X.2.2.1) (np_s_ret hX dL_change_26) (nq_ret_le hR), fun _ h => nomatch h⟩⟩⟩⟩⟩⟩⟩⟩⟩⟩⟩⟩⟩⟩⟩⟩⟩⟩⟩
abbrev sp_L_change : np_Sp := nq_in is_L_change (some .int) 1 6 400
theorem C_L_change : np_CW yL_change cL_change 7 (some .int) hhL_change 7 125 1 6 sp_L_change := nq_inCW 400 (by decide) (fun X Rt hX htb hR => so_L_change hX htb hR)
theorem dL_upgrade_0 : decode cL_upgrade 0 = .ok (.aload_n 1, 1) := by decide +kernel
theorem dL_upgrade_1 : decode cL_upgrade 1 = .ok (.iconst 0, 1) := by decide +kernel
theorem dL_upgrade_2 : decode cL_upgrade 2 = .ok (.aload_n 0, 1) := by decide +kernel
theorem dL_upgrade_3 : decode cL_upgrade 3 = .ok (.invokevirtual 99, 3) := by decide +kernel
theorem dL_upgrade_6 : decode cL_upgrade 6 = .ok (.i2l, 1) := by decide +kernel
theorem dL_upgrade_7 : decode cL_upgrade 7 = .ok (.lastore, 1) := by decide +kernel
theorem dL_upgrade_8 : decode cL_upgrade 8 = .ok (.goto 6, 3) := by decide +kernel
theorem dL_upgrade_11 : decode cL_upgrade 11 = .ok (.astore_n 2, 1) := by decide +kernel
theorem dL_upgrade_12 : decode cL_upgrade 12 = .ok (.iconst 1, 1) := by decide +kernel
theorem dL_upgrade_13 : decode cL_upgrade 13 = .ok (.ireturn, 1) := by decide +kernel
theorem dL_upgrade_14 : decode cL_upgrade 14 = .ok (.iconst 0, 1) := by decide +kernel
theorem dL_upgrade_15 : decode cL_upgrade 15 = .ok (.ireturn, 1) := by decide +kernel
def hhL_upgrade : List (Nat × Nat × Nat × Nat) := [((0 : Nat), (8 : Nat), (11 : Nat), (17 : Nat))]
theorem hdL_upgrade_3_0 : np_hd RL (tableOf hhL_upgrade) 3 2 11 := ⟨(tableOf hhL_upgrade).take 0, _, (tableOf hhL_upgrade).drop 1, rfl, (fun _ h => nomatch h), rfl, by decide, gw562, gw669, rfl⟩
theorem hdL_upgrade_3 : ∀ z ∈ ([(2, 11)] : List (Nat × Nat)), np_hd RL (tableOf hhL_upgrade) 3 z.1 z.2 := List.forall_mem_cons.mpr ⟨hdL_upgrade_3_0, fun _ h => nomatch h⟩
def is_L_upgrade (Rt : np_Rt) : List (Nat × np_Op) := [(0, np_ald 1 1), (1, np_push 1 (.int 0)), (2, np_ald 1 0), (3, nq_callVX 11 1 sp_X11_upgrade 2 1 6 1 6 [(2, 11)]), (6, np_i2l), (7, nq_last), (8, np_goto 14), (11, np_ast 1 2), (12, np_push 1 (.int 1)), (13, np_ret Rt), (14, np_push 1 (.int 0)), (15, np_ret Rt)]
set_option maxRecDepth 20000 in
theorem so_L_upgrade {X : np_Ctx} {Rt : np_Rt} (hX : np_ok RL cL_upgrade 3 7 121 1 6 .ireturn X) (htb : np_tab X = tableOf hhL_upgrade) (hR : ∀ st w ce sl, Rt st w ce sl → X.2.2.1 st w ce sl) : ∀ q ∈ is_L_upgrade Rt, np_S X q.1 q.2 :=
  List.forall_mem_cons.mpr ⟨np_s_aload_n hX dL_upgrade_0 rfl, List.forall_mem_cons.mpr ⟨np_s_iconst hX dL_upgrade_1 (by decide), List.forall_mem_cons.mpr ⟨np_s_aload_n hX dL_upgrade_2 rfl, List.forall_mem_cons.mpr ⟨np_S.mono (op := np_callVX 11 1 sp_X11_upgrade 2 1 6 1 6 [(2, 11)]) (np_s_callVX hX C_X11_upgrade dL_upgrade_3 (q := (RX11, TX11, 14)) rfl rfl gw1435 gw130 gw1432 gw1433 gw1434 ⟨by decide, by decide, by decide⟩ (by decide) (by decide) (htb.symm ▸ hdL_upgrade_3)) nq_callVX_le, List.forall_mem_cons.mpr ⟨np_s_i2l hX dL_upgrade_6, List.forall_mem_cons.mpr ⟨np_S.mono (op := np_last) (np_s_last hX dL_upgrade_7) nq_last_le, List.forall_mem_cons.mpr ⟨np_s_goto hX dL_upgrade_8 (by decide), List.forall_mem_cons.mpr ⟨np_s_astore_n hX dL_upgrade_11 rfl (by decide), List.forall_mem_cons.mpr ⟨np_s_iconst hX dL_upgrade_12 (by decide), List.forall_mem_cons.mpr ⟨np_S.mono (op := np_ret X.2.2.1) (np_s_ret hX dL_upgrade_13) (nq_ret_le hR), List.forall_mem_cons.mpr ⟨np_s_iconst hX dL_upgrade_14 (by decide), List.forall_mem_cons.mpr ⟨np_S.mono (op := np_ret X.2.2.1) (np_s_ret hX dL_upgrade_15) (nq_ret_le hR), fun _ h => nomatch h⟩⟩⟩⟩⟩⟩⟩⟩⟩⟩⟩⟩
abbrev sp_L_upgrade : np_Sp := nq_in is_L_upgrade (some .int) 1 6 400
theorem C_L_upgrade : np_CW yL_upgrade cL_upgrade 3 (some .int) hhL_upgrade 7 121 1 6 sp_L_upgrade := nq_inCW 400 (by decide) (fun X Rt hX htb hR => so_L_upgrade hX htb hR)
theorem dL_compose_0 : decode cL_compose 0 = .ok (.aload_n 3, 1) := by decide +kernel
theorem dL_compose_1 : decode cL_compose 1 = .ok (.iconst 0, 1) := by decide +kernel
theorem dL_compose_2 : decode cL_compose 2 = .ok (.aload_n 0, 1) := by decide +kernel
theorem dL_compose_3 : decode cL_compose 3 = .ok (.iload_n 1, 1) := by decide +kernel
theorem dL_compose_4 : decode cL_compose 4 = .ok (.iload_n 2, 1) := by decide +kernel
theorem dL_compose_5 : decode cL_compose 5 = .ok (.invokevirtual 102, 3) := by decide +kernel
theorem dL_compose_8 : decode cL_compose 8 = .ok (.i2l, 1) := by decide +kernel
theorem dL_compose_9 : decode cL_compose 9 = .ok (.lastore, 1) := by decide +kernel
theorem dL_compose_10 : decode cL_compose 10 = .ok (.goto 11, 3) := by decide +kernel
theorem dL_compose_13 : decode cL_compose 13 = .ok (.astore 4, 2) := by decide +kernel
theorem dL_compose_15 : decode cL_compose 15 = .ok (.iconst 1, 1) := by decide +kernel
theorem dL_compose_16 : decode cL_compose 16 = .ok (.ireturn, 1) := by decide +kernel
theorem dL_compose_17 : decode cL_compose 17 = .ok (.astore 4, 2) := by decide +kernel
theorem dL_compose_19 : decode cL_compose 19 = .ok (.iconst 2, 1) := by decide +kernel
theorem dL_compose_20 : decode cL_compose 20 = .ok (.ireturn, 1) := by decide +kernel
theorem dL_compose_21 : decode cL_compose 21 = .ok (.iconst 0, 1) := by decide +kernel
theorem dL_compose_22 : decode cL_compose 22 = .ok (.ireturn, 1) := by decide +kernel
def hhL_compose : List (Nat × Nat × Nat × Nat) := [((0 : Nat), (10 : Nat), (13 : Nat), (13 : Nat)), ((0 : Nat), (10 : Nat), (17 : Nat), (17 : Nat))]
theorem hdL_compose_5_0 : np_hd RL (tableOf hhL_compose) 5 0 13 := ⟨(tableOf hhL_compose).take 0, _, (tableOf hhL_compose).drop 1, rfl, (fun _ h => nomatch h), rfl, by decide, gw560, gw575, rfl⟩
theorem hdL_compose_5_1 : np_hd RL (tableOf hhL_compose) 5 2 17 := ⟨(tableOf hhL_compose).take 1, _, (tableOf hhL_compose).drop 2, rfl, List.forall_mem_cons.mpr ⟨Or.inr ⟨by decide, _, gw560, by decide⟩, (fun _ h => nomatch h)⟩, rfl, by decide, gw562, gw669, rfl⟩
theorem hdL_compose_5 : ∀ z ∈ ([(0, 13), (2, 17)] : List (Nat × Nat)), np_hd RL (tableOf hhL_compose) 5 z.1 z.2 := List.forall_mem_cons.mpr ⟨hdL_compose_5_0, List.forall_mem_cons.mpr ⟨hdL_compose_5_1, fun _ h => nomatch h⟩⟩
def is_L_compose (Rt : np_Rt) : List (Nat × np_Op) := [(0, np_ald 1 3), (1, np_push 1 (.int 0)), (2, np_ald 1 0), (3, np_ild 1 1), (4, np_ild 1 2), (5, nq_callVX 11 3 sp_X11_compose 6 1 6 1 6 [(0, 13), (2, 17)]), (8, np_i2l), (9, nq_last), (10, np_goto 21), (13, np_ast 2 4), (15, np_push 1 (.int 1)), (16, np_ret Rt), (17, np_ast 2 4), (19, np_push 1 (.int 2)), (20, np_ret Rt), (21, np_push 1 (.int 0)), (22, np_ret Rt)]
set_option maxRecDepth 20000 in
theorem so_L_compose {X : np_Ctx} {Rt : np_Rt} (hX : np_ok RL cL_compose 5 7 125 1 6 .ireturn X) (htb : np_tab X = tableOf hhL_compose) (hR : ∀ st w ce sl, Rt st w ce sl → X.2.2.1 st w ce sl) : ∀ q ∈ is_L_compose Rt, np_S X q.1 q.2 :=
  List.forall_mem_cons.mpr ⟨np_s_aload_n hX dL_compose_0 rfl, List.forall_mem_cons.mpr ⟨np_s_iconst hX dL_compose_1 (by decide), List.forall_mem_cons.mpr ⟨np_s_aload_n hX dL_compose_2 rfl, List.forall_mem_cons.mpr ⟨np_s_iload_n hX dL_compose_3 rfl, List.forall_mem_cons.mpr ⟨np_s_iload_n hX dL_compose_4 rfl, List.forall_mem_cons.mpr ⟨np_S.mono (op := np_callVX 11 3 sp_X11_compose 6 1 6 1 6 [(0, 13), (2, 17)]) (np_s_callVX hX C_X11_compose dL_compose_5 (q := (RX11, TX11, 14)) rfl rfl gw1465 gw130 gw1462 gw1463 gw1464 ⟨by decide, by decide, by decide⟩ (by decide) (by decide) (htb.symm ▸ hdL_compose_5)) nq_callVX_le, List.forall_mem_cons.mpr ⟨np_s_i2l hX dL_compose_8, List.forall_mem_cons.mpr ⟨np_S.mono (op := np_last) (np_s_last hX dL_compose_9) nq_last_le, List.forall_mem_cons.mpr ⟨np_s_goto hX dL_compose_10 (by decide), List.forall_mem_cons.mpr ⟨np_s_astore hX dL_compose_13 (by decide), List.forall_mem_cons.mpr ⟨np_s_iconst hX dL_compose_15 (by decide), List.forall_mem_cons.mpr ⟨np_S.mono (op := np_ret X.2.2.1) (np_s_ret hX dL_compose_16) (nq_ret_le hR), List.forall_mem_cons.mpr ⟨np_s_astore hX dL_compose_17 (by decide), List.forall_mem_cons.mpr ⟨np_s_iconst hX dL_compose_19 (by decide), List.forall_mem_cons.mpr ⟨np_S.mono (op := np_ret X.2.2.1) (np_s_ret hX dL_compose_20) (nq_ret_le hR), List.forall_mem_cons.mpr ⟨np_s_iconst hX dL_compose_21 (by decide), List.forall_mem_cons.mpr ⟨np_S.mono (op := np_ret X.2.2.1) (np_s_ret hX dL_compose_22) (nq_ret_le hR), fun _ h => nomatch h⟩⟩⟩⟩⟩⟩⟩⟩⟩⟩⟩⟩⟩⟩⟩⟩⟩
abbrev sp_L_compose : np_Sp := nq_in is_L_compose (some .int) 1 6 400
theorem C_L_compose : np_CW yL_compose cL_compose 5 (some .int) hhL_compose 7 125 1 6 sp_L_compose := nq_inCW 400 (by decide) (fun X Rt hX htb hR => so_L_compose hX htb hR)
theorem dL_reverse_0 : decode cL_reverse 0 = .ok (.aload_n 2, 1) := by decide +kernel
theorem dL_reverse_1 : decode cL_reverse 1 = .ok (.iconst 0, 1) := by decide +kernel
theorem dL_reverse_2 : decode cL_reverse 2 = .ok (.aload_n 0, 1) := by decide +kernel
theorem dL_reverse_3 : decode cL_reverse 3 = .ok (.iload_n 1, 1) := by decide +kernel
theorem dL_reverse_4 : decode cL_reverse 4 = .ok (.invokevirtual 105, 3) := by decide +kernel
theorem dL_reverse_7 : decode cL_reverse 7 = .ok (.i2l, 1) := by decide +kernel
theorem dL_reverse_8 : decode cL_reverse 8 = .ok (.lastore, 1) := by decide +kernel
theorem dL_reverse_9 : decode cL_reverse 9 = .ok (.goto 9, 3) := by decide +kernel
theorem dL_reverse_12 : decode cL_reverse 12 = .ok (.astore_n 3, 1) := by decide +kernel
theorem dL_reverse_13 : decode cL_reverse 13 = .ok (.iconst 1, 1) := by decide +kernel
theorem dL_reverse_14 : decode cL_reverse 14 = .ok (.ireturn, 1) := by decide +kernel
theorem dL_reverse_15 : decode cL_reverse 15 = .ok (.astore_n 3, 1) := by decide +kernel
theorem dL_reverse_16 : decode cL_reverse 16 = .ok (.iconst 2, 1) := by decide +kernel
theorem dL_reverse_17 : decode cL_reverse 17 = .ok (.ireturn, 1) := by decide +kernel
theorem dL_reverse_18 : decode cL_reverse 18 = .ok (.iconst 0, 1) := by decide +kernel
theorem dL_reverse_19 : decode cL_reverse 19 = .ok (.ireturn, 1) := by decide +kernel
def hhL_reverse : List (Nat × Nat × Nat × Nat) := [((0 : Nat), (9 : Nat), (12 : Nat), (13 : Nat)), ((0 : Nat), (9 : Nat), (15 : Nat), (17 : Nat))]
theorem hdL_reverse_4_0 : np_hd RL (tableOf hhL_reverse) 4 0 12 := ⟨(tableOf hhL_reverse).take 0, _, (tableOf hhL_reverse).drop 1, rfl, (fun _ h => nomatch h), rfl, by decide, gw560, gw575, rfl⟩
theorem hdL_reverse_4_1 : np_hd RL (tableOf hhL_reverse) 4 2 15 := ⟨(tableOf hhL_reverse).take 1, _, (tableOf hhL_reverse).drop 2, rfl, List.forall_mem_cons.mpr ⟨Or.inr ⟨by decide, _, gw560, by decide⟩, (fun _ h => nomatch h)⟩, rfl, by decide, gw562, gw669, rfl⟩
theorem hdL_reverse_4 : ∀ z ∈ ([(0, 12), (2, 15)] : List (Nat × Nat)), np_hd RL (tableOf hhL_reverse) 4 z.1 z.2 := List.forall_mem_cons.mpr ⟨hdL_reverse_4_0, List.forall_mem_cons.mpr ⟨hdL_reverse_4_1, fun _ h => nomatch h⟩⟩
def is_L_reverse (Rt : np_Rt) : List (Nat × np_Op) := [(0, np_ald 1 2), (1, np_push 1 (.int 0)), (2, np_ald 1 0), (3, np_ild 1 1), (4, nq_callVX 11 2 sp_X11_reverse 4 1 6 1 6 [(0, 12), (2, 15)]), (7, np_i2l), (8, nq_last), (9, np_goto 18), (12, np_ast 1 3), (13, np_push 1 (.int 1)), (14, np_ret Rt), (15, np_ast 1 3), (16, np_push 1 (.int 2)), (17, np_ret Rt), (18, np_push 1 (.int 0)), (19, np_ret Rt)]
set_option maxRecDepth 20000 in
theorem so_L_reverse {X : np_Ctx} {Rt : np_Rt} (hX : np_ok RL cL_reverse 4 7 123 1 6 .ireturn X) (htb : np_tab X = tableOf hhL_reverse) (hR : ∀ st w ce sl, Rt st w ce sl → X.2.2.1 st w ce sl) : ∀ q ∈ is_L_reverse Rt, np_S X q.1 q.2 :=
  List.forall_mem_cons.mpr ⟨np_s_aload_n hX dL_reverse_0 rfl, List.forall_mem_cons.mpr ⟨np_s_iconst hX dL_reverse_1 (by decide), List.forall_mem_cons.mpr ⟨np_s_aload_n hX dL_reverse_2 rfl, List.forall_mem_cons.mpr ⟨np_s_iload_n hX dL_reverse_3 rfl, List.forall_mem_cons.mpr ⟨np_S.mono (op := np_callVX 11 2 sp_X11_reverse 4 1 6 1 6 [(0, 12), (2, 15)]) (np_s_callVX hX C_X11_reverse dL_reverse_4 (q := (RX11, TX11, 14)) rfl rfl gw1513 gw130 gw1510 gw1511 gw1512 ⟨by decide, by decide, by decide⟩ (by decide) (by decide) (htb.symm ▸ hdL_reverse_4)) nq_callVX_le, List.forall_mem_cons.mpr ⟨np_s_i2l hX dL_reverse_7, List.forall_mem_cons.mpr ⟨np_S.mono (op := np_last) (np_s_last hX dL_reverse_8) nq_last_le, List.forall_mem_cons.mpr ⟨np_s_goto hX dL_reverse_9 (by decide), List.forall_mem_cons.mpr ⟨np_s_astore_n hX dL_reverse_12 rfl (by decide), List.forall_mem_cons.mpr ⟨np_s_iconst hX dL_reverse_13 (by decide), List.forall_mem_cons.mpr ⟨np_S.mono (op := np_ret X.2.2.1) (np_s_ret hX dL_reverse_14) (nq_ret_le hR), List.forall_mem_cons.mpr ⟨np_s_astore_n hX dL_reverse_15 rfl (by decide), List.forall_mem_cons.mpr ⟨np_s_iconst hX dL_reverse_16 (by decide), List.forall_mem_cons.mpr ⟨np_S.mono (op := np_ret X.2.2.1) (np_s_ret hX dL_reverse_17) (nq_ret_le hR), List.forall_mem_cons.mpr ⟨np_s_iconst hX dL_reverse_18 (by decide), List.forall_mem_cons.mpr ⟨np_S.mono (op := np_ret X.2.2.1) (np_s_ret hX dL_reverse_19) (nq_ret_le hR), fun _ h => nomatch h⟩⟩⟩⟩⟩⟩⟩⟩⟩⟩⟩⟩⟩⟩⟩⟩
abbrev sp_L_reverse : np_Sp := nq_in is_L_reverse (some .int) 1 6 400
theorem C_L_reverse : np_CW yL_reverse cL_reverse 4 (some .int) hhL_reverse 7 123 1 6 sp_L_reverse := nq_inCW 400 (by decide) (fun X Rt hX htb hR => so_L_reverse hX htb hR)
theorem dL_upgraded_0 : decode cL_upgraded 0 = .ok (.aload_n 3, 1) := by decide +kernel
theorem dL_upgraded_1 : decode cL_upgraded 1 = .ok (.iconst 0, 1) := by decide +kernel
theorem dL_upgraded_2 : decode cL_upgraded 2 = .ok (.aload_n 0, 1) := by decide +kernel
theorem dL_upgraded_3 : decode cL_upgraded 3 = .ok (.iload_n 1, 1) := by decide +kernel
theorem dL_upgraded_4 : decode cL_upgraded 4 = .ok (.iload_n 2, 1) := by decide +kernel
theorem dL_upgraded_5 : decode cL_upgraded 5 = .ok (.invokevirtual 108, 3) := by decide +kernel
theorem dL_upgraded_8 : decode cL_upgraded 8 = .ok (.i2l, 1) := by decide +kernel
theorem dL_upgraded_9 : decode cL_upgraded 9 = .ok (.lastore, 1) := by decide +kernel
theorem dL_upgraded_10 : decode cL_upgraded 10 = .ok (.goto 7, 3) := by decide +kernel
theorem dL_upgraded_13 : decode cL_upgraded 13 = .ok (.astore 4, 2) := by decide +kernel
theorem dL_upgraded_15 : decode cL_upgraded 15 = .ok (.iconst 1, 1) := by decide +kernel
theorem dL_upgraded_16 : decode cL_upgraded 16 = .ok (.ireturn, 1) := by decide +kernel
theorem dL_upgraded_17 : decode cL_upgraded 17 = .ok (.iconst 0, 1) := by decide +kernel
theorem dL_upgraded_18 : decode cL_upgraded 18 = .ok (.ireturn, 1) := by decide +kernel
def hhL_upgraded : List (Nat × Nat × Nat × Nat) := [((0 : Nat), (10 : Nat), (13 : Nat), (13 : Nat))]
theorem hdL_upgraded_5_0 : np_hd RL (tableOf hhL_upgraded) 5 0 13 := ⟨(tableOf hhL_upgraded).take 0, _, (tableOf hhL_upgraded).drop 1, rfl, (fun _ h => nomatch h), rfl, by decide, gw560, gw575, rfl⟩
theorem hdL_upgraded_5 : ∀ z ∈ ([(0, 13)] : List (Nat × Nat)), np_hd RL (tableOf hhL_upgraded) 5 z.1 z.2 := List.forall_mem_cons.mpr ⟨hdL_upgraded_5_0, fun _ h => nomatch h⟩
def is_L_upgraded (Rt : np_Rt) : List (Nat × np_Op) := [(0, np_ald 1 3), (1, np_push 1 (.int 0)), (2, np_ald 1 0), (3, np_ild 1 1), (4, np_ild 1 2), (5, nq_callVX 11 3 sp_X11_upgraded 4 1 6 1 6 [(0, 13)]), (8, np_i2l), (9, nq_last), (10, np_goto 17), (13, np_ast 2 4), (15, np_push 1 (.int 1)), (16, np_ret Rt), (17, np_push 1 (.int 0)), (18, np_ret Rt)]
set_option maxRecDepth 20000 in
theorem so_L_upgraded {X : np_Ctx} {Rt : np_Rt} (hX : np_ok RL cL_upgraded 5 7 123 1 6 .ireturn X) (htb : np_tab X = tableOf hhL_upgraded) (hR : ∀ st w ce sl, Rt st w ce sl → X.2.2.1 st w ce sl) : ∀ q ∈ is_L_upgraded Rt, np_S X q.1 q.2 :=
  List.forall_mem_cons.mpr ⟨np_s_aload_n hX dL_upgraded_0 rfl, List.forall_mem_cons.mpr ⟨np_s_iconst hX dL_upgraded_1 (by decide), List.forall_mem_cons.mpr ⟨np_s_aload_n hX dL_upgraded_2 rfl, List.forall_mem_cons.mpr ⟨np_s_iload_n hX dL_upgraded_3 rfl, List.forall_mem_cons.mpr ⟨np_s_iload_n hX dL_upgraded_4 rfl, List.forall_mem_cons.mpr ⟨np_S.mono (op := np_callVX 11 3 sp_X11_upgraded 4 1 6 1 6 [(0, 13)]) (np_s_callVX hX C_X11_upgraded dL_upgraded_5 (q := (RX11, TX11, 14)) rfl rfl gw1543 gw130 gw1540 gw1541 gw1542 ⟨by decide, by decide, by decide⟩ (by decide) (by decide) (htb.symm ▸ hdL_upgraded_5)) nq_callVX_le, List.forall_mem_cons.mpr ⟨np_s_i2l hX dL_upgraded_8, List.forall_mem_cons.mpr ⟨np_S.mono (op := np_last) (np_s_last hX dL_upgraded_9) nq_last_le, List.forall_mem_cons.mpr ⟨np_s_goto hX dL_upgraded_10 (by decide), List.forall_mem_cons.mpr ⟨np_s_astore hX dL_upgraded_13 (by decide), List.forall_mem_cons.mpr ⟨np_s_iconst hX dL_upgraded_15 (by decide), List.forall_mem_cons.mpr ⟨np_S.mono (op := np_ret X.2.2.1) (np_s_ret hX dL_upgraded_16) (nq_ret_le hR), List.forall_mem_cons.mpr ⟨np_s_iconst hX dL_upgraded_17 (by decide), List.forall_mem_cons.mpr ⟨np_S.mono (op := np_ret X.2.2.1) (np_s_ret hX dL_upgraded_18) (nq_ret_le hR), fun _ h => nomatch h⟩⟩⟩⟩⟩⟩⟩⟩⟩⟩⟩⟩⟩⟩
abbrev sp_L_upgraded : np_Sp := nq_in is_L_upgraded (some .int) 1 6 400
theorem C_L_upgraded : np_CW yL_upgraded cL_upgraded 5 (some .int) hhL_upgraded 7 123 1 6 sp_L_upgraded := nq_inCW 400 (by decide) (fun X Rt hX htb hR => so_L_upgraded hX htb hR)
theorem dL_parts_0 : decode cL_parts 0 = .ok (.aload_n 2, 1) := by decide +kernel
theorem dL_parts_1 : decode cL_parts 1 = .ok (.iconst 0, 1) := by decide +kernel
theorem dL_parts_2 : decode cL_parts 2 = .ok (.aload_n 0, 1) := by decide +kernel
theorem dL_parts_3 : decode cL_parts 3 = .ok (.iload_n 1, 1) := by decide +kernel
theorem dL_parts_4 : decode cL_parts 4 = .ok (.invokevirtual 111, 3) := by decide +kernel
theorem dL_parts_7 : decode cL_parts 7 = .ok (.i2l, 1) := by decide +kernel
theorem dL_parts_8 : decode cL_parts 8 = .ok (.lastore, 1) := by decide +kernel
theorem dL_parts_9 : decode cL_parts 9 = .ok (.goto 6, 3) := by decide +kernel
theorem dL_parts_12 : decode cL_parts 12 = .ok (.astore_n 3, 1) := by decide +kernel
theorem dL_parts_13 : decode cL_parts 13 = .ok (.iconst 1, 1) := by decide +kernel
theorem dL_parts_14 : decode cL_parts 14 = .ok (.ireturn, 1) := by decide +kernel
theorem dL_parts_15 : decode cL_parts 15 = .ok (.iconst 0, 1) := by decide +kernel
theorem dL_parts_16 : decode cL_parts 16 = .ok (.ireturn, 1) := by decide +kernel
def hhL_parts : List (Nat × Nat × Nat × Nat) := [((0 : Nat), (9 : Nat), (12 : Nat), (13 : Nat))]
theorem hdL_parts_4_0 : np_hd RL (tableOf hhL_parts) 4 0 12 := ⟨(tableOf hhL_parts).take 0, _, (tableOf hhL_parts).drop 1, rfl, (fun _ h => nomatch h), rfl, by decide, gw560, gw575, rfl⟩
theorem hdL_parts_4 : ∀ z ∈ ([(0, 12)] : List (Nat × Nat)), np_hd RL (tableOf hhL_parts) 4 z.1 z.2 := List.forall_mem_cons.mpr ⟨hdL_parts_4_0, fun _ h => nomatch h⟩
def is_L_parts (Rt : np_Rt) : List (Nat × np_Op) := [(0, np_ald 1 2), (1, np_push 1 (.int 0)), (2, np_ald 1 0), (3, np_ild 1 1), (4, nq_callVX 11 2 sp_X11_parts 3 1 6 1 6 [(0, 12)]), (7, np_i2l), (8, nq_last), (9, np_goto 15), (12, np_ast 1 3), (13, np_push 1 (.int 1)), (14, np_ret Rt), (15, np_push 1 (.int 0)), (16, np_ret Rt)]
set_option maxRecDepth 20000 in
theorem so_L_parts {X : np_Ctx} {Rt : np_Rt} (hX : np_ok RL cL_parts 4 7 122 1 6 .ireturn X) (htb : np_tab X = tableOf hhL_parts) (hR : ∀ st w ce sl, Rt st w ce sl → X.2.2.1 st w ce sl) : ∀ q ∈ is_L_parts Rt, np_S X q.1 q.2 :=
  List.forall_mem_cons.mpr ⟨np_s_aload_n hX dL_parts_0 rfl, List.forall_mem_cons.mpr ⟨np_s_iconst hX dL_parts_1 (by decide), List.forall_mem_cons.mpr ⟨np_s_aload_n hX dL_parts_2 rfl, List.forall_mem_cons.mpr ⟨np_s_iload_n hX dL_parts_3 rfl, List.forall_mem_cons.mpr ⟨np_S.mono (op := np_callVX 11 2 sp_X11_parts 3 1 6 1 6 [(0, 12)]) (np_s_callVX hX C_X11_parts dL_parts_4 (q := (RX11, TX11, 14)) rfl rfl gw1575 gw130 gw1572 gw1573 gw1574 ⟨by decide, by decide, by decide⟩ (by decide) (by decide) (htb.symm ▸ hdL_parts_4)) nq_callVX_le, List.forall_mem_cons.mpr ⟨np_s_i2l hX dL_parts_7, List.forall_mem_cons.mpr ⟨np_S.mono (op := np_last) (np_s_last hX dL_parts_8) nq_last_le, List.forall_mem_cons.mpr ⟨np_s_goto hX dL_parts_9 (by decide), List.forall_mem_cons.mpr ⟨np_s_astore_n hX dL_parts_12 rfl (by decide), List.forall_mem_cons.mpr ⟨np_s_iconst hX dL_parts_13 (by decide), List.forall_mem_cons.mpr ⟨np_S.mono (op := np_ret X.2.2.1) (np_s_ret hX dL_parts_14) (nq_ret_le hR), List.forall_mem_cons.mpr ⟨np_s_iconst hX dL_parts_15 (by decide), List.forall_mem_cons.mpr ⟨np_S.mono (op := np_ret X.2.2.1) (np_s_ret hX dL_parts_16) (nq_ret_le hR), fun _ h => nomatch h⟩⟩⟩⟩⟩⟩⟩⟩⟩⟩⟩⟩⟩
abbrev sp_L_parts : np_Sp := nq_in is_L_parts (some .int) 1 6 400
theorem C_L_parts : np_CW yL_parts cL_parts 4 (some .int) hhL_parts 7 122 1 6 sp_L_parts := nq_inCW 400 (by decide) (fun X Rt hX htb hR => so_L_parts hX htb hR)
theorem dL_compare_0 : decode cL_compare 0 = .ok (.aload_n 2, 1) := by decide +kernel
theorem dL_compare_1 : decode cL_compare 1 = .ok (.iconst 0, 1) := by decide +kernel
theorem dL_compare_2 : decode cL_compare 2 = .ok (.aload_n 0, 1) := by decide +kernel
theorem dL_compare_3 : decode cL_compare 3 = .ok (.iload_n 1, 1) := by decide +kernel
theorem dL_compare_4 : decode cL_compare 4 = .ok (.invokevirtual 114, 3) := by decide +kernel
theorem dL_compare_7 : decode cL_compare 7 = .ok (.i2l, 1) := by decide +kernel
theorem dL_compare_8 : decode cL_compare 8 = .ok (.lastore, 1) := by decide +kernel
theorem dL_compare_9 : decode cL_compare 9 = .ok (.goto 6, 3) := by decide +kernel
theorem dL_compare_12 : decode cL_compare 12 = .ok (.astore_n 3, 1) := by decide +kernel
theorem dL_compare_13 : decode cL_compare 13 = .ok (.iconst 1, 1) := by decide +kernel
theorem dL_compare_14 : decode cL_compare 14 = .ok (.ireturn, 1) := by decide +kernel
theorem dL_compare_15 : decode cL_compare 15 = .ok (.iconst 0, 1) := by decide +kernel
theorem dL_compare_16 : decode cL_compare 16 = .ok (.ireturn, 1) := by decide +kernel
def hhL_compare : List (Nat × Nat × Nat × Nat) := [((0 : Nat), (9 : Nat), (12 : Nat), (13 : Nat))]
theorem hdL_compare_4_0 : np_hd RL (tableOf hhL_compare) 4 0 12 := ⟨(tableOf hhL_compare).take 0, _, (tableOf hhL_compare).drop 1, rfl, (fun _ h => nomatch h), rfl, by decide, gw560, gw575, rfl⟩
theorem hdL_compare_4 : ∀ z ∈ ([(0, 12)] : List (Nat × Nat)), np_hd RL (tableOf hhL_compare) 4 z.1 z.2 := List.forall_mem_cons.mpr ⟨hdL_compare_4_0, fun _ h => nomatch h⟩
def is_L_compare (Rt : np_Rt) : List (Nat × np_Op) := [(0, np_ald 1 2), (1, np_push 1 (.int 0)), (2, np_ald 1 0), (3, np_ild 1 1), (4, nq_callVX 11 2 sp_X11_compare 4 1 6 1 6 [(0, 12)]), (7, np_i2l), (8, nq_last), (9, np_goto 15), (12, np_ast 1 3), (13, np_push 1 (.int 1)), (14, np_ret Rt), (15, np_push 1 (.int 0)), (16, np_ret Rt)]
set_option maxRecDepth 20000 in
theorem so_L_compare {X : np_Ctx} {Rt : np_Rt} (hX : np_ok RL cL_compare 4 7 123 1 6 .ireturn X) (htb : np_tab X = tableOf hhL_compare) (hR : ∀ st w ce sl, Rt st w ce sl → X.2.2.1 st w ce sl) : ∀ q ∈ is_L_compare Rt, np_S X q.1 q.2 :=
  List.forall_mem_cons.mpr ⟨np_s_aload_n hX dL_compare_0 rfl, List.forall_mem_cons.mpr ⟨np_s_iconst hX dL_compare_1 (by decide), List.forall_mem_cons.mpr ⟨np_s_aload_n hX dL_compare_2 rfl, List.forall_mem_cons.mpr ⟨np_s_iload_n hX dL_compare_3 rfl, List.forall_mem_cons.mpr ⟨np_S.mono (op := np_callVX 11 2 sp_X11_compare 4 1 6 1 6 [(0, 12)]) (np_s_callVX hX C_X11_compare dL_compare_4 (q := (RX11, TX11, 14)) rfl rfl gw1582 gw130 gw1579 gw1580 gw1581 ⟨by decide, by decide, by decide⟩ (by decide) (by decide) (htb.symm ▸ hdL_compare_4)) nq_callVX_le, List.forall_mem_cons.mpr ⟨np_s_i2l hX dL_compare_7, List.forall_mem_cons.mpr ⟨np_S.mono (op := np_last) (np_s_last hX dL_compare_8) nq_last_le, List.forall_mem_cons.mpr ⟨np_s_goto hX dL_compare_9 (by decide), List.forall_mem_cons.mpr ⟨np_s_astore_n hX dL_compare_12 rfl (by decide), List.forall_mem_cons.mpr ⟨np_s_iconst hX dL_compare_13 (by decide), List.forall_mem_cons.mpr ⟨np_S.mono (op := np_ret X.2.2.1) (np_s_ret hX dL_compare_14) (nq_ret_le hR), List.forall_mem_cons.mpr ⟨np_s_iconst hX dL_compare_15 (by decide), List.forall_mem_cons.mpr ⟨np_S.mono (op := np_ret X.2.2.1) (np_s_ret hX dL_compare_16) (nq_ret_le hR), fun _ h => nomatch h⟩⟩⟩⟩⟩⟩⟩⟩⟩⟩⟩⟩⟩
abbrev sp_L_compare : np_Sp := nq_in is_L_compare (some .int) 1 6 400
theorem C_L_compare : np_CW yL_compare cL_compare 4 (some .int) hhL_compare 7 123 1 6 sp_L_compare := nq_inCW 400 (by decide) (fun X Rt hX htb hR => so_L_compare hX htb hR)
theorem dL_find_0 : decode cL_find 0 = .ok (.aload 5, 2) := by decide +kernel
theorem dL_find_2 : decode cL_find 2 = .ok (.iconst 0, 1) := by decide +kernel
theorem dL_find_3 : decode cL_find 3 = .ok (.aload_n 0, 1) := by decide +kernel
theorem dL_find_4 : decode cL_find 4 = .ok (.iload_n 1, 1) := by decide +kernel
theorem dL_find_5 : decode cL_find 5 = .ok (.iload_n 2, 1) := by decide +kernel
theorem dL_find_6 : decode cL_find 6 = .ok (.iload_n 3, 1) := by decide +kernel
theorem dL_find_7 : decode cL_find 7 = .ok (.iload 4, 2) := by decide +kernel
theorem dL_find_9 : decode cL_find 9 = .ok (.invokevirtual 117, 3) := by decide +kernel
theorem dL_find_12 : decode cL_find 12 = .ok (.i2l, 1) := by decide +kernel
theorem dL_find_13 : decode cL_find 13 = .ok (.lastore, 1) := by decide +kernel
theorem dL_find_14 : decode cL_find 14 = .ok (.goto 7, 3) := by decide +kernel
theorem dL_find_17 : decode cL_find 17 = .ok (.astore 6, 2) := by decide +kernel
theorem dL_find_19 : decode cL_find 19 = .ok (.iconst 1, 1) := by decide +kernel
theorem dL_find_20 : decode cL_find 20 = .ok (.ireturn, 1) := by decide +kernel
theorem dL_find_21 : decode cL_find 21 = .ok (.iconst 0, 1) := by decide +kernel
theorem dL_find_22 : decode cL_find 22 = .ok (.ireturn, 1) := by decide +kernel
def hhL_find : List (Nat × Nat × Nat × Nat) := [((0 : Nat), (14 : Nat), (17 : Nat), (13 : Nat))]
theorem hdL_find_9_0 : np_hd RL (tableOf hhL_find) 9 0 17 := ⟨(tableOf hhL_find).take 0, _, (tableOf hhL_find).drop 1, rfl, (fun _ h => nomatch h), rfl, by decide, gw560, gw575, rfl⟩
theorem hdL_find_9 : ∀ z ∈ ([(0, 17)] : List (Nat × Nat)), np_hd RL (tableOf hhL_find) 9 z.1 z.2 := List.forall_mem_cons.mpr ⟨hdL_find_9_0, fun _ h => nomatch h⟩
def is_L_find (Rt : np_Rt) : List (Nat × np_Op) := [(0, np_ald 2 5), (2, np_push 1 (.int 0)), (3, np_ald 1 0), (4, np_ild 1 1), (5, np_ild 1 2), (6, np_ild 1 3), (7, np_ild 2 4), (9, nq_callVX 11 5 sp_X11_find 6 1 6 1 6 [(0, 17)]), (12, np_i2l), (13, nq_last), (14, np_goto 21), (17, np_ast 2 6), (19, np_push 1 (.int 1)), (20, np_ret Rt), (21, np_push 1 (.int 0)), (22, np_ret Rt)]
set_option maxRecDepth 20000 in
theorem so_L_find {X : np_Ctx} {Rt : np_Rt} (hX : np_ok RL cL_find 7 7 125 1 6 .ireturn X) (htb : np_tab X = tableOf hhL_find) (hR : ∀ st w ce sl, Rt st w ce sl → X.2.2.1 st w ce sl) : ∀ q ∈ is_L_find Rt, np_S X q.1 q.2 :=
  List.forall_mem_cons.mpr ⟨np_s_aload hX dL_find_0, List.forall_mem_cons.mpr ⟨np_s_iconst hX dL_find_2 (by decide), List.forall_mem_cons.mpr ⟨np_s_aload_n hX dL_find_3 rfl, List.forall_mem_cons.mpr ⟨np_s_iload_n hX dL_find_4 rfl, List.forall_mem_cons.mpr ⟨np_s_iload_n hX dL_find_5 rfl, List.forall_mem_cons.mpr ⟨np_s_iload_n hX dL_find_6 rfl, List.forall_mem_cons.mpr ⟨np_s_iload hX dL_find_7, List.forall_mem_cons.mpr ⟨np_S.mono (op := np_callVX 11 5 sp_X11_find 6 1 6 1 6 [(0, 17)]) (np_s_callVX hX C_X11_find dL_find_9 (q := (RX11, TX11, 14)) rfl rfl gw1609 gw130 gw1606 gw1607 gw1608 ⟨by decide, by decide, by decide⟩ (by decide) (by decide) (htb.symm ▸ hdL_find_9)) nq_callVX_le, List.forall_mem_cons.mpr ⟨np_s_i2l hX dL_find_12, List.forall_mem_cons.mpr ⟨np_S.mono (op := np_last) (np_s_last hX dL_find_13) nq_last_le, List.forall_mem_cons.mpr ⟨np_s_goto hX dL_find_14 (by decide), List.forall_mem_cons.mpr ⟨np_s_astore hX dL_find_17 (by decide), List.forall_mem_cons.mpr ⟨np_s_iconst hX dL_find_19 (by decide), List.forall_mem_cons.mpr ⟨np_S.mono (op := np_ret X.2.2.1) (np_s_ret hX dL_find_20) (nq_ret_le hR), List.forall_mem_cons.mpr ⟨np_s_iconst hX dL_find_21 (by decide), List.forall_mem_cons.mpr ⟨np_S.mono (op := np_ret X.2.2.1) (np_s_ret hX dL_find_22) (nq_ret_le hR), fun _ h => nomatch h⟩⟩⟩⟩⟩⟩⟩⟩⟩⟩⟩⟩⟩⟩⟩⟩
abbrev sp_L_find : np_Sp := nq_in is_L_find (some .int) 1 6 400
theorem C_L_find : np_CW yL_find cL_find 7 (some .int) hhL_find 7 125 1 6 sp_L_find := nq_inCW 400 (by decide) (fun X Rt hX htb hR => so_L_find hX htb hR)
theorem dL_findAnew_0 : decode cL_findAnew 0 = .ok (.aload 5, 2) := by decide +kernel
theorem dL_findAnew_2 : decode cL_findAnew 2 = .ok (.iconst 0, 1) := by decide +kernel
theorem dL_findAnew_3 : decode cL_findAnew 3 = .ok (.aload_n 0, 1) := by decide +kernel
theorem dL_findAnew_4 : decode cL_findAnew 4 = .ok (.iload_n 1, 1) := by decide +kernel
theorem dL_findAnew_5 : decode cL_findAnew 5 = .ok (.iload_n 2, 1) := by decide +kernel
theorem dL_findAnew_6 : decode cL_findAnew 6 = .ok (.iload_n 3, 1) := by decide +kernel
theorem dL_findAnew_7 : decode cL_findAnew 7 = .ok (.iload 4, 2) := by decide +kernel
theorem dL_findAnew_9 : decode cL_findAnew 9 = .ok (.invokevirtual 120, 3) := by decide +kernel
theorem dL_findAnew_12 : decode cL_findAnew 12 = .ok (.i2l, 1) := by decide +kernel
theorem dL_findAnew_13 : decode cL_findAnew 13 = .ok (.lastore, 1) := by decide +kernel
theorem dL_findAnew_14 : decode cL_findAnew 14 = .ok (.goto 7, 3) := by decide +kernel
theorem dL_findAnew_17 : decode cL_findAnew 17 = .ok (.astore 6, 2) := by decide +kernel
theorem dL_findAnew_19 : decode cL_findAnew 19 = .ok (.iconst 1, 1) := by decide +kernel
theorem dL_findAnew_20 : decode cL_findAnew 20 = .ok (.ireturn, 1) := by decide +kernel
theorem dL_findAnew_21 : decode cL_findAnew 21 = .ok (.iconst 0, 1) := by decide +kernel
theorem dL_findAnew_22 : decode cL_findAnew 22 = .ok (.ireturn, 1) := by decide +kernel
def hhL_findAnew : List (Nat × Nat × Nat × Nat) := [((0 : Nat), (14 : Nat), (17 : Nat), (13 : Nat))]
theorem hdL_findAnew_9_0 : np_hd RL (tableOf hhL_findAnew) 9 0 17 := ⟨(tableOf hhL_findAnew).take 0, _, (tableOf hhL_findAnew).drop 1, rfl, (fun _ h => nomatch h), rfl, by decide, gw560, gw575, rfl⟩
theorem hdL_findAnew_9 : ∀ z ∈ ([(0, 17)] : List (Nat × Nat)), np_hd RL (tableOf hhL_findAnew) 9 z.1 z.2 := List.forall_mem_cons.mpr ⟨hdL_findAnew_9_0, fun _ h => nomatch h⟩
def is_L_findAnew (Rt : np_Rt) : List (Nat × np_Op) := [(0, np_ald 2 5), (2, np_push 1 (.int 0)), (3, np_ald 1 0), (4, np_ild 1 1), (5, np_ild 1 2), (6, np_ild 1 3), (7, np_ild 2 4), (9, nq_callVX 11 5 sp_X11_findAnew 6 1 6 1 6 [(0, 17)]), (12, np_i2l), (13, nq_last), (14, np_goto 21), (17, np_ast 2 6), (19, np_push 1 (.int 1)), (20, np_ret Rt), (21, np_push 1 (.int 0)), (22, np_ret Rt)]
set_option maxRecDepth 20000 in
theorem so_L_findAnew {X : np_Ctx} {Rt : np_Rt} (hX : np_ok RL cL_findAnew 7 7 125 1 6 .ireturn X) (htb : np_tab X = tableOf hhL_findAnew) (hR : ∀ st w ce sl, Rt st w ce sl → X.2.2.1 st w ce sl) : ∀ q ∈ is_L_findAnew Rt, np_S X q.1 q.2 :=
  List.forall_mem_cons.mpr ⟨np_s_aload hX dL_findAnew_0, List.forall_mem_cons.mpr ⟨np_s_iconst hX dL_findAnew_2 (by decide), List.forall_mem_cons.mpr ⟨np_s_aload_n hX dL_findAnew_3 rfl, List.forall_mem_cons.mpr ⟨np_s_iload_n hX dL_findAnew_4 rfl, List.forall_mem_cons.mpr ⟨np_s_iload_n hX dL_findAnew_5 rfl, List.forall_mem_cons.mpr ⟨np_s_iload_n hX dL_findAnew_6 rfl, List.forall_mem_cons.mpr ⟨np_s_iload hX dL_findAnew_7, List.forall_mem_cons.mpr ⟨np_S.mono (op := np_callVX 11 5 sp_X11_findAnew 6 1 6 1 6 [(0, 17)]) (np_s_callVX hX C_X11_findAnew dL_findAnew_9 (q := (RX11, TX11, 14)) rfl rfl gw1621 gw130 gw1618 gw1619 gw1620 ⟨by decide, by decide, by decide⟩ (by decide) (by decide) (htb.symm ▸ hdL_findAnew_9)) nq_callVX_le, List.forall_mem_cons.mpr ⟨np_s_i2l hX dL_findAnew_12, List.forall_mem_cons.mpr ⟨np_S.mono (op := np_last) (np_s_last hX dL_findAnew_13) nq_last_le, List.forall_mem_cons.mpr ⟨np_s_goto hX dL_findAnew_14 (by decide), List.forall_mem_cons.mpr ⟨np_s_astore hX dL_findAnew_17 (by decide), List.forall_mem_cons.mpr ⟨np_s_iconst hX dL_findAnew_19 (by decide), List.forall_mem_cons.mpr ⟨np_S.mono (op := np_ret X.2.2.1) (np_s_ret hX dL_findAnew_20) (nq_ret_le hR), List.forall_mem_cons.mpr ⟨np_s_iconst hX dL_findAnew_21 (by decide), List.forall_mem_cons.mpr ⟨np_S.mono (op := np_ret X.2.2.1) (np_s_ret hX dL_findAnew_22) (nq_ret_le hR), fun _ h => nomatch h⟩⟩⟩⟩⟩⟩⟩⟩⟩⟩⟩⟩⟩⟩⟩⟩
abbrev sp_L_findAnew : np_Sp := nq_in is_L_findAnew (some .int) 1 6 400
theorem C_L_findAnew : np_CW yL_findAnew cL_findAnew 7 (some .int) hhL_findAnew 7 125 1 6 sp_L_findAnew := nq_inCW 400 (by decide) (fun X Rt hX htb hR => so_L_findAnew hX htb hR)
