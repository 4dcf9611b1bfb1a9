theorem gw62 : (Jvm.Cond.initialized "NotationPressLaw") ∈ np_gw := np_gwi 62 (by decide +kernel) rfl
theorem gw488 : (Jvm.Cond.constant "NotationPressLaw" (7 : Nat) (1003481557 : Int32)) ∈ np_gw := np_gwi 488 (by decide +kernel) rfl
theorem gw489 : (Jvm.Cond.constant "NotationPressLaw" (8 : Nat) (698855923 : Int32)) ∈ np_gw := np_gwi 489 (by decide +kernel) rfl
theorem gw490 : (Jvm.Cond.constant "NotationPressLaw" (9 : Nat) (2147483647 : Int32)) ∈ np_gw := np_gwi 490 (by decide +kernel) rfl
theorem gw494 : (Jvm.Cond.methodLink "NotationPressLaw" (58 : Nat) ({ cls := "NotationPress", name := "dropItems", desc := "()I" } : Jvm.MethodName)) ∈ np_gw := np_gwi 494 (by decide +kernel) rfl
theorem gw495 : (Jvm.Cond.instanceMethod ({ cls := "NotationPress", name := "dropItems", desc := "()I" } : Jvm.MethodName)) ∈ np_gw := np_gwi 495 (by decide +kernel) rfl
theorem gw496 : (Jvm.Cond.selects "NotationPress" ({ cls := "NotationPress", name := "dropItems", desc := "()I" } : Jvm.MethodName) ({ cls := "NotationPress", name := "dropItems", desc := "()I" } : Jvm.MethodName)) ∈ np_gw := np_gwi 496 (by decide +kernel) rfl
theorem gw497 : (Jvm.Cond.code ({ cls := "NotationPress", name := "dropItems", desc := "()I" } : Jvm.MethodName) prog_1_method_3_code (2 : Nat) (Option.some Jvm.ClassFile.FieldType.int)) ∈ np_gw := np_gwi 497 (by decide +kernel) rfl
theorem gw502 : (Jvm.Cond.methodLink "NotationPressLaw" (62 : Nat) ({ cls := "NotationPressLaw", name := "items", desc := "(LNotationPress;IIII)I" } : Jvm.MethodName)) ∈ np_gw := np_gwi 502 (by decide +kernel) rfl
theorem gw503 : (Jvm.Cond.static ({ cls := "NotationPressLaw", name := "items", desc := "(LNotationPress;IIII)I" } : Jvm.MethodName)) ∈ np_gw := np_gwi 503 (by decide +kernel) rfl
theorem gw504 : (Jvm.Cond.codeWith ({ cls := "NotationPressLaw", name := "items", desc := "(LNotationPress;IIII)I" } : Jvm.MethodName) method_6_code (6 : Nat) (Option.some Jvm.ClassFile.FieldType.int) [((0 : Nat), (9 : Nat), (10 : Nat), (46 : Nat))]) ∈ np_gw := np_gwi 504 (by decide +kernel) rfl
theorem gw505 : (Jvm.Cond.classLink "NotationPressLaw" (46 : Nat) "java/lang/IllegalArgumentException") ∈ np_gw := np_gwi 505 (by decide +kernel) rfl
theorem gw506 : (Jvm.Cond.methodLink "NotationPressLaw" (43 : Nat) ({ cls := "NotationPress", name := "item", desc := "(IIII)I" } : Jvm.MethodName)) ∈ np_gw := np_gwi 506 (by decide +kernel) rfl
theorem gw507 : (Jvm.Cond.instanceMethod ({ cls := "NotationPress", name := "item", desc := "(IIII)I" } : Jvm.MethodName)) ∈ np_gw := np_gwi 507 (by decide +kernel) rfl
theorem gw508 : (Jvm.Cond.selects "NotationPress" ({ cls := "NotationPress", name := "item", desc := "(IIII)I" } : Jvm.MethodName) ({ cls := "NotationPress", name := "item", desc := "(IIII)I" } : Jvm.MethodName)) ∈ np_gw := np_gwi 508 (by decide +kernel) rfl
theorem gw509 : (Jvm.Cond.code ({ cls := "NotationPress", name := "item", desc := "(IIII)I" } : Jvm.MethodName) prog_1_method_2_code (5 : Nat) (Option.some Jvm.ClassFile.FieldType.int)) ∈ np_gw := np_gwi 509 (by decide +kernel) rfl
theorem gw518 : (Jvm.Cond.castable "java/lang/IndexOutOfBoundsException" "java/lang/IndexOutOfBoundsException") ∈ np_nw := np_nwi 518 (by decide +kernel) rfl
theorem gw592 : (Jvm.Cond.castable "java/lang/IllegalArgumentException" "java/lang/IllegalArgumentException") ∈ np_nw := np_nwi 592 (by decide +kernel) rfl
theorem gw612 : (Jvm.Cond.castable "java/lang/IllegalStateException" "java/lang/IllegalStateException") ∈ np_nw := np_nwi 612 (by decide +kernel) rfl
theorem gw633 : (Jvm.Cond.constant "NotationPressLaw" (48 : Nat) (-70009 : Int32)) ∈ np_gw := np_gwi 633 (by decide +kernel) rfl
theorem gw634 : (Jvm.Cond.methodLink "NotationPressLaw" (65 : Nat) ({ cls := "NotationPress", name := "description", desc := "()I" } : Jvm.MethodName)) ∈ np_gw := np_gwi 634 (by decide +kernel) rfl
theorem gw635 : (Jvm.Cond.instanceMethod ({ cls := "NotationPress", name := "description", desc := "()I" } : Jvm.MethodName)) ∈ np_gw := np_gwi 635 (by decide +kernel) rfl
theorem gw636 : (Jvm.Cond.selects "NotationPress" ({ cls := "NotationPress", name := "description", desc := "()I" } : Jvm.MethodName) ({ cls := "NotationPress", name := "description", desc := "()I" } : Jvm.MethodName)) ∈ np_gw := np_gwi 636 (by decide +kernel) rfl
theorem gw637 : (Jvm.Cond.code ({ cls := "NotationPress", name := "description", desc := "()I" } : Jvm.MethodName) prog_1_method_4_code (2 : Nat) (Option.some Jvm.ClassFile.FieldType.int)) ∈ np_gw := np_gwi 637 (by decide +kernel) rfl
theorem gw692 : (Jvm.Cond.methodLink "NotationPressLaw" (68 : Nat) ({ cls := "NotationPress", name := "sure", desc := "(I)I" } : Jvm.MethodName)) ∈ np_gw := np_gwi 692 (by decide +kernel) rfl
theorem gw693 : (Jvm.Cond.instanceMethod ({ cls := "NotationPress", name := "sure", desc := "(I)I" } : Jvm.MethodName)) ∈ np_gw := np_gwi 693 (by decide +kernel) rfl
theorem gw694 : (Jvm.Cond.selects "NotationPress" ({ cls := "NotationPress", name := "sure", desc := "(I)I" } : Jvm.MethodName) ({ cls := "NotationPress", name := "sure", desc := "(I)I" } : Jvm.MethodName)) ∈ np_gw := np_gwi 694 (by decide +kernel) rfl
theorem gw695 : (Jvm.Cond.code ({ cls := "NotationPress", name := "sure", desc := "(I)I" } : Jvm.MethodName) prog_1_method_5_code (3 : Nat) (Option.some Jvm.ClassFile.FieldType.int)) ∈ np_gw := np_gwi 695 (by decide +kernel) rfl
theorem gw711 : (Jvm.Cond.constant "NotationPressLaw" (93 : Nat) (1000001 : Int32)) ∈ np_gw := np_gwi 711 (by decide +kernel) rfl
theorem gw712 : (Jvm.Cond.methodLink "NotationPressLaw" (94 : Nat) ({ cls := "NotationPressLaw", name := "notes", desc := "(LNotationPress;[I)V" } : Jvm.MethodName)) ∈ np_gw := np_gwi 712 (by decide +kernel) rfl
theorem gw713 : (Jvm.Cond.static ({ cls := "NotationPressLaw", name := "notes", desc := "(LNotationPress;[I)V" } : Jvm.MethodName)) ∈ np_gw := np_gwi 713 (by decide +kernel) rfl
theorem gw714 : (Jvm.Cond.code ({ cls := "NotationPressLaw", name := "notes", desc := "(LNotationPress;[I)V" } : Jvm.MethodName) method_7_code (3 : Nat) (Option.none : Option Jvm.ClassFile.FieldType)) ∈ np_gw := np_gwi 714 (by decide +kernel) rfl
theorem gw715 : (Jvm.Cond.methodLink "NotationPressLaw" (49 : Nat) ({ cls := "NotationPress", name := "get", desc := "(II)I" } : Jvm.MethodName)) ∈ np_gw := np_gwi 715 (by decide +kernel) rfl
theorem gw716 : (Jvm.Cond.instanceMethod ({ cls := "NotationPress", name := "get", desc := "(II)I" } : Jvm.MethodName)) ∈ np_gw := np_gwi 716 (by decide +kernel) rfl
theorem gw717 : (Jvm.Cond.selects "NotationPress" ({ cls := "NotationPress", name := "get", desc := "(II)I" } : Jvm.MethodName) ({ cls := "NotationPress", name := "get", desc := "(II)I" } : Jvm.MethodName)) ∈ np_gw := np_gwi 717 (by decide +kernel) rfl
theorem gw718 : (Jvm.Cond.code ({ cls := "NotationPress", name := "get", desc := "(II)I" } : Jvm.MethodName) prog_1_method_8_code (3 : Nat) (Option.some Jvm.ClassFile.FieldType.int)) ∈ np_gw := np_gwi 718 (by decide +kernel) rfl
theorem gw727 : (Jvm.Cond.methodLink "NotationPressLaw" (98 : Nat) ({ cls := "NotationPress", name := "sample", desc := "(II)Z" } : Jvm.MethodName)) ∈ np_gw := np_gwi 727 (by decide +kernel) rfl
theorem gw728 : (Jvm.Cond.instanceMethod ({ cls := "NotationPress", name := "sample", desc := "(II)Z" } : Jvm.MethodName)) ∈ np_gw := np_gwi 728 (by decide +kernel) rfl
theorem gw729 : (Jvm.Cond.selects "NotationPress" ({ cls := "NotationPress", name := "sample", desc := "(II)Z" } : Jvm.MethodName) ({ cls := "NotationPress", name := "sample", desc := "(II)Z" } : Jvm.MethodName)) ∈ np_gw := np_gwi 729 (by decide +kernel) rfl
theorem gw730 : (Jvm.Cond.code ({ cls := "NotationPress", name := "sample", desc := "(II)Z" } : Jvm.MethodName) prog_1_method_10_code (5 : Nat) (Option.some Jvm.ClassFile.FieldType.boolean)) ∈ np_gw := np_gwi 730 (by decide +kernel) rfl
theorem gw918 : (Jvm.Cond.methodLink "NotationPressLaw" (89 : Nat) ({ cls := "NotationPressLaw", name := "isNoted", desc := "(LNotationPress;[I)Z" } : Jvm.MethodName)) ∈ np_gw := np_gwi 918 (by decide +kernel) rfl
theorem gw919 : (Jvm.Cond.static ({ cls := "NotationPressLaw", name := "isNoted", desc := "(LNotationPress;[I)Z" } : Jvm.MethodName)) ∈ np_gw := np_gwi 919 (by decide +kernel) rfl
theorem gw920 : (Jvm.Cond.code ({ cls := "NotationPressLaw", name := "isNoted", desc := "(LNotationPress;[I)Z" } : Jvm.MethodName) method_8_code (4 : Nat) (Option.some Jvm.ClassFile.FieldType.boolean)) ∈ np_gw := np_gwi 920 (by decide +kernel) rfl
theorem gw921 : (Jvm.Cond.methodLink "NotationPressLaw" (102 : Nat) ({ cls := "NotationPress", name := "message", desc := "(I)I" } : Jvm.MethodName)) ∈ np_gw := np_gwi 921 (by decide +kernel) rfl
theorem gw922 : (Jvm.Cond.instanceMethod ({ cls := "NotationPress", name := "message", desc := "(I)I" } : Jvm.MethodName)) ∈ np_gw := np_gwi 922 (by decide +kernel) rfl
theorem gw923 : (Jvm.Cond.selects "NotationPress" ({ cls := "NotationPress", name := "message", desc := "(I)I" } : Jvm.MethodName) ({ cls := "NotationPress", name := "message", desc := "(I)I" } : Jvm.MethodName)) ∈ np_gw := np_gwi 923 (by decide +kernel) rfl
theorem gw924 : (Jvm.Cond.code ({ cls := "NotationPress", name := "message", desc := "(I)I" } : Jvm.MethodName) prog_1_method_9_code (3 : Nat) (Option.some Jvm.ClassFile.FieldType.int)) ∈ np_gw := np_gwi 924 (by decide +kernel) rfl
theorem gw926 : (Jvm.Cond.methodLink "NotationPressLaw" (105 : Nat) ({ cls := "NotationPressLaw", name := "units", desc := "(LNotationPress;I)I" } : Jvm.MethodName)) ∈ np_gw := np_gwi 926 (by decide +kernel) rfl
theorem gw927 : (Jvm.Cond.static ({ cls := "NotationPressLaw", name := "units", desc := "(LNotationPress;I)I" } : Jvm.MethodName)) ∈ np_gw := np_gwi 927 (by decide +kernel) rfl
theorem gw928 : (Jvm.Cond.code ({ cls := "NotationPressLaw", name := "units", desc := "(LNotationPress;I)I" } : Jvm.MethodName) method_9_code (3 : Nat) (Option.some Jvm.ClassFile.FieldType.int)) ∈ np_gw := np_gwi 928 (by decide +kernel) rfl
theorem gw929 : (Jvm.Cond.methodLink "NotationPressLaw" (52 : Nat) ({ cls := "NotationPressLaw", name := "asks", desc := "(LNotationPress;IIII)I" } : Jvm.MethodName)) ∈ np_gw := np_gwi 929 (by decide +kernel) rfl
theorem gw930 : (Jvm.Cond.static ({ cls := "NotationPressLaw", name := "asks", desc := "(LNotationPress;IIII)I" } : Jvm.MethodName)) ∈ np_gw := np_gwi 930 (by decide +kernel) rfl
theorem gw931 : (Jvm.Cond.codeWith ({ cls := "NotationPressLaw", name := "asks", desc := "(LNotationPress;IIII)I" } : Jvm.MethodName) method_4_code (6 : Nat) (Option.some Jvm.ClassFile.FieldType.int) [((0 : Nat), (91 : Nat), (92 : Nat), (37 : Nat)), ((0 : Nat), (91 : Nat), (97 : Nat), (40 : Nat))]) ∈ np_gw := np_gwi 931 (by decide +kernel) rfl
theorem gw932 : (Jvm.Cond.classLink "NotationPressLaw" (37 : Nat) "java/lang/IndexOutOfBoundsException") ∈ np_gw := np_gwi 932 (by decide +kernel) rfl
theorem gw933 : (Jvm.Cond.classLink "NotationPressLaw" (40 : Nat) "java/lang/IllegalStateException") ∈ np_gw := np_gwi 933 (by decide +kernel) rfl
theorem gw934 : (Jvm.Cond.methodLink "NotationPressLaw" (10 : Nat) ({ cls := "NotationPress", name := "print", desc := "(II)I" } : Jvm.MethodName)) ∈ np_gw := np_gwi 934 (by decide +kernel) rfl
theorem gw935 : (Jvm.Cond.instanceMethod ({ cls := "NotationPress", name := "print", desc := "(II)I" } : Jvm.MethodName)) ∈ np_gw := np_gwi 935 (by decide +kernel) rfl
theorem gw936 : (Jvm.Cond.selects "NotationPress" ({ cls := "NotationPress", name := "print", desc := "(II)I" } : Jvm.MethodName) ({ cls := "NotationPress", name := "print", desc := "(II)I" } : Jvm.MethodName)) ∈ np_gw := np_gwi 936 (by decide +kernel) rfl
theorem gw937 : (Jvm.Cond.code ({ cls := "NotationPress", name := "print", desc := "(II)I" } : Jvm.MethodName) prog_1_method_12_code (7 : Nat) (Option.some Jvm.ClassFile.FieldType.int)) ∈ np_gw := np_gwi 937 (by decide +kernel) rfl
theorem gw962 : (Jvm.Cond.methodLink "NotationPressLaw" (16 : Nat) ({ cls := "NotationPress", name := "type", desc := "(II)I" } : Jvm.MethodName)) ∈ np_gw := np_gwi 962 (by decide +kernel) rfl
theorem gw963 : (Jvm.Cond.instanceMethod ({ cls := "NotationPress", name := "type", desc := "(II)I" } : Jvm.MethodName)) ∈ np_gw := np_gwi 963 (by decide +kernel) rfl
theorem gw964 : (Jvm.Cond.selects "NotationPress" ({ cls := "NotationPress", name := "type", desc := "(II)I" } : Jvm.MethodName) ({ cls := "NotationPress", name := "type", desc := "(II)I" } : Jvm.MethodName)) ∈ np_gw := np_gwi 964 (by decide +kernel) rfl
theorem gw965 : (Jvm.Cond.code ({ cls := "NotationPress", name := "type", desc := "(II)I" } : Jvm.MethodName) prog_1_method_11_code (6 : Nat) (Option.some Jvm.ClassFile.FieldType.int)) ∈ np_gw := np_gwi 965 (by decide +kernel) rfl
theorem gw970 : (Jvm.Cond.methodLink "NotationPressLaw" (19 : Nat) ({ cls := "NotationPress", name := "step", desc := "(I)I" } : Jvm.MethodName)) ∈ np_gw := np_gwi 970 (by decide +kernel) rfl
theorem gw971 : (Jvm.Cond.instanceMethod ({ cls := "NotationPress", name := "step", desc := "(I)I" } : Jvm.MethodName)) ∈ np_gw := np_gwi 971 (by decide +kernel) rfl
theorem gw972 : (Jvm.Cond.selects "NotationPress" ({ cls := "NotationPress", name := "step", desc := "(I)I" } : Jvm.MethodName) ({ cls := "NotationPress", name := "step", desc := "(I)I" } : Jvm.MethodName)) ∈ np_gw := np_gwi 972 (by decide +kernel) rfl
theorem gw973 : (Jvm.Cond.code ({ cls := "NotationPress", name := "step", desc := "(I)I" } : Jvm.MethodName) prog_1_method_19_code (7 : Nat) (Option.some Jvm.ClassFile.FieldType.int)) ∈ np_gw := np_gwi 973 (by decide +kernel) rfl
theorem gw1131 : (Jvm.Cond.methodLink "NotationPressLaw" (23 : Nat) ({ cls := "NotationPress", name := "read", desc := "(IIII)I" } : Jvm.MethodName)) ∈ np_gw := np_gwi 1131 (by decide +kernel) rfl
theorem gw1132 : (Jvm.Cond.instanceMethod ({ cls := "NotationPress", name := "read", desc := "(IIII)I" } : Jvm.MethodName)) ∈ np_gw := np_gwi 1132 (by decide +kernel) rfl
theorem gw1133 : (Jvm.Cond.selects "NotationPress" ({ cls := "NotationPress", name := "read", desc := "(IIII)I" } : Jvm.MethodName) ({ cls := "NotationPress", name := "read", desc := "(IIII)I" } : Jvm.MethodName)) ∈ np_gw := np_gwi 1133 (by decide +kernel) rfl
theorem gw1134 : (Jvm.Cond.code ({ cls := "NotationPress", name := "read", desc := "(IIII)I" } : Jvm.MethodName) prog_1_method_17_code (9 : Nat) (Option.some Jvm.ClassFile.FieldType.int)) ∈ np_gw := np_gwi 1134 (by decide +kernel) rfl
theorem gw1141 : (Jvm.Cond.methodLink "NotationPressLaw" (27 : Nat) ({ cls := "NotationPress", name := "skipped", desc := "(II)I" } : Jvm.MethodName)) ∈ np_gw := np_gwi 1141 (by decide +kernel) rfl
theorem gw1142 : (Jvm.Cond.instanceMethod ({ cls := "NotationPress", name := "skipped", desc := "(II)I" } : Jvm.MethodName)) ∈ np_gw := np_gwi 1142 (by decide +kernel) rfl
theorem gw1143 : (Jvm.Cond.selects "NotationPress" ({ cls := "NotationPress", name := "skipped", desc := "(II)I" } : Jvm.MethodName) ({ cls := "NotationPress", name := "skipped", desc := "(II)I" } : Jvm.MethodName)) ∈ np_gw := np_gwi 1143 (by decide +kernel) rfl
theorem gw1144 : (Jvm.Cond.code ({ cls := "NotationPress", name := "skipped", desc := "(II)I" } : Jvm.MethodName) prog_1_method_21_code (4 : Nat) (Option.some Jvm.ClassFile.FieldType.int)) ∈ np_gw := np_gwi 1144 (by decide +kernel) rfl
theorem gw1146 : (Jvm.Cond.methodLink "NotationPressLaw" (30 : Nat) ({ cls := "NotationPress", name := "derived", desc := "(II)I" } : Jvm.MethodName)) ∈ np_gw := np_gwi 1146 (by decide +kernel) rfl
theorem gw1147 : (Jvm.Cond.instanceMethod ({ cls := "NotationPress", name := "derived", desc := "(II)I" } : Jvm.MethodName)) ∈ np_gw := np_gwi 1147 (by decide +kernel) rfl
theorem gw1148 : (Jvm.Cond.selects "NotationPress" ({ cls := "NotationPress", name := "derived", desc := "(II)I" } : Jvm.MethodName) ({ cls := "NotationPress", name := "derived", desc := "(II)I" } : Jvm.MethodName)) ∈ np_gw := np_gwi 1148 (by decide +kernel) rfl
theorem gw1149 : (Jvm.Cond.code ({ cls := "NotationPress", name := "derived", desc := "(II)I" } : Jvm.MethodName) prog_1_method_25_code (4 : Nat) (Option.some Jvm.ClassFile.FieldType.int)) ∈ np_gw := np_gwi 1149 (by decide +kernel) rfl
theorem gw1178 : (Jvm.Cond.methodLink "NotationPressLaw" (33 : Nat) ({ cls := "NotationPress", name := "unit", desc := "(II)C" } : Jvm.MethodName)) ∈ np_gw := np_gwi 1178 (by decide +kernel) rfl
theorem gw1179 : (Jvm.Cond.instanceMethod ({ cls := "NotationPress", name := "unit", desc := "(II)C" } : Jvm.MethodName)) ∈ np_gw := np_gwi 1179 (by decide +kernel) rfl
theorem gw1180 : (Jvm.Cond.selects "NotationPress" ({ cls := "NotationPress", name := "unit", desc := "(II)C" } : Jvm.MethodName) ({ cls := "NotationPress", name := "unit", desc := "(II)C" } : Jvm.MethodName)) ∈ np_gw := np_gwi 1180 (by decide +kernel) rfl
theorem gw1181 : (Jvm.Cond.code ({ cls := "NotationPress", name := "unit", desc := "(II)C" } : Jvm.MethodName) prog_1_method_14_code (5 : Nat) (Option.some Jvm.ClassFile.FieldType.char)) ∈ np_gw := np_gwi 1181 (by decide +kernel) rfl
theorem gw1184 : (Jvm.Cond.constant "NotationPressLaw" (39 : Nat) (-70007 : Int32)) ∈ np_gw := np_gwi 1184 (by decide +kernel) rfl
theorem gw1185 : (Jvm.Cond.constant "NotationPressLaw" (42 : Nat) (-70008 : Int32)) ∈ np_gw := np_gwi 1185 (by decide +kernel) rfl
theorem gw1186 : (Jvm.Cond.methodLink "NotationPressLaw" (109 : Nat) ({ cls := "NotationPressLaw", name := "isReadBack", desc := "(LNotationPress;IIII[I)Z" } : Jvm.MethodName)) ∈ np_gw := np_gwi 1186 (by decide +kernel) rfl
theorem gw1187 : (Jvm.Cond.static ({ cls := "NotationPressLaw", name := "isReadBack", desc := "(LNotationPress;IIII[I)Z" } : Jvm.MethodName)) ∈ np_gw := np_gwi 1187 (by decide +kernel) rfl
theorem gw1188 : (Jvm.Cond.code ({ cls := "NotationPressLaw", name := "isReadBack", desc := "(LNotationPress;IIII[I)Z" } : Jvm.MethodName) method_13_code (11 : Nat) (Option.some Jvm.ClassFile.FieldType.boolean)) ∈ np_gw := np_gwi 1188 (by decide +kernel) rfl
theorem gw1189 : (Jvm.Cond.methodLink "NotationPressLaw" (79 : Nat) ({ cls := "NotationPress", name := "readings", desc := "(III)I" } : Jvm.MethodName)) ∈ np_gw := np_gwi 1189 (by decide +kernel) rfl
theorem gw1190 : (Jvm.Cond.instanceMethod ({ cls := "NotationPress", name := "readings", desc := "(III)I" } : Jvm.MethodName)) ∈ np_gw := np_gwi 1190 (by decide +kernel) rfl
theorem gw1191 : (Jvm.Cond.selects "NotationPress" ({ cls := "NotationPress", name := "readings", desc := "(III)I" } : Jvm.MethodName) ({ cls := "NotationPress", name := "readings", desc := "(III)I" } : Jvm.MethodName)) ∈ np_gw := np_gwi 1191 (by decide +kernel) rfl
theorem gw1192 : (Jvm.Cond.code ({ cls := "NotationPress", name := "readings", desc := "(III)I" } : Jvm.MethodName) prog_1_method_15_code (8 : Nat) (Option.some Jvm.ClassFile.FieldType.int)) ∈ np_gw := np_gwi 1192 (by decide +kernel) rfl
theorem gw1193 : (Jvm.Cond.methodLink "NotationPressLaw" (83 : Nat) ({ cls := "NotationPress", name := "readingsAnew", desc := "(III)I" } : Jvm.MethodName)) ∈ np_gw := np_gwi 1193 (by decide +kernel) rfl
theorem gw1194 : (Jvm.Cond.instanceMethod ({ cls := "NotationPress", name := "readingsAnew", desc := "(III)I" } : Jvm.MethodName)) ∈ np_gw := np_gwi 1194 (by decide +kernel) rfl
theorem gw1195 : (Jvm.Cond.selects "NotationPress" ({ cls := "NotationPress", name := "readingsAnew", desc := "(III)I" } : Jvm.MethodName) ({ cls := "NotationPress", name := "readingsAnew", desc := "(III)I" } : Jvm.MethodName)) ∈ np_gw := np_gwi 1195 (by decide +kernel) rfl
theorem gw1196 : (Jvm.Cond.code ({ cls := "NotationPress", name := "readingsAnew", desc := "(III)I" } : Jvm.MethodName) prog_1_method_16_code (6 : Nat) (Option.some Jvm.ClassFile.FieldType.int)) ∈ np_gw := np_gwi 1196 (by decide +kernel) rfl
theorem gw1201 : (Jvm.Cond.methodLink "NotationPressLaw" (86 : Nat) ({ cls := "NotationPressLaw", name := "readsAt", desc := "(LNotationPress;IIII)I" } : Jvm.MethodName)) ∈ np_gw := np_gwi 1201 (by decide +kernel) rfl
theorem gw1202 : (Jvm.Cond.static ({ cls := "NotationPressLaw", name := "readsAt", desc := "(LNotationPress;IIII)I" } : Jvm.MethodName)) ∈ np_gw := np_gwi 1202 (by decide +kernel) rfl
theorem gw1203 : (Jvm.Cond.codeWith ({ cls := "NotationPressLaw", name := "readsAt", desc := "(LNotationPress;IIII)I" } : Jvm.MethodName) method_5_code (6 : Nat) (Option.some Jvm.ClassFile.FieldType.int) [((0 : Nat), (9 : Nat), (10 : Nat), (37 : Nat))]) ∈ np_gw := np_gwi 1203 (by decide +kernel) rfl
theorem gw1207 : (Jvm.Cond.methodLink "NotationPressLaw" (71 : Nat) ({ cls := "NotationPressLaw", name := "rules", desc := "(LNotationPress;IIIIII)I" } : Jvm.MethodName)) ∈ np_gw := np_gwi 1207 (by decide +kernel) rfl
theorem gw1208 : (Jvm.Cond.static ({ cls := "NotationPressLaw", name := "rules", desc := "(LNotationPress;IIIIII)I" } : Jvm.MethodName)) ∈ np_gw := np_gwi 1208 (by decide +kernel) rfl
theorem gw1209 : (Jvm.Cond.codeWith ({ cls := "NotationPressLaw", name := "rules", desc := "(LNotationPress;IIIIII)I" } : Jvm.MethodName) method_12_code (8 : Nat) (Option.some Jvm.ClassFile.FieldType.int) [((0 : Nat), (13 : Nat), (14 : Nat), (46 : Nat)), ((0 : Nat), (13 : Nat), (19 : Nat), (40 : Nat))]) ∈ np_gw := np_gwi 1209 (by decide +kernel) rfl
theorem gw1210 : (Jvm.Cond.methodLink "NotationPressLaw" (75 : Nat) ({ cls := "NotationPress", name := "constrain", desc := "(IIIIII)I" } : Jvm.MethodName)) ∈ np_gw := np_gwi 1210 (by decide +kernel) rfl
theorem gw1211 : (Jvm.Cond.instanceMethod ({ cls := "NotationPress", name := "constrain", desc := "(IIIIII)I" } : Jvm.MethodName)) ∈ np_gw := np_gwi 1211 (by decide +kernel) rfl
theorem gw1212 : (Jvm.Cond.selects "NotationPress" ({ cls := "NotationPress", name := "constrain", desc := "(IIIIII)I" } : Jvm.MethodName) ({ cls := "NotationPress", name := "constrain", desc := "(IIIIII)I" } : Jvm.MethodName)) ∈ np_gw := np_gwi 1212 (by decide +kernel) rfl
theorem gw1213 : (Jvm.Cond.code ({ cls := "NotationPress", name := "constrain", desc := "(IIIIII)I" } : Jvm.MethodName) prog_1_method_6_code (8 : Nat) (Option.some Jvm.ClassFile.FieldType.int)) ∈ np_gw := np_gwi 1213 (by decide +kernel) rfl
theorem gw1248 : (Jvm.Cond.methodLink "NotationPressLaw" (120 : Nat) ({ cls := "NotationPress", name := "progress", desc := "(I)I" } : Jvm.MethodName)) ∈ np_gw := np_gwi 1248 (by decide +kernel) rfl
theorem gw1249 : (Jvm.Cond.instanceMethod ({ cls := "NotationPress", name := "progress", desc := "(I)I" } : Jvm.MethodName)) ∈ np_gw := np_gwi 1249 (by decide +kernel) rfl
theorem gw1250 : (Jvm.Cond.selects "NotationPress" ({ cls := "NotationPress", name := "progress", desc := "(I)I" } : Jvm.MethodName) ({ cls := "NotationPress", name := "progress", desc := "(I)I" } : Jvm.MethodName)) ∈ np_gw := np_gwi 1250 (by decide +kernel) rfl
theorem gw1251 : (Jvm.Cond.code ({ cls := "NotationPress", name := "progress", desc := "(I)I" } : Jvm.MethodName) prog_1_method_20_code (3 : Nat) (Option.some Jvm.ClassFile.FieldType.int)) ∈ np_gw := np_gwi 1251 (by decide +kernel) rfl
theorem gw1252 : (Jvm.Cond.methodLink "NotationPressLaw" (123 : Nat) ({ cls := "NotationPressLaw", name := "isLine", desc := "(LNotationPress;IIII[I)Z" } : Jvm.MethodName)) ∈ np_gw := np_gwi 1252 (by decide +kernel) rfl
theorem gw1253 : (Jvm.Cond.static ({ cls := "NotationPressLaw", name := "isLine", desc := "(LNotationPress;IIII[I)Z" } : Jvm.MethodName)) ∈ np_gw := np_gwi 1253 (by decide +kernel) rfl
theorem gw1254 : (Jvm.Cond.code ({ cls := "NotationPressLaw", name := "isLine", desc := "(LNotationPress;IIII[I)Z" } : Jvm.MethodName) method_15_code (13 : Nat) (Option.some Jvm.ClassFile.FieldType.boolean)) ∈ np_gw := np_gwi 1254 (by decide +kernel) rfl
theorem gw1255 : (Jvm.Cond.methodLink "NotationPressLaw" (113 : Nat) ({ cls := "NotationPress", name := "take", desc := "(II)I" } : Jvm.MethodName)) ∈ np_gw := np_gwi 1255 (by decide +kernel) rfl
theorem gw1256 : (Jvm.Cond.instanceMethod ({ cls := "NotationPress", name := "take", desc := "(II)I" } : Jvm.MethodName)) ∈ np_gw := np_gwi 1256 (by decide +kernel) rfl
theorem gw1257 : (Jvm.Cond.selects "NotationPress" ({ cls := "NotationPress", name := "take", desc := "(II)I" } : Jvm.MethodName) ({ cls := "NotationPress", name := "take", desc := "(II)I" } : Jvm.MethodName)) ∈ np_gw := np_gwi 1257 (by decide +kernel) rfl
theorem gw1258 : (Jvm.Cond.code ({ cls := "NotationPress", name := "take", desc := "(II)I" } : Jvm.MethodName) prog_1_method_23_code (6 : Nat) (Option.some Jvm.ClassFile.FieldType.int)) ∈ np_gw := np_gwi 1258 (by decide +kernel) rfl
theorem gw1261 : (Jvm.Cond.methodLink "NotationPressLaw" (116 : Nat) ({ cls := "NotationPress", name := "cell", desc := "(IIII)I" } : Jvm.MethodName)) ∈ np_gw := np_gwi 1261 (by decide +kernel) rfl
theorem gw1262 : (Jvm.Cond.instanceMethod ({ cls := "NotationPress", name := "cell", desc := "(IIII)I" } : Jvm.MethodName)) ∈ np_gw := np_gwi 1262 (by decide +kernel) rfl
theorem gw1263 : (Jvm.Cond.selects "NotationPress" ({ cls := "NotationPress", name := "cell", desc := "(IIII)I" } : Jvm.MethodName) ({ cls := "NotationPress", name := "cell", desc := "(IIII)I" } : Jvm.MethodName)) ∈ np_gw := np_gwi 1263 (by decide +kernel) rfl
theorem gw1264 : (Jvm.Cond.code ({ cls := "NotationPress", name := "cell", desc := "(IIII)I" } : Jvm.MethodName) prog_1_method_22_code (6 : Nat) (Option.some Jvm.ClassFile.FieldType.int)) ∈ np_gw := np_gwi 1264 (by decide +kernel) rfl
theorem gw1266 : (Jvm.Cond.constant "NotationPressLaw" (119 : Nat) (-2147483648 : Int32)) ∈ np_gw := np_gwi 1266 (by decide +kernel) rfl
theorem gw1267 : (Jvm.Cond.constant "NotationPressLaw" (126 : Nat) (1000000 : Int32)) ∈ np_gw := np_gwi 1267 (by decide +kernel) rfl
theorem gw1287 : (Jvm.Cond.methodLink "NotationPressLaw" (151 : Nat) ({ cls := "NotationPress", name := "change", desc := "(IIII)I" } : Jvm.MethodName)) ∈ np_gw := np_gwi 1287 (by decide +kernel) rfl
theorem gw1288 : (Jvm.Cond.instanceMethod ({ cls := "NotationPress", name := "change", desc := "(IIII)I" } : Jvm.MethodName)) ∈ np_gw := np_gwi 1288 (by decide +kernel) rfl
theorem gw1289 : (Jvm.Cond.selects "NotationPress" ({ cls := "NotationPress", name := "change", desc := "(IIII)I" } : Jvm.MethodName) ({ cls := "NotationPress", name := "change", desc := "(IIII)I" } : Jvm.MethodName)) ∈ np_gw := np_gwi 1289 (by decide +kernel) rfl
theorem gw1290 : (Jvm.Cond.code ({ cls := "NotationPress", name := "change", desc := "(IIII)I" } : Jvm.MethodName) prog_1_method_27_code (6 : Nat) (Option.some Jvm.ClassFile.FieldType.int)) ∈ np_gw := np_gwi 1290 (by decide +kernel) rfl
theorem gw1306 : (Jvm.Cond.constant "NotationPressLaw" (154 : Nat) (104729 : Int32)) ∈ np_gw := np_gwi 1306 (by decide +kernel) rfl
theorem gw1307 : (Jvm.Cond.methodLink "NotationPressLaw" (155 : Nat) ({ cls := "NotationPress", name := "upgrade", desc := "()I" } : Jvm.MethodName)) ∈ np_gw := np_gwi 1307 (by decide +kernel) rfl
theorem gw1308 : (Jvm.Cond.instanceMethod ({ cls := "NotationPress", name := "upgrade", desc := "()I" } : Jvm.MethodName)) ∈ np_gw := np_gwi 1308 (by decide +kernel) rfl
theorem gw1309 : (Jvm.Cond.selects "NotationPress" ({ cls := "NotationPress", name := "upgrade", desc := "()I" } : Jvm.MethodName) ({ cls := "NotationPress", name := "upgrade", desc := "()I" } : Jvm.MethodName)) ∈ np_gw := np_gwi 1309 (by decide +kernel) rfl
theorem gw1310 : (Jvm.Cond.code ({ cls := "NotationPress", name := "upgrade", desc := "()I" } : Jvm.MethodName) prog_1_method_28_code (2 : Nat) (Option.some Jvm.ClassFile.FieldType.int)) ∈ np_gw := np_gwi 1310 (by decide +kernel) rfl
theorem gw1334 : (Jvm.Cond.methodLink "NotationPressLaw" (158 : Nat) ({ cls := "NotationPress", name := "parts", desc := "(I)I" } : Jvm.MethodName)) ∈ np_gw := np_gwi 1334 (by decide +kernel) rfl
theorem gw1335 : (Jvm.Cond.instanceMethod ({ cls := "NotationPress", name := "parts", desc := "(I)I" } : Jvm.MethodName)) ∈ np_gw := np_gwi 1335 (by decide +kernel) rfl
theorem gw1336 : (Jvm.Cond.selects "NotationPress" ({ cls := "NotationPress", name := "parts", desc := "(I)I" } : Jvm.MethodName) ({ cls := "NotationPress", name := "parts", desc := "(I)I" } : Jvm.MethodName)) ∈ np_gw := np_gwi 1336 (by decide +kernel) rfl
theorem gw1337 : (Jvm.Cond.code ({ cls := "NotationPress", name := "parts", desc := "(I)I" } : Jvm.MethodName) prog_1_method_32_code (3 : Nat) (Option.some Jvm.ClassFile.FieldType.int)) ∈ np_gw := np_gwi 1337 (by decide +kernel) rfl
theorem gw1343 : (Jvm.Cond.methodLink "NotationPressLaw" (148 : Nat) ({ cls := "NotationPress", name := "set", desc := "(III)I" } : Jvm.MethodName)) ∈ np_gw := np_gwi 1343 (by decide +kernel) rfl
theorem gw1344 : (Jvm.Cond.instanceMethod ({ cls := "NotationPress", name := "set", desc := "(III)I" } : Jvm.MethodName)) ∈ np_gw := np_gwi 1344 (by decide +kernel) rfl
theorem gw1345 : (Jvm.Cond.selects "NotationPress" ({ cls := "NotationPress", name := "set", desc := "(III)I" } : Jvm.MethodName) ({ cls := "NotationPress", name := "set", desc := "(III)I" } : Jvm.MethodName)) ∈ np_gw := np_gwi 1345 (by decide +kernel) rfl
theorem gw1346 : (Jvm.Cond.code ({ cls := "NotationPress", name := "set", desc := "(III)I" } : Jvm.MethodName) prog_1_method_7_code (5 : Nat) (Option.some Jvm.ClassFile.FieldType.int)) ∈ np_gw := np_gwi 1346 (by decide +kernel) rfl
theorem gw1348 : (Jvm.Cond.methodLink "NotationPressLaw" (161 : Nat) ({ cls := "NotationPress", name := "compose", desc := "(II)I" } : Jvm.MethodName)) ∈ np_gw := np_gwi 1348 (by decide +kernel) rfl
theorem gw1349 : (Jvm.Cond.instanceMethod ({ cls := "NotationPress", name := "compose", desc := "(II)I" } : Jvm.MethodName)) ∈ np_gw := np_gwi 1349 (by decide +kernel) rfl
theorem gw1350 : (Jvm.Cond.selects "NotationPress" ({ cls := "NotationPress", name := "compose", desc := "(II)I" } : Jvm.MethodName) ({ cls := "NotationPress", name := "compose", desc := "(II)I" } : Jvm.MethodName)) ∈ np_gw := np_gwi 1350 (by decide +kernel) rfl
theorem gw1351 : (Jvm.Cond.code ({ cls := "NotationPress", name := "compose", desc := "(II)I" } : Jvm.MethodName) prog_1_method_29_code (6 : Nat) (Option.some Jvm.ClassFile.FieldType.int)) ∈ np_gw := np_gwi 1351 (by decide +kernel) rfl
theorem gw1388 : (Jvm.Cond.methodLink "NotationPressLaw" (164 : Nat) ({ cls := "NotationPressLaw", name := "tells", desc := "(LNotationPress;I[I)V" } : Jvm.MethodName)) ∈ np_gw := np_gwi 1388 (by decide +kernel) rfl
theorem gw1389 : (Jvm.Cond.static ({ cls := "NotationPressLaw", name := "tells", desc := "(LNotationPress;I[I)V" } : Jvm.MethodName)) ∈ np_gw := np_gwi 1389 (by decide +kernel) rfl
theorem gw1390 : (Jvm.Cond.code ({ cls := "NotationPressLaw", name := "tells", desc := "(LNotationPress;I[I)V" } : Jvm.MethodName) method_20_code (4 : Nat) (Option.none : Option Jvm.ClassFile.FieldType)) ∈ np_gw := np_gwi 1390 (by decide +kernel) rfl
theorem gw1391 : (Jvm.Cond.methodLink "NotationPressLaw" (145 : Nat) ({ cls := "NotationPress", name := "upgraded", desc := "(II)I" } : Jvm.MethodName)) ∈ np_gw := np_gwi 1391 (by decide +kernel) rfl
theorem gw1392 : (Jvm.Cond.instanceMethod ({ cls := "NotationPress", name := "upgraded", desc := "(II)I" } : Jvm.MethodName)) ∈ np_gw := np_gwi 1392 (by decide +kernel) rfl
theorem gw1393 : (Jvm.Cond.selects "NotationPress" ({ cls := "NotationPress", name := "upgraded", desc := "(II)I" } : Jvm.MethodName) ({ cls := "NotationPress", name := "upgraded", desc := "(II)I" } : Jvm.MethodName)) ∈ np_gw := np_gwi 1393 (by decide +kernel) rfl
theorem gw1394 : (Jvm.Cond.code ({ cls := "NotationPress", name := "upgraded", desc := "(II)I" } : Jvm.MethodName) prog_1_method_31_code (4 : Nat) (Option.some Jvm.ClassFile.FieldType.int)) ∈ np_gw := np_gwi 1394 (by decide +kernel) rfl
theorem gw1420 : (Jvm.Cond.methodLink "NotationPressLaw" (168 : Nat) ({ cls := "NotationPressLaw", name := "sets", desc := "(LNotationPress;[I)V" } : Jvm.MethodName)) ∈ np_gw := np_gwi 1420 (by decide +kernel) rfl
theorem gw1421 : (Jvm.Cond.static ({ cls := "NotationPressLaw", name := "sets", desc := "(LNotationPress;[I)V" } : Jvm.MethodName)) ∈ np_gw := np_gwi 1421 (by decide +kernel) rfl
theorem gw1422 : (Jvm.Cond.code ({ cls := "NotationPressLaw", name := "sets", desc := "(LNotationPress;[I)V" } : Jvm.MethodName) method_21_code (3 : Nat) (Option.none : Option Jvm.ClassFile.FieldType)) ∈ np_gw := np_gwi 1422 (by decide +kernel) rfl
theorem gw1423 : (Jvm.Cond.methodLink "NotationPressLaw" (171 : Nat) ({ cls := "NotationPress", name := "reverse", desc := "(I)I" } : Jvm.MethodName)) ∈ np_gw := np_gwi 1423 (by decide +kernel) rfl
theorem gw1424 : (Jvm.Cond.instanceMethod ({ cls := "NotationPress", name := "reverse", desc := "(I)I" } : Jvm.MethodName)) ∈ np_gw := np_gwi 1424 (by decide +kernel) rfl
theorem gw1425 : (Jvm.Cond.selects "NotationPress" ({ cls := "NotationPress", name := "reverse", desc := "(I)I" } : Jvm.MethodName) ({ cls := "NotationPress", name := "reverse", desc := "(I)I" } : Jvm.MethodName)) ∈ np_gw := np_gwi 1425 (by decide +kernel) rfl
theorem gw1426 : (Jvm.Cond.code ({ cls := "NotationPress", name := "reverse", desc := "(I)I" } : Jvm.MethodName) prog_1_method_30_code (4 : Nat) (Option.some Jvm.ClassFile.FieldType.int)) ∈ np_gw := np_gwi 1426 (by decide +kernel) rfl
theorem gw1453 : (Jvm.Cond.methodLink "NotationPressLaw" (136 : Nat) ({ cls := "NotationPress", name := "find", desc := "(IIII)I" } : Jvm.MethodName)) ∈ np_gw := np_gwi 1453 (by decide +kernel) rfl
theorem gw1454 : (Jvm.Cond.instanceMethod ({ cls := "NotationPress", name := "find", desc := "(IIII)I" } : Jvm.MethodName)) ∈ np_gw := np_gwi 1454 (by decide +kernel) rfl
theorem gw1455 : (Jvm.Cond.selects "NotationPress" ({ cls := "NotationPress", name := "find", desc := "(IIII)I" } : Jvm.MethodName) ({ cls := "NotationPress", name := "find", desc := "(IIII)I" } : Jvm.MethodName)) ∈ np_gw := np_gwi 1455 (by decide +kernel) rfl
theorem gw1456 : (Jvm.Cond.code ({ cls := "NotationPress", name := "find", desc := "(IIII)I" } : Jvm.MethodName) prog_1_method_34_code (6 : Nat) (Option.some Jvm.ClassFile.FieldType.int)) ∈ np_gw := np_gwi 1456 (by decide +kernel) rfl
theorem gw1462 : (Jvm.Cond.methodLink "NotationPressLaw" (139 : Nat) ({ cls := "NotationPress", name := "findAnew", desc := "(IIII)I" } : Jvm.MethodName)) ∈ np_gw := np_gwi 1462 (by decide +kernel) rfl
theorem gw1463 : (Jvm.Cond.instanceMethod ({ cls := "NotationPress", name := "findAnew", desc := "(IIII)I" } : Jvm.MethodName)) ∈ np_gw := np_gwi 1463 (by decide +kernel) rfl
theorem gw1464 : (Jvm.Cond.selects "NotationPress" ({ cls := "NotationPress", name := "findAnew", desc := "(IIII)I" } : Jvm.MethodName) ({ cls := "NotationPress", name := "findAnew", desc := "(IIII)I" } : Jvm.MethodName)) ∈ np_gw := np_gwi 1464 (by decide +kernel) rfl
theorem gw1465 : (Jvm.Cond.code ({ cls := "NotationPress", name := "findAnew", desc := "(IIII)I" } : Jvm.MethodName) prog_1_method_35_code (6 : Nat) (Option.some Jvm.ClassFile.FieldType.int)) ∈ np_gw := np_gwi 1465 (by decide +kernel) rfl
theorem gw1470 : (Jvm.Cond.methodLink "NotationPressLaw" (142 : Nat) ({ cls := "NotationPress", name := "compare", desc := "(I)I" } : Jvm.MethodName)) ∈ np_gw := np_gwi 1470 (by decide +kernel) rfl
theorem gw1471 : (Jvm.Cond.instanceMethod ({ cls := "NotationPress", name := "compare", desc := "(I)I" } : Jvm.MethodName)) ∈ np_gw := np_gwi 1471 (by decide +kernel) rfl
theorem gw1472 : (Jvm.Cond.selects "NotationPress" ({ cls := "NotationPress", name := "compare", desc := "(I)I" } : Jvm.MethodName) ({ cls := "NotationPress", name := "compare", desc := "(I)I" } : Jvm.MethodName)) ∈ np_gw := np_gwi 1472 (by decide +kernel) rfl
theorem gw1473 : (Jvm.Cond.code ({ cls := "NotationPress", name := "compare", desc := "(I)I" } : Jvm.MethodName) prog_1_method_33_code (4 : Nat) (Option.some Jvm.ClassFile.FieldType.int)) ∈ np_gw := np_gwi 1473 (by decide +kernel) rfl
theorem gw1497 : (Jvm.Cond.methodLink "NotationPressLaw" (127 : Nat) ({ cls := "NotationPressLaw", name := "part", desc := "(III)I" } : Jvm.MethodName)) ∈ np_gw := np_gwi 1497 (by decide +kernel) rfl
theorem gw1498 : (Jvm.Cond.static ({ cls := "NotationPressLaw", name := "part", desc := "(III)I" } : Jvm.MethodName)) ∈ np_gw := np_gwi 1498 (by decide +kernel) rfl
theorem gw1499 : (Jvm.Cond.code ({ cls := "NotationPressLaw", name := "part", desc := "(III)I" } : Jvm.MethodName) method_3_code (3 : Nat) (Option.some Jvm.ClassFile.FieldType.int)) ∈ np_gw := np_gwi 1499 (by decide +kernel) rfl
theorem gw1500 : (Jvm.Cond.methodLink "NotationPressLaw" (130 : Nat) ({ cls := "NotationPressLaw", name := "cell", desc := "(LNotationPress;III)I" } : Jvm.MethodName)) ∈ np_gw := np_gwi 1500 (by decide +kernel) rfl
theorem gw1501 : (Jvm.Cond.static ({ cls := "NotationPressLaw", name := "cell", desc := "(LNotationPress;III)I" } : Jvm.MethodName)) ∈ np_gw := np_gwi 1501 (by decide +kernel) rfl
theorem gw1502 : (Jvm.Cond.code ({ cls := "NotationPressLaw", name := "cell", desc := "(LNotationPress;III)I" } : Jvm.MethodName) method_17_code (4 : Nat) (Option.some Jvm.ClassFile.FieldType.int)) ∈ np_gw := np_gwi 1502 (by decide +kernel) rfl
theorem gw1503 : (Jvm.Cond.methodLink "NotationPressLaw" (133 : Nat) ({ cls := "NotationPress", name := "derivedByBatch", desc := "(II)I" } : Jvm.MethodName)) ∈ np_gw := np_gwi 1503 (by decide +kernel) rfl
theorem gw1504 : (Jvm.Cond.instanceMethod ({ cls := "NotationPress", name := "derivedByBatch", desc := "(II)I" } : Jvm.MethodName)) ∈ np_gw := np_gwi 1504 (by decide +kernel) rfl
theorem gw1505 : (Jvm.Cond.selects "NotationPress" ({ cls := "NotationPress", name := "derivedByBatch", desc := "(II)I" } : Jvm.MethodName) ({ cls := "NotationPress", name := "derivedByBatch", desc := "(II)I" } : Jvm.MethodName)) ∈ np_gw := np_gwi 1505 (by decide +kernel) rfl
theorem gw1506 : (Jvm.Cond.code ({ cls := "NotationPress", name := "derivedByBatch", desc := "(II)I" } : Jvm.MethodName) prog_1_method_26_code (4 : Nat) (Option.some Jvm.ClassFile.FieldType.int)) ∈ np_gw := np_gwi 1506 (by decide +kernel) rfl
theorem dL_draw_0 : decode cL_draw 0 = .ok (.iload_n 1, 1) := by decide +kernel
theorem dL_draw_1 : decode cL_draw 1 = .ok (.aload_n 0, 1) := by decide +kernel
theorem dL_draw_2 : decode cL_draw 2 = .ok (.arraylength, 1) := by decide +kernel
theorem dL_draw_3 : decode cL_draw 3 = .ok (.if_icmp .ge 9, 3) := by decide +kernel
theorem dL_draw_6 : decode cL_draw 6 = .ok (.aload_n 0, 1) := by decide +kernel
theorem dL_draw_7 : decode cL_draw 7 = .ok (.iload_n 1, 1) := by decide +kernel
theorem dL_draw_8 : decode cL_draw 8 = .ok (.iaload, 1) := by decide +kernel
theorem dL_draw_9 : decode cL_draw 9 = .ok (.goto 14, 3) := by decide +kernel
theorem dL_draw_12 : decode cL_draw 12 = .ok (.ldc 7, 2) := by decide +kernel
theorem dL_draw_14 : decode cL_draw 14 = .ok (.iload_n 1, 1) := by decide +kernel
theorem dL_draw_15 : decode cL_draw 15 = .ok (.sipush 601, 3) := by decide +kernel
theorem dL_draw_18 : decode cL_draw 18 = .ok (.iadd, 1) := by decide +kernel
theorem dL_draw_19 : decode cL_draw 19 = .ok (.imul, 1) := by decide +kernel
theorem dL_draw_20 : decode cL_draw 20 = .ok (.ldc 8, 2) := by decide +kernel
theorem dL_draw_22 : decode cL_draw 22 = .ok (.iadd, 1) := by decide +kernel
theorem dL_draw_23 : decode cL_draw 23 = .ok (.istore_n 3, 1) := by decide +kernel
theorem dL_draw_24 : decode cL_draw 24 = .ok (.iload_n 3, 1) := by decide +kernel
theorem dL_draw_25 : decode cL_draw 25 = .ok (.ldc 9, 2) := by decide +kernel
theorem dL_draw_27 : decode cL_draw 27 = .ok (.iand, 1) := by decide +kernel
theorem dL_draw_28 : decode cL_draw 28 = .ok (.iload_n 2, 1) := by decide +kernel
theorem dL_draw_29 : decode cL_draw 29 = .ok (.irem, 1) := by decide +kernel
theorem dL_draw_30 : decode cL_draw 30 = .ok (.ireturn, 1) := by decide +kernel
def is_L_draw (Rt : np_Rt) (Ls : Nat) (xs : Nat → Int32) : List (Nat × np_Op) := [(0, np_ild 1 1), (1, np_ald 1 0), (2, np_slen Ls), (3, nq_ic (fun x y => y ≤ x) 12), (6, np_ald 1 0), (7, np_ild 1 1), (8, nw_sld Ls xs), (9, np_goto 23), (12, np_push 2 (.int 1003481557)), (14, np_ild 1 1), (15, np_push 3 (.int 601)), (18, np_ib (fun x y => x + y)), (19, np_ib (fun x y => x * y)), (20, np_push 2 (.int 698855923)), (22, np_ib (fun x y => x + y)), (23, nw_ist 1 3), (24, np_ild 1 3), (25, np_push 2 (.int 2147483647)), (27, np_ib (fun x y => x &&& y)), (28, np_ild 1 2), (29, nq_ibn (fun x y => x - x / y * y)), (30, np_ret Rt)]
set_option maxRecDepth 20000 in
theorem so_L_draw {X : np_Ctx} {Rt : np_Rt} {Ls : Nat} {xs : Nat → Int32} (hX : np_ok RL cL_draw 4 0 0 0 0 .ireturn X) (hf : np_lf Ls xs X) (hR : ∀ st w ce sl, Rt st w ce sl → X.2.2.1 st w ce sl) : ∀ q ∈ is_L_draw Rt Ls xs, np_S X q.1 q.2 :=
  List.forall_mem_cons.mpr ⟨np_s_iload_n hX dL_draw_0 rfl, List.forall_mem_cons.mpr ⟨np_s_aload_n hX dL_draw_1 rfl, List.forall_mem_cons.mpr ⟨np_s_slen hX hf dL_draw_2, List.forall_mem_cons.mpr ⟨np_S.mono (op := np_ic (fun x y => y ≤ x) 12) (np_s_icmp_ge hX dL_draw_3 (by decide)) nq_ic_le, List.forall_mem_cons.mpr ⟨np_s_aload_n hX dL_draw_6 rfl, List.forall_mem_cons.mpr ⟨np_s_iload_n hX dL_draw_7 rfl, List.forall_mem_cons.mpr ⟨np_S.mono (op := np_sld Ls xs) (np_s_sld hX hf dL_draw_8) nw_sld_le, List.forall_mem_cons.mpr ⟨np_s_goto hX dL_draw_9 (by decide), List.forall_mem_cons.mpr ⟨np_s_ldc hX dL_draw_12 gw488, List.forall_mem_cons.mpr ⟨np_s_iload_n hX dL_draw_14 rfl, List.forall_mem_cons.mpr ⟨np_s_sipush hX dL_draw_15 (by decide), List.forall_mem_cons.mpr ⟨np_s_iadd hX dL_draw_18, List.forall_mem_cons.mpr ⟨np_s_imul hX dL_draw_19, List.forall_mem_cons.mpr ⟨np_s_ldc hX dL_draw_20 gw489, List.forall_mem_cons.mpr ⟨np_s_iadd hX dL_draw_22, List.forall_mem_cons.mpr ⟨np_S.mono (op := np_ist 1 3) (np_s_istore_n hX dL_draw_23 rfl (by decide)) nw_ist_le, List.forall_mem_cons.mpr ⟨np_s_iload_n hX dL_draw_24 rfl, List.forall_mem_cons.mpr ⟨np_s_ldc hX dL_draw_25 gw490, List.forall_mem_cons.mpr ⟨np_s_iand hX dL_draw_27, List.forall_mem_cons.mpr ⟨np_s_iload_n hX dL_draw_28 rfl, List.forall_mem_cons.mpr ⟨np_S.mono (op := np_ibn (fun x y => x - x / y * y)) (np_s_irem hX dL_draw_29) nq_ibn_le, List.forall_mem_cons.mpr ⟨np_S.mono (op := np_ret X.2.2.1) (np_s_ret hX dL_draw_30) (nq_ret_le hR), fun _ h => nomatch h⟩⟩⟩⟩⟩⟩⟩⟩⟩⟩⟩⟩⟩⟩⟩⟩⟩⟩⟩⟩⟩⟩
noncomputable def m_L_draw (Ls : Nat) (xs : Nat → Int32) (S : pw_S) (x1 : Int32) (x2 : Int32) : pw_R Int32 :=
 if (Int32.ofNat Ls) ≤ x1 then
 (pw_l (((1003481557 * (x1 + 601)) + 698855923) : Int32) fun z1 =>
 pw_c (!decide (x2 = 0)) <|
 some (S, ((z1 &&& 2147483647) - (z1 &&& 2147483647) / x2 * x2)))
 else
 (pw_c (np_inb x1 Ls) <|
 pw_l ((xs (x1 : Int32).toNatClampNeg) : Int32) fun z5 =>
 pw_c (!decide (x2 = 0)) <|
 some (S, ((z5 &&& 2147483647) - (z5 &&& 2147483647) / x2 * x2)))
def sp_L_draw (Ls : Nat) (xs : Nat → Int32) : np_Sp := fun vs w Q => ∃ (q : Nat) (S : pw_S) (x1 : Int32) (x2 : Int32), vs = [.ref 0, .int x1, .int x2] ∧ pw_W q w S ∧ pw_p (m_L_draw Ls xs S x1 x2) (fun S' r => ∀ f', pw_W q (w.1, f') S' → Q (some (.int r)) (w.1, f'))
set_option maxRecDepth 100000 in
set_option maxHeartbeats 8000000 in
theorem C_L_draw {Ls : Nat} {xs : Nat → Int32} : np_Cs Ls xs yL_draw cL_draw 4 (some .int) 0 0 0 0 (sp_L_draw Ls xs) := by
  refine np_ofS (by decide) ?_
  intro X vs w Q hsp hX hf hRt
  obtain ⟨q, S, x1, x2, rfl, hW, h⟩ := hsp
  obtain ⟨n, f⟩ := w
  have hn : n = 65536 + q := hW.1
  subst hn
  unfold m_L_draw at h
  have hR : ∀ st w ce sl, np_rtN (some .int) 0 0 (65536 + q) Q st w ce sl → X.2.2.1 st w ce sl := fun _ _ _ _ h => by rw [hRt]; exact h
  refine np_soundW (so_L_draw hX hf hR) [] 400 0 _ _ _ _ _ ?_
  conv => whnf
  refine ⟨rfl, ?_⟩
  conv => whnf
  refine pw_br h (fun _ h => ?_) (fun _ h => ?_)
  · conv => whnf
    refine pw_st h (fun z1 h => ?_)
    conv => whnf
    refine pw_ck h (fun _ h => ?_)
    conv => whnf
    obtain ⟨f2, hW3, hf4⟩ := pw_reset hW (Nat.le_refl _)
    exact ⟨Nat.le_of_ble_eq_true rfl, Nat.le_of_ble_eq_true rfl, ⟨_, rfl⟩, pw_cvi _, f2, hf4, pw_ps h _ hW3⟩
  · conv => whnf
    refine ⟨rfl, ?_⟩
    conv => whnf
    refine pw_ck h (fun _ h => ?_)
    conv => whnf
    refine pw_st h (fun z5 h => ?_)
    conv => whnf
    refine pw_ck h (fun _ h => ?_)
    conv => whnf
    obtain ⟨f6, hW7, hf8⟩ := pw_reset hW (Nat.le_refl _)
    exact ⟨Nat.le_of_ble_eq_true rfl, Nat.le_of_ble_eq_true rfl, ⟨_, rfl⟩, pw_cvi _, f6, hf8, pw_ps h _ hW7⟩
theorem dL_part_0 : decode cL_part 0 = .ok (.iload_n 0, 1) := by decide +kernel
theorem dL_part_1 : decode cL_part 1 = .ok (.iload_n 1, 1) := by decide +kernel
theorem dL_part_2 : decode cL_part 2 = .ok (.ishr, 1) := by decide +kernel
theorem dL_part_3 : decode cL_part 3 = .ok (.iconst 1, 1) := by decide +kernel
theorem dL_part_4 : decode cL_part 4 = .ok (.iload_n 2, 1) := by decide +kernel
theorem dL_part_5 : decode cL_part 5 = .ok (.ishl, 1) := by decide +kernel
theorem dL_part_6 : decode cL_part 6 = .ok (.iconst 1, 1) := by decide +kernel
theorem dL_part_7 : decode cL_part 7 = .ok (.isub, 1) := by decide +kernel
theorem dL_part_8 : decode cL_part 8 = .ok (.iand, 1) := by decide +kernel
theorem dL_part_9 : decode cL_part 9 = .ok (.ireturn, 1) := by decide +kernel
def is_L_part (Rt : np_Rt) : List (Nat × np_Op) := [(0, np_ild 1 0), (1, np_ild 1 1), (2, np_ib (fun x y => x >>> (y &&& 31))), (3, np_push 1 (.int 1)), (4, np_ild 1 2), (5, np_ib (fun x y => x <<< (y &&& 31))), (6, np_push 1 (.int 1)), (7, np_ib (fun x y => x - y)), (8, np_ib (fun x y => x &&& y)), (9, np_ret Rt)]
set_option maxRecDepth 20000 in
theorem so_L_part {X : np_Ctx} {Rt : np_Rt} (hX : np_ok RL cL_part 3 0 0 0 0 .ireturn X) (hR : ∀ st w ce sl, Rt st w ce sl → X.2.2.1 st w ce sl) : ∀ q ∈ is_L_part Rt, np_S X q.1 q.2 :=
  List.forall_mem_cons.mpr ⟨np_s_iload_n hX dL_part_0 rfl, List.forall_mem_cons.mpr ⟨np_s_iload_n hX dL_part_1 rfl, List.forall_mem_cons.mpr ⟨np_s_ishr hX dL_part_2, List.forall_mem_cons.mpr ⟨np_s_iconst hX dL_part_3 (by decide), List.forall_mem_cons.mpr ⟨np_s_iload_n hX dL_part_4 rfl, List.forall_mem_cons.mpr ⟨np_s_ishl hX dL_part_5, List.forall_mem_cons.mpr ⟨np_s_iconst hX dL_part_6 (by decide), List.forall_mem_cons.mpr ⟨np_s_isub hX dL_part_7, List.forall_mem_cons.mpr ⟨np_s_iand hX dL_part_8, List.forall_mem_cons.mpr ⟨np_S.mono (op := np_ret X.2.2.1) (np_s_ret hX dL_part_9) (nq_ret_le hR), fun _ h => nomatch h⟩⟩⟩⟩⟩⟩⟩⟩⟩⟩
noncomputable def m_L_part (S : pw_S) (x0 : Int32) (x1 : Int32) (x2 : Int32) : pw_R Int32 :=
 some (S, ((x0 >>> (x1 &&& 31)) &&& ((1 <<< (x2 &&& 31)) - 1)))
def sp_L_part : np_Sp := fun vs w Q => ∃ (q : Nat) (S : pw_S) (x0 : Int32) (x1 : Int32) (x2 : Int32), vs = [.int x0, .int x1, .int x2] ∧ pw_W q w S ∧ pw_p (m_L_part S x0 x1 x2) (fun S' r => ∀ f', pw_W q (w.1, f') S' → Q (some (.int r)) (w.1, f'))
set_option maxRecDepth 100000 in
set_option maxHeartbeats 8000000 in
theorem C_L_part : np_C yL_part cL_part 3 (some .int) 0 0 0 0 (sp_L_part) := by
  refine np_of (by decide) ?_
  intro X vs w Q hsp hX hmn hRt hlt
  obtain ⟨q, S, x0, x1, x2, rfl, hW, h⟩ := hsp
  obtain ⟨n, f⟩ := w
  unfold m_L_part at h
  have hR : ∀ st w ce sl, np_rt (some .int) 0 0 Q st w ce sl → X.2.2.1 st w ce sl := fun _ _ _ _ h => by rw [hRt]; exact h
  refine np_soundW (so_L_part hX hR) [] 400 0 _ _ _ _ _ ?_
  conv => whnf
  exact ⟨Nat.le_of_ble_eq_true rfl, Nat.le_of_ble_eq_true rfl, ⟨_, rfl⟩, _, fun _ _ h9 => h9, pw_ps h _ hW⟩
theorem dL_asks_0 : decode cL_asks 0 = .ok (.iload_n 1, 1) := by decide +kernel
theorem dL_asks_1 : decode cL_asks 1 = .ok (.ifCond .ne 12, 3) := by decide +kernel
theorem dL_asks_4 : decode cL_asks 4 = .ok (.aload_n 0, 1) := by decide +kernel
theorem dL_asks_5 : decode cL_asks 5 = .ok (.iload_n 2, 1) := by decide +kernel
theorem dL_asks_6 : decode cL_asks 6 = .ok (.iload_n 3, 1) := by decide +kernel
theorem dL_asks_7 : decode cL_asks 7 = .ok (.invokevirtual 10, 3) := by decide +kernel
theorem dL_asks_10 : decode cL_asks 10 = .ok (.goto 81, 3) := by decide +kernel
theorem dL_asks_13 : decode cL_asks 13 = .ok (.iload_n 1, 1) := by decide +kernel
theorem dL_asks_14 : decode cL_asks 14 = .ok (.iconst 1, 1) := by decide +kernel
theorem dL_asks_15 : decode cL_asks 15 = .ok (.if_icmp .ne 12, 3) := by decide +kernel
theorem dL_asks_18 : decode cL_asks 18 = .ok (.aload_n 0, 1) := by decide +kernel
theorem dL_asks_19 : decode cL_asks 19 = .ok (.iload_n 2, 1) := by decide +kernel
theorem dL_asks_20 : decode cL_asks 20 = .ok (.iload_n 3, 1) := by decide +kernel
theorem dL_asks_21 : decode cL_asks 21 = .ok (.invokevirtual 16, 3) := by decide +kernel
theorem dL_asks_24 : decode cL_asks 24 = .ok (.goto 67, 3) := by decide +kernel
theorem dL_asks_27 : decode cL_asks 27 = .ok (.iload_n 1, 1) := by decide +kernel
theorem dL_asks_28 : decode cL_asks 28 = .ok (.iconst 2, 1) := by decide +kernel
theorem dL_asks_29 : decode cL_asks 29 = .ok (.if_icmp .ne 11, 3) := by decide +kernel
theorem dL_asks_32 : decode cL_asks 32 = .ok (.aload_n 0, 1) := by decide +kernel
theorem dL_asks_33 : decode cL_asks 33 = .ok (.iload_n 2, 1) := by decide +kernel
theorem dL_asks_34 : decode cL_asks 34 = .ok (.invokevirtual 19, 3) := by decide +kernel
theorem dL_asks_37 : decode cL_asks 37 = .ok (.goto 54, 3) := by decide +kernel
theorem dL_asks_40 : decode cL_asks 40 = .ok (.iload_n 1, 1) := by decide +kernel
theorem dL_asks_41 : decode cL_asks 41 = .ok (.iconst 3, 1) := by decide +kernel
theorem dL_asks_42 : decode cL_asks 42 = .ok (.if_icmp .ne 15, 3) := by decide +kernel
theorem dL_asks_45 : decode cL_asks 45 = .ok (.aload_n 0, 1) := by decide +kernel
theorem dL_asks_46 : decode cL_asks 46 = .ok (.iload_n 2, 1) := by decide +kernel
theorem dL_asks_47 : decode cL_asks 47 = .ok (.iload_n 3, 1) := by decide +kernel
theorem dL_asks_48 : decode cL_asks 48 = .ok (.iload 4, 2) := by decide +kernel
theorem dL_asks_50 : decode cL_asks 50 = .ok (.iconst 0, 1) := by decide +kernel
theorem dL_asks_51 : decode cL_asks 51 = .ok (.invokevirtual 23, 3) := by decide +kernel
theorem dL_asks_54 : decode cL_asks 54 = .ok (.goto 37, 3) := by decide +kernel
theorem dL_asks_57 : decode cL_asks 57 = .ok (.iload_n 1, 1) := by decide +kernel
theorem dL_asks_58 : decode cL_asks 58 = .ok (.iconst 4, 1) := by decide +kernel
theorem dL_asks_59 : decode cL_asks 59 = .ok (.if_icmp .ne 12, 3) := by decide +kernel
theorem dL_asks_62 : decode cL_asks 62 = .ok (.aload_n 0, 1) := by decide +kernel
theorem dL_asks_63 : decode cL_asks 63 = .ok (.iload_n 2, 1) := by decide +kernel
theorem dL_asks_64 : decode cL_asks 64 = .ok (.iload_n 3, 1) := by decide +kernel
theorem dL_asks_65 : decode cL_asks 65 = .ok (.invokevirtual 27, 3) := by decide +kernel
theorem dL_asks_68 : decode cL_asks 68 = .ok (.goto 23, 3) := by decide +kernel
theorem dL_asks_71 : decode cL_asks 71 = .ok (.iload_n 1, 1) := by decide +kernel
theorem dL_asks_72 : decode cL_asks 72 = .ok (.iconst 5, 1) := by decide +kernel
theorem dL_asks_73 : decode cL_asks 73 = .ok (.if_icmp .ne 12, 3) := by decide +kernel
theorem dL_asks_76 : decode cL_asks 76 = .ok (.aload_n 0, 1) := by decide +kernel
theorem dL_asks_77 : decode cL_asks 77 = .ok (.iload_n 2, 1) := by decide +kernel
theorem dL_asks_78 : decode cL_asks 78 = .ok (.iload_n 3, 1) := by decide +kernel
theorem dL_asks_79 : decode cL_asks 79 = .ok (.invokevirtual 30, 3) := by decide +kernel
theorem dL_asks_82 : decode cL_asks 82 = .ok (.goto 9, 3) := by decide +kernel
theorem dL_asks_85 : decode cL_asks 85 = .ok (.aload_n 0, 1) := by decide +kernel
theorem dL_asks_86 : decode cL_asks 86 = .ok (.iload_n 2, 1) := by decide +kernel
theorem dL_asks_87 : decode cL_asks 87 = .ok (.iload_n 3, 1) := by decide +kernel
theorem dL_asks_88 : decode cL_asks 88 = .ok (.invokevirtual 33, 3) := by decide +kernel
theorem dL_asks_91 : decode cL_asks 91 = .ok (.ireturn, 1) := by decide +kernel
theorem dL_asks_92 : decode cL_asks 92 = .ok (.astore 5, 2) := by decide +kernel
theorem dL_asks_94 : decode cL_asks 94 = .ok (.ldc 39, 2) := by decide +kernel
theorem dL_asks_96 : decode cL_asks 96 = .ok (.ireturn, 1) := by decide +kernel
theorem dL_asks_97 : decode cL_asks 97 = .ok (.astore 5, 2) := by decide +kernel
theorem dL_asks_99 : decode cL_asks 99 = .ok (.ldc 42, 2) := by decide +kernel
theorem dL_asks_101 : decode cL_asks 101 = .ok (.ireturn, 1) := by decide +kernel
def hhL_asks : List (Nat × Nat × Nat × Nat) := [((0 : Nat), (91 : Nat), (92 : Nat), (37 : Nat)), ((0 : Nat), (91 : Nat), (97 : Nat), (40 : Nat))]
theorem hdL_asks_7_0 : np_hd RL (tableOf hhL_asks) 7 0 92 := ⟨(tableOf hhL_asks).take 0, _, (tableOf hhL_asks).drop 1, rfl, (fun _ h => nomatch h), rfl, by decide, gw932, gw518, rfl⟩
theorem hdL_asks_7_1 : np_hd RL (tableOf hhL_asks) 7 2 97 := ⟨(tableOf hhL_asks).take 1, _, (tableOf hhL_asks).drop 2, rfl, List.forall_mem_cons.mpr ⟨Or.inr ⟨by decide, _, gw932, by decide⟩, (fun _ h => nomatch h)⟩, rfl, by decide, gw933, gw612, rfl⟩
theorem hdL_asks_7 : ∀ z ∈ ([(0, 92), (2, 97)] : List (Nat × Nat)), np_hd RL (tableOf hhL_asks) 7 z.1 z.2 := List.forall_mem_cons.mpr ⟨hdL_asks_7_0, List.forall_mem_cons.mpr ⟨hdL_asks_7_1, fun _ h => nomatch h⟩⟩
theorem hdL_asks_21_0 : np_hd RL (tableOf hhL_asks) 21 0 92 := ⟨(tableOf hhL_asks).take 0, _, (tableOf hhL_asks).drop 1, rfl, (fun _ h => nomatch h), rfl, by decide, gw932, gw518, rfl⟩
theorem hdL_asks_21_1 : np_hd RL (tableOf hhL_asks) 21 2 97 := ⟨(tableOf hhL_asks).take 1, _, (tableOf hhL_asks).drop 2, rfl, List.forall_mem_cons.mpr ⟨Or.inr ⟨by decide, _, gw932, by decide⟩, (fun _ h => nomatch h)⟩, rfl, by decide, gw933, gw612, rfl⟩
theorem hdL_asks_21 : ∀ z ∈ ([(0, 92), (2, 97)] : List (Nat × Nat)), np_hd RL (tableOf hhL_asks) 21 z.1 z.2 := List.forall_mem_cons.mpr ⟨hdL_asks_21_0, List.forall_mem_cons.mpr ⟨hdL_asks_21_1, fun _ h => nomatch h⟩⟩
theorem hdL_asks_34_0 : np_hd RL (tableOf hhL_asks) 34 0 92 := ⟨(tableOf hhL_asks).take 0, _, (tableOf hhL_asks).drop 1, rfl, (fun _ h => nomatch h), rfl, by decide, gw932, gw518, rfl⟩
theorem hdL_asks_34_1 : np_hd RL (tableOf hhL_asks) 34 2 97 := ⟨(tableOf hhL_asks).take 1, _, (tableOf hhL_asks).drop 2, rfl, List.forall_mem_cons.mpr ⟨Or.inr ⟨by decide, _, gw932, by decide⟩, (fun _ h => nomatch h)⟩, rfl, by decide, gw933, gw612, rfl⟩
theorem hdL_asks_34 : ∀ z ∈ ([(0, 92), (2, 97)] : List (Nat × Nat)), np_hd RL (tableOf hhL_asks) 34 z.1 z.2 := List.forall_mem_cons.mpr ⟨hdL_asks_34_0, List.forall_mem_cons.mpr ⟨hdL_asks_34_1, fun _ h => nomatch h⟩⟩
theorem hdL_asks_51_0 : np_hd RL (tableOf hhL_asks) 51 0 92 := ⟨(tableOf hhL_asks).take 0, _, (tableOf hhL_asks).drop 1, rfl, (fun _ h => nomatch h), rfl, by decide, gw932, gw518, rfl⟩
theorem hdL_asks_51_1 : np_hd RL (tableOf hhL_asks) 51 2 97 := ⟨(tableOf hhL_asks).take 1, _, (tableOf hhL_asks).drop 2, rfl, List.forall_mem_cons.mpr ⟨Or.inr ⟨by decide, _, gw932, by decide⟩, (fun _ h => nomatch h)⟩, rfl, by decide, gw933, gw612, rfl⟩
theorem hdL_asks_51 : ∀ z ∈ ([(0, 92), (2, 97)] : List (Nat × Nat)), np_hd RL (tableOf hhL_asks) 51 z.1 z.2 := List.forall_mem_cons.mpr ⟨hdL_asks_51_0, List.forall_mem_cons.mpr ⟨hdL_asks_51_1, fun _ h => nomatch h⟩⟩
theorem hdL_asks_65_0 : np_hd RL (tableOf hhL_asks) 65 0 92 := ⟨(tableOf hhL_asks).take 0, _, (tableOf hhL_asks).drop 1, rfl, (fun _ h => nomatch h), rfl, by decide, gw932, gw518, rfl⟩
theorem hdL_asks_65_1 : np_hd RL (tableOf hhL_asks) 65 2 97 := ⟨(tableOf hhL_asks).take 1, _, (tableOf hhL_asks).drop 2, rfl, List.forall_mem_cons.mpr ⟨Or.inr ⟨by decide, _, gw932, by decide⟩, (fun _ h => nomatch h)⟩, rfl, by decide, gw933, gw612, rfl⟩
theorem hdL_asks_65 : ∀ z ∈ ([(0, 92), (2, 97)] : List (Nat × Nat)), np_hd RL (tableOf hhL_asks) 65 z.1 z.2 := List.forall_mem_cons.mpr ⟨hdL_asks_65_0, List.forall_mem_cons.mpr ⟨hdL_asks_65_1, fun _ h => nomatch h⟩⟩
theorem hdL_asks_79_0 : np_hd RL (tableOf hhL_asks) 79 0 92 := ⟨(tableOf hhL_asks).take 0, _, (tableOf hhL_asks).drop 1, rfl, (fun _ h => nomatch h), rfl, by decide, gw932, gw518, rfl⟩
theorem hdL_asks_79_1 : np_hd RL (tableOf hhL_asks) 79 2 97 := ⟨(tableOf hhL_asks).take 1, _, (tableOf hhL_asks).drop 2, rfl, List.forall_mem_cons.mpr ⟨Or.inr ⟨by decide, _, gw932, by decide⟩, (fun _ h => nomatch h)⟩, rfl, by decide, gw933, gw612, rfl⟩
theorem hdL_asks_79 : ∀ z ∈ ([(0, 92), (2, 97)] : List (Nat × Nat)), np_hd RL (tableOf hhL_asks) 79 z.1 z.2 := List.forall_mem_cons.mpr ⟨hdL_asks_79_0, List.forall_mem_cons.mpr ⟨hdL_asks_79_1, fun _ h => nomatch h⟩⟩
theorem hdL_asks_88_0 : np_hd RL (tableOf hhL_asks) 88 0 92 := ⟨(tableOf hhL_asks).take 0, _, (tableOf hhL_asks).drop 1, rfl, (fun _ h => nomatch h), rfl, by decide, gw932, gw518, rfl⟩
theorem hdL_asks_88_1 : np_hd RL (tableOf hhL_asks) 88 2 97 := ⟨(tableOf hhL_asks).take 1, _, (tableOf hhL_asks).drop 2, rfl, List.forall_mem_cons.mpr ⟨Or.inr ⟨by decide, _, gw932, by decide⟩, (fun _ h => nomatch h)⟩, rfl, by decide, gw933, gw612, rfl⟩
theorem hdL_asks_88 : ∀ z ∈ ([(0, 92), (2, 97)] : List (Nat × Nat)), np_hd RL (tableOf hhL_asks) 88 z.1 z.2 := List.forall_mem_cons.mpr ⟨hdL_asks_88_0, List.forall_mem_cons.mpr ⟨hdL_asks_88_1, fun _ h => nomatch h⟩⟩
def is_L_asks (Rt : np_Rt) : List (Nat × np_Op) := [(0, np_ild 1 1), (1, nq_ifne 13), (4, np_ald 1 0), (5, np_ild 1 2), (6, np_ild 1 3), (7, nw_callVX 11 3 sp_X11_print 7 1 6 1 6 [(0, 92), (2, 97)]), (10, np_goto 91), (13, np_ild 1 1), (14, np_push 1 (.int 1)), (15, nq_icne 27), (18, np_ald 1 0), (19, np_ild 1 2), (20, np_ild 1 3), (21, nw_callVX 11 3 sp_X11_type 6 1 6 1 6 [(0, 92), (2, 97)]), (24, np_goto 91), (27, np_ild 1 1), (28, np_push 1 (.int 2)), (29, nq_icne 40), (32, np_ald 1 0), (33, np_ild 1 2), (34, nw_callVX 11 2 sp_X11_step 7 1 6 1 6 [(0, 92), (2, 97)]), (37, np_goto 91), (40, np_ild 1 1), (41, np_push 1 (.int 3)), (42, nq_icne 57), (45, np_ald 1 0), (46, np_ild 1 2), (47, np_ild 1 3), (48, np_ild 2 4), (50, np_push 1 (.int 0)), (51, nw_callVX 11 5 sp_X11_read 9 1 6 1 6 [(0, 92), (2, 97)]), (54, np_goto 91), (57, np_ild 1 1), (58, np_push 1 (.int 4)), (59, nq_icne 71), (62, np_ald 1 0), (63, np_ild 1 2), (64, np_ild 1 3), (65, nw_callVX 11 3 sp_X11_skipped 4 1 6 1 6 [(0, 92), (2, 97)]), (68, np_goto 91), (71, np_ild 1 1), (72, np_push 1 (.int 5)), (73, nq_icne 85), (76, np_ald 1 0), (77, np_ild 1 2), (78, np_ild 1 3), (79, nw_callVX 11 3 sp_X11_derived 4 1 6 1 6 [(0, 92), (2, 97)]), (82, np_goto 91), (85, np_ald 1 0), (86, np_ild 1 2), (87, np_ild 1 3), (88, nw_callVX 11 3 sp_X11_unit 5 1 6 1 6 [(0, 92), (2, 97)]), (91, np_ret Rt), (92, np_ast 2 5), (94, np_push 2 (.int (-70007))), (96, np_ret Rt), (97, np_ast 2 5), (99, np_push 2 (.int (-70008))), (101, np_ret Rt)]
set_option maxRecDepth 20000 in
theorem so_L_asks {X : np_Ctx} {Rt : np_Rt} (hX : np_ok RL cL_asks 6 8 225 1 6 .ireturn X) (htb : np_tab X = tableOf hhL_asks) (hR : ∀ st w ce sl, Rt st w ce sl → X.2.2.1 st w ce sl) : ∀ q ∈ is_L_asks Rt, np_S X q.1 q.2 :=
  List.forall_mem_cons.mpr ⟨np_s_iload_n hX dL_asks_0 rfl, List.forall_mem_cons.mpr ⟨np_S.mono (op := np_ifne 13) (np_s_if_ne hX dL_asks_1 (by decide)) nq_ifne_le, List.forall_mem_cons.mpr ⟨np_s_aload_n hX dL_asks_4 rfl, List.forall_mem_cons.mpr ⟨np_s_iload_n hX dL_asks_5 rfl, List.forall_mem_cons.mpr ⟨np_s_iload_n hX dL_asks_6 rfl, List.forall_mem_cons.mpr ⟨np_S.mono (op := np_callVX 11 3 sp_X11_print 7 1 6 1 6 [(0, 92), (2, 97)]) (np_s_callVX hX C_X11_print dL_asks_7 (q := (RX11, TX11, 14)) rfl rfl gw937 gw63 gw934 gw935 gw936 ⟨by decide, by decide, by decide⟩ (by decide) (by decide) (htb.symm ▸ hdL_asks_7)) nw_callVX_le2, List.forall_mem_cons.mpr ⟨np_s_goto hX dL_asks_10 (by decide), List.forall_mem_cons.mpr ⟨np_s_iload_n hX dL_asks_13 rfl, List.forall_mem_cons.mpr ⟨np_s_iconst hX dL_asks_14 (by decide), List.forall_mem_cons.mpr ⟨np_S.mono (op := np_icne 27) (np_s_icmp_ne hX dL_asks_15 (by decide)) nq_icne_le, List.forall_mem_cons.mpr ⟨np_s_aload_n hX dL_asks_18 rfl, List.forall_mem_cons.mpr ⟨np_s_iload_n hX dL_asks_19 rfl, List.forall_mem_cons.mpr ⟨np_s_iload_n hX dL_asks_20 rfl, List.forall_mem_cons.mpr ⟨np_S.mono (op := np_callVX 11 3 sp_X11_type 6 1 6 1 6 [(0, 92), (2, 97)]) (np_s_callVX hX C_X11_type dL_asks_21 (q := (RX11, TX11, 14)) rfl rfl gw965 gw63 gw962 gw963 gw964 ⟨by decide, by decide, by decide⟩ (by decide) (by decide) (htb.symm ▸ hdL_asks_21)) nw_callVX_le2, List.forall_mem_cons.mpr ⟨np_s_goto hX dL_asks_24 (by decide), List.forall_mem_cons.mpr ⟨np_s_iload_n hX dL_asks_27 rfl, List.forall_mem_cons.mpr ⟨np_s_iconst hX dL_asks_28 (by decide), List.forall_mem_cons.mpr ⟨np_S.mono (op := np_icne 40) (np_s_icmp_ne hX dL_asks_29 (by decide)) nq_icne_le, List.forall_mem_cons.mpr ⟨np_s_aload_n hX dL_asks_32 rfl, List.forall_mem_cons.mpr ⟨np_s_iload_n hX dL_asks_33 rfl, List.forall_mem_cons.mpr ⟨np_S.mono (op := np_callVX 11 2 sp_X11_step 7 1 6 1 6 [(0, 92), (2, 97)]) (np_s_callVX hX C_X11_step dL_asks_34 (q := (RX11, TX11, 14)) rfl rfl gw973 gw63 gw970 gw971 gw972 ⟨by decide, by decide, by decide⟩ (by decide) (by decide) (htb.symm ▸ hdL_asks_34)) nw_callVX_le2, List.forall_mem_cons.mpr ⟨np_s_goto hX dL_asks_37 (by decide), List.forall_mem_cons.mpr ⟨np_s_iload_n hX dL_asks_40 rfl, List.forall_mem_cons.mpr ⟨np_s_iconst hX dL_asks_41 (by decide), List.forall_mem_cons.mpr ⟨np_S.mono (op := np_icne 57) (np_s_icmp_ne hX dL_asks_42 (by decide)) nq_icne_le, List.forall_mem_cons.mpr ⟨np_s_aload_n hX dL_asks_45 rfl, List.forall_mem_cons.mpr ⟨np_s_iload_n hX dL_asks_46 rfl, List.forall_mem_cons.mpr ⟨np_s_iload_n hX dL_asks_47 rfl, List.forall_mem_cons.mpr ⟨np_s_iload hX dL_asks_48, List.forall_mem_cons.mpr ⟨np_s_iconst hX dL_asks_50 (by decide), List.forall_mem_cons.mpr ⟨np_S.mono (op := np_callVX 11 5 sp_X11_read 9 1 6 1 6 [(0, 92), (2, 97)]) (np_s_callVX hX C_X11_read dL_asks_51 (q := (RX11, TX11, 14)) rfl rfl gw1134 gw63 gw1131 gw1132 gw1133 ⟨by decide, by decide, by decide⟩ (by decide) (by decide) (htb.symm ▸ hdL_asks_51)) nw_callVX_le2, List.forall_mem_cons.mpr ⟨np_s_goto hX dL_asks_54 (by decide), List.forall_mem_cons.mpr ⟨np_s_iload_n hX dL_asks_57 rfl, List.forall_mem_cons.mpr ⟨np_s_iconst hX dL_asks_58 (by decide), List.forall_mem_cons.mpr ⟨np_S.mono (op := np_icne 71) (np_s_icmp_ne hX dL_asks_59 (by decide)) nq_icne_le, List.forall_mem_cons.mpr ⟨np_s_aload_n hX dL_asks_62 rfl, List.forall_mem_cons.mpr ⟨np_s_iload_n hX dL_asks_63 rfl, List.forall_mem_cons.mpr ⟨np_s_iload_n hX dL_asks_64 rfl, List.forall_mem_cons.mpr ⟨np_S.mono (op := np_callVX 11 3 sp_X11_skipped 4 1 6 1 6 [(0, 92), (2, 97)]) (np_s_callVX hX C_X11_skipped dL_asks_65 (q := (RX11, TX11, 14)) rfl rfl gw1144 gw63 gw1141 gw1142 gw1143 ⟨by decide, by decide, by decide⟩ (by decide) (by decide) (htb.symm ▸ hdL_asks_65)) nw_callVX_le2, List.forall_mem_cons.mpr ⟨np_s_goto hX dL_asks_68 (by decide), List.forall_mem_cons.mpr ⟨np_s_iload_n hX dL_asks_71 rfl, List.forall_mem_cons.mpr ⟨np_s_iconst hX dL_asks_72 (by decide), List.forall_mem_cons.mpr ⟨np_S.mono (op := np_icne 85) (np_s_icmp_ne hX dL_asks_73 (by decide)) nq_icne_le, List.forall_mem_cons.mpr ⟨np_s_aload_n hX dL_asks_76 rfl, List.forall_mem_cons.mpr ⟨np_s_iload_n hX dL_asks_77 rfl, List.forall_mem_cons.mpr ⟨np_s_iload_n hX dL_asks_78 rfl, List.forall_mem_cons.mpr ⟨np_S.mono (op := np_callVX 11 3 sp_X11_derived 4 1 6 1 6 [(0, 92), (2, 97)]) (np_s_callVX hX C_X11_derived dL_asks_79 (q := (RX11, TX11, 14)) rfl rfl gw1149 gw63 gw1146 gw1147 gw1148 ⟨by decide, by decide, by decide⟩ (by decide) (by decide) (htb.symm ▸ hdL_asks_79)) nw_callVX_le2, List.forall_mem_cons.mpr ⟨np_s_goto hX dL_asks_82 (by decide), List.forall_mem_cons.mpr ⟨np_s_aload_n hX dL_asks_85 rfl, List.forall_mem_cons.mpr ⟨np_s_iload_n hX dL_asks_86 rfl, List.forall_mem_cons.mpr ⟨np_s_iload_n hX dL_asks_87 rfl, List.forall_mem_cons.mpr ⟨np_S.mono (op := np_callVX 11 3 sp_X11_unit 5 1 6 1 6 [(0, 92), (2, 97)]) (np_s_callVX hX C_X11_unit dL_asks_88 (q := (RX11, TX11, 14)) rfl rfl gw1181 gw63 gw1178 gw1179 gw1180 ⟨by decide, by decide, by decide⟩ (by decide) (by decide) (htb.symm ▸ hdL_asks_88)) nw_callVX_le2, List.forall_mem_cons.mpr ⟨np_S.mono (op := np_ret X.2.2.1) (np_s_ret hX dL_asks_91) (nq_ret_le hR), List.forall_mem_cons.mpr ⟨np_s_astore hX dL_asks_92 (by decide), List.forall_mem_cons.mpr ⟨np_s_ldc hX dL_asks_94 gw1184, List.forall_mem_cons.mpr ⟨np_S.mono (op := np_ret X.2.2.1) (np_s_ret hX dL_asks_96) (nq_ret_le hR), List.forall_mem_cons.mpr ⟨np_s_astore hX dL_asks_97 (by decide), List.forall_mem_cons.mpr ⟨np_s_ldc hX dL_asks_99 gw1185, List.forall_mem_cons.mpr ⟨np_S.mono (op := np_ret X.2.2.1) (np_s_ret hX dL_asks_101) (nq_ret_le hR), fun _ h => nomatch h⟩⟩⟩⟩⟩⟩⟩⟩⟩⟩⟩⟩⟩⟩⟩⟩⟩⟩⟩⟩⟩⟩⟩⟩⟩⟩⟩⟩⟩⟩⟩⟩⟩⟩⟩⟩⟩⟩⟩⟩⟩⟩⟩⟩⟩⟩⟩⟩⟩⟩⟩⟩⟩⟩⟩⟩⟩⟩⟩
noncomputable def m_L_asks (S : pw_S) (i0 : Nat) (x1 : Int32) (x2 : Int32) (x3 : Int32) (x4 : Int32) : pw_R Int32 :=
 if x1 = 0 then
 (pw_b (m_X11_print S i0 x2 x3) fun S1 r4 =>
 pw_e r4 (fun r6 =>
 (some (S1, r6))) (fun e => pw_x e
 (some (S1, (-70007)))
 none
 (some (S1, (-70008)))))
 else
 (if x1 = 1 then
 (pw_b (m_X11_type S i0 x2 x3) fun S17 r20 =>
 pw_e r20 (fun r22 =>
 (some (S17, r22))) (fun e => pw_x e
 (some (S17, (-70007)))
 none
 (some (S17, (-70008)))))
 else
 (if x1 = 2 then
 (pw_b (m_X11_step S i0 x2) fun S33 r36 =>
 pw_e r36 (fun r38 =>
 (some (S33, r38))) (fun e => pw_x e
 (some (S33, (-70007)))
 none
 (some (S33, (-70008)))))
 else
 (if x1 = 3 then
 (pw_b (m_X11_read S i0 x2 x3 x4 0) fun S49 r52 =>
 pw_e r52 (fun r54 =>
 (some (S49, r54))) (fun e => pw_x e
 (some (S49, (-70007)))
 none
 (some (S49, (-70008)))))
 else
 (if x1 = 4 then
 (pw_b (m_X11_skipped S i0 x2 x3) fun S65 r68 =>
 pw_e r68 (fun r70 =>
 (some (S65, r70))) (fun e => pw_x e
 (some (S65, (-70007)))
 none
 (some (S65, (-70008)))))
 else
 (if x1 = 5 then
 (pw_b (m_X11_derived S i0 x2 x3) fun S81 r84 =>
 pw_e r84 (fun r86 =>
 (some (S81, r86))) (fun e => pw_x e
 (some (S81, (-70007)))
 none
 (some (S81, (-70008)))))
 else
 (pw_b (m_X11_unit S i0 x2 x3) fun S97 r100 =>
 pw_e r100 (fun r102 =>
 (some (S97, r102))) (fun e => pw_x e
 (some (S97, (-70007)))
 none
 (some (S97, (-70008))))))))))
def sp_L_asks : np_Sp := fun vs w Q => ∃ (q : Nat) (S : pw_S) (i0 : Nat) (x1 : Int32) (x2 : Int32) (x3 : Int32) (x4 : Int32), vs = [.ref (pw_pl 61 i0), .int x1, .int x2, .int x3, .int x4] ∧ pw_ok q 61 i0 = true ∧ pw_W q w S ∧ pw_p (m_L_asks S i0 x1 x2 x3 x4) (fun S' r => ∀ f', pw_W q (w.1, f') S' → Q (some (.int r)) (w.1, f'))
set_option maxRecDepth 100000 in
set_option maxHeartbeats 8000000 in
theorem C_L_asks : np_CW yL_asks cL_asks 6 (some .int) hhL_asks 8 225 1 6 (sp_L_asks) := by
  refine np_ofW (by decide) ?_
  intro X vs w Q hsp hX htb hRt
  obtain ⟨q, S, i0, x1, x2, x3, x4, rfl, hi0, hW, h⟩ := hsp
  obtain ⟨n, f⟩ := w
  have hn : n = 65536 + q := hW.1
  subst hn
  unfold m_L_asks at h
  have hR : ∀ st w ce sl, np_rtN (some .int) 1 6 (65536 + q) Q st w ce sl → X.2.2.1 st w ce sl := fun _ _ _ _ h => by rw [hRt]; exact h
  refine np_soundW (so_L_asks hX htb hR) [] 400 0 _ _ _ _ _ ?_
  conv => whnf
  refine pw_br h (fun _ h => ?_) (fun _ h => ?_)
  · conv => whnf
    refine np_rd_i (hW.g hi0) ?_
    conv => whnf
    refine ⟨q, S, i0, x2, x3, rfl, hi0, hW, pw_bd h (fun S1 r4 h f2 hW3 => ?_)⟩
    rcases r4 with r6 | _ | _ | _ | e7
    · replace h := pw_ei h
      conv => whnf
      obtain ⟨f8, hW9, hf10⟩ := pw_reset hW3 (Nat.le_refl _)
      exact ⟨Nat.le_of_ble_eq_true rfl, Nat.le_of_ble_eq_true rfl, ⟨_, rfl⟩, pw_cvi _, f8, hf10, pw_ps h _ hW9⟩
    · replace h := pw_x0 (pw_ee h)
      conv => whnf
      obtain ⟨f11, hW12, hf13⟩ := pw_reset hW3 (Nat.le_refl _)
      exact ⟨Nat.le_of_ble_eq_true rfl, Nat.le_of_ble_eq_true rfl, ⟨_, rfl⟩, pw_cvi _, f11, hf13, pw_ps h _ hW12⟩
    · exact (pw_pn (pw_x1 (pw_ee h))).elim
    · replace h := pw_x2 (pw_ee h)
      conv => whnf
      obtain ⟨f14, hW15, hf16⟩ := pw_reset hW3 (Nat.le_refl _)
      exact ⟨Nat.le_of_ble_eq_true rfl, Nat.le_of_ble_eq_true rfl, ⟨_, rfl⟩, pw_cvi _, f14, hf16, pw_ps h _ hW15⟩
    · exact (pw_pn h).elim
  · conv => whnf
    refine pw_br h (fun _ h => ?_) (fun _ h => ?_)
    · conv => whnf
      refine np_rd_i (hW.g hi0) ?_
      conv => whnf
      refine ⟨q, S, i0, x2, x3, rfl, hi0, hW, pw_bd h (fun S17 r20 h f18 hW19 => ?_)⟩
      rcases r20 with r22 | _ | _ | _ | e23
      · replace h := pw_ei h
        conv => whnf
        obtain ⟨f24, hW25, hf26⟩ := pw_reset hW19 (Nat.le_refl _)
        exact ⟨Nat.le_of_ble_eq_true rfl, Nat.le_of_ble_eq_true rfl, ⟨_, rfl⟩, pw_cvi _, f24, hf26, pw_ps h _ hW25⟩
      · replace h := pw_x0 (pw_ee h)
        conv => whnf
        obtain ⟨f27, hW28, hf29⟩ := pw_reset hW19 (Nat.le_refl _)
        exact ⟨Nat.le_of_ble_eq_true rfl, Nat.le_of_ble_eq_true rfl, ⟨_, rfl⟩, pw_cvi _, f27, hf29, pw_ps h _ hW28⟩
      · exact (pw_pn (pw_x1 (pw_ee h))).elim
      · replace h := pw_x2 (pw_ee h)
        conv => whnf
        obtain ⟨f30, hW31, hf32⟩ := pw_reset hW19 (Nat.le_refl _)
        exact ⟨Nat.le_of_ble_eq_true rfl, Nat.le_of_ble_eq_true rfl, ⟨_, rfl⟩, pw_cvi _, f30, hf32, pw_ps h _ hW31⟩
      · exact (pw_pn h).elim
    · conv => whnf
      refine pw_br h (fun _ h => ?_) (fun _ h => ?_)
      · conv => whnf
        refine np_rd_i (hW.g hi0) ?_
        conv => whnf
        refine ⟨q, S, i0, x2, rfl, hi0, hW, pw_bd h (fun S33 r36 h f34 hW35 => ?_)⟩
        rcases r36 with r38 | _ | _ | _ | e39
        · replace h := pw_ei h
          conv => whnf
          obtain ⟨f40, hW41, hf42⟩ := pw_reset hW35 (Nat.le_refl _)
          exact ⟨Nat.le_of_ble_eq_true rfl, Nat.le_of_ble_eq_true rfl, ⟨_, rfl⟩, pw_cvi _, f40, hf42, pw_ps h _ hW41⟩
        · replace h := pw_x0 (pw_ee h)
          conv => whnf
          obtain ⟨f43, hW44, hf45⟩ := pw_reset hW35 (Nat.le_refl _)
          exact ⟨Nat.le_of_ble_eq_true rfl, Nat.le_of_ble_eq_true rfl, ⟨_, rfl⟩, pw_cvi _, f43, hf45, pw_ps h _ hW44⟩
        · exact (pw_pn (pw_x1 (pw_ee h))).elim
        · replace h := pw_x2 (pw_ee h)
          conv => whnf
          obtain ⟨f46, hW47, hf48⟩ := pw_reset hW35 (Nat.le_refl _)
          exact ⟨Nat.le_of_ble_eq_true rfl, Nat.le_of_ble_eq_true rfl, ⟨_, rfl⟩, pw_cvi _, f46, hf48, pw_ps h _ hW47⟩
        · exact (pw_pn h).elim
      · conv => whnf
        refine pw_br h (fun _ h => ?_) (fun _ h => ?_)
        · conv => whnf
          refine np_rd_i (hW.g hi0) ?_
          conv => whnf
          refine ⟨q, S, i0, x2, x3, x4, 0, rfl, hi0, hW, pw_bd h (fun S49 r52 h f50 hW51 => ?_)⟩
          rcases r52 with r54 | _ | _ | _ | e55
          · replace h := pw_ei h
            conv => whnf
            obtain ⟨f56, hW57, hf58⟩ := pw_reset hW51 (Nat.le_refl _)
            exact ⟨Nat.le_of_ble_eq_true rfl, Nat.le_of_ble_eq_true rfl, ⟨_, rfl⟩, pw_cvi _, f56, hf58, pw_ps h _ hW57⟩
          · replace h := pw_x0 (pw_ee h)
            conv => whnf
            obtain ⟨f59, hW60, hf61⟩ := pw_reset hW51 (Nat.le_refl _)
            exact ⟨Nat.le_of_ble_eq_true rfl, Nat.le_of_ble_eq_true rfl, ⟨_, rfl⟩, pw_cvi _, f59, hf61, pw_ps h _ hW60⟩
          · exact (pw_pn (pw_x1 (pw_ee h))).elim
          · replace h := pw_x2 (pw_ee h)
            conv => whnf
            obtain ⟨f62, hW63, hf64⟩ := pw_reset hW51 (Nat.le_refl _)
            exact ⟨Nat.le_of_ble_eq_true rfl, Nat.le_of_ble_eq_true rfl, ⟨_, rfl⟩, pw_cvi _, f62, hf64, pw_ps h _ hW63⟩
          · exact (pw_pn h).elim
        · conv => whnf
          refine pw_br h (fun _ h => ?_) (fun _ h => ?_)
          · conv => whnf
            refine np_rd_i (hW.g hi0) ?_
            conv => whnf
            refine ⟨q, S, i0, x2, x3, rfl, hi0, hW, pw_bd h (fun S65 r68 h f66 hW67 => ?_)⟩
            rcases r68 with r70 | _ | _ | _ | e71
            · replace h := pw_ei h
              conv => whnf
              obtain ⟨f72, hW73, hf74⟩ := pw_reset hW67 (Nat.le_refl _)
              exact ⟨Nat.le_of_ble_eq_true rfl, Nat.le_of_ble_eq_true rfl, ⟨_, rfl⟩, pw_cvi _, f72, hf74, pw_ps h _ hW73⟩
            · replace h := pw_x0 (pw_ee h)
              conv => whnf
              obtain ⟨f75, hW76, hf77⟩ := pw_reset hW67 (Nat.le_refl _)
              exact ⟨Nat.le_of_ble_eq_true rfl, Nat.le_of_ble_eq_true rfl, ⟨_, rfl⟩, pw_cvi _, f75, hf77, pw_ps h _ hW76⟩
            · exact (pw_pn (pw_x1 (pw_ee h))).elim
            · replace h := pw_x2 (pw_ee h)
              conv => whnf
              obtain ⟨f78, hW79, hf80⟩ := pw_reset hW67 (Nat.le_refl _)
              exact ⟨Nat.le_of_ble_eq_true rfl, Nat.le_of_ble_eq_true rfl, ⟨_, rfl⟩, pw_cvi _, f78, hf80, pw_ps h _ hW79⟩
            · exact (pw_pn h).elim
          · conv => whnf
            refine pw_br h (fun _ h => ?_) (fun _ h => ?_)
            · conv => whnf
              refine np_rd_i (hW.g hi0) ?_
              conv => whnf
              refine ⟨q, S, i0, x2, x3, rfl, hi0, hW, pw_bd h (fun S81 r84 h f82 hW83 => ?_)⟩
              rcases r84 with r86 | _ | _ | _ | e87
              · replace h := pw_ei h
                conv => whnf
                obtain ⟨f88, hW89, hf90⟩ := pw_reset hW83 (Nat.le_refl _)
                exact ⟨Nat.le_of_ble_eq_true rfl, Nat.le_of_ble_eq_true rfl, ⟨_, rfl⟩, pw_cvi _, f88, hf90, pw_ps h _ hW89⟩
              · replace h := pw_x0 (pw_ee h)
                conv => whnf
                obtain ⟨f91, hW92, hf93⟩ := pw_reset hW83 (Nat.le_refl _)
                exact ⟨Nat.le_of_ble_eq_true rfl, Nat.le_of_ble_eq_true rfl, ⟨_, rfl⟩, pw_cvi _, f91, hf93, pw_ps h _ hW92⟩
              · exact (pw_pn (pw_x1 (pw_ee h))).elim
              · replace h := pw_x2 (pw_ee h)
                conv => whnf
                obtain ⟨f94, hW95, hf96⟩ := pw_reset hW83 (Nat.le_refl _)
                exact ⟨Nat.le_of_ble_eq_true rfl, Nat.le_of_ble_eq_true rfl, ⟨_, rfl⟩, pw_cvi _, f94, hf96, pw_ps h _ hW95⟩
              · exact (pw_pn h).elim
            · conv => whnf
              refine np_rd_i (hW.g hi0) ?_
              conv => whnf
              refine ⟨q, S, i0, x2, x3, rfl, hi0, hW, pw_bd h (fun S97 r100 h f98 hW99 => ?_)⟩
              rcases r100 with r102 | _ | _ | _ | e103
              · replace h := pw_ei h
                conv => whnf
                obtain ⟨f104, hW105, hf106⟩ := pw_reset hW99 (Nat.le_refl _)
                exact ⟨Nat.le_of_ble_eq_true rfl, Nat.le_of_ble_eq_true rfl, ⟨_, rfl⟩, pw_cvi _, f104, hf106, pw_ps h _ hW105⟩
              · replace h := pw_x0 (pw_ee h)
                conv => whnf
                obtain ⟨f107, hW108, hf109⟩ := pw_reset hW99 (Nat.le_refl _)
                exact ⟨Nat.le_of_ble_eq_true rfl, Nat.le_of_ble_eq_true rfl, ⟨_, rfl⟩, pw_cvi _, f107, hf109, pw_ps h _ hW108⟩
              · exact (pw_pn (pw_x1 (pw_ee h))).elim
              · replace h := pw_x2 (pw_ee h)
                conv => whnf
                obtain ⟨f110, hW111, hf112⟩ := pw_reset hW99 (Nat.le_refl _)
                exact ⟨Nat.le_of_ble_eq_true rfl, Nat.le_of_ble_eq_true rfl, ⟨_, rfl⟩, pw_cvi _, f110, hf112, pw_ps h _ hW111⟩
              · exact (pw_pn h).elim
theorem dL_readsAt_0 : decode cL_readsAt 0 = .ok (.aload_n 0, 1) := by decide +kernel
theorem dL_readsAt_1 : decode cL_readsAt 1 = .ok (.iload_n 1, 1) := by decide +kernel
theorem dL_readsAt_2 : decode cL_readsAt 2 = .ok (.iload_n 2, 1) := by decide +kernel
theorem dL_readsAt_3 : decode cL_readsAt 3 = .ok (.iload_n 3, 1) := by decide +kernel
theorem dL_readsAt_4 : decode cL_readsAt 4 = .ok (.iload 4, 2) := by decide +kernel
theorem dL_readsAt_6 : decode cL_readsAt 6 = .ok (.invokevirtual 23, 3) := by decide +kernel
theorem dL_readsAt_9 : decode cL_readsAt 9 = .ok (.ireturn, 1) := by decide +kernel
theorem dL_readsAt_10 : decode cL_readsAt 10 = .ok (.astore 5, 2) := by decide +kernel
theorem dL_readsAt_12 : decode cL_readsAt 12 = .ok (.ldc 39, 2) := by decide +kernel
theorem dL_readsAt_14 : decode cL_readsAt 14 = .ok (.ireturn, 1) := by decide +kernel
def hhL_readsAt : List (Nat × Nat × Nat × Nat) := [((0 : Nat), (9 : Nat), (10 : Nat), (37 : Nat))]
theorem hdL_readsAt_6_0 : np_hd RL (tableOf hhL_readsAt) 6 0 10 := ⟨(tableOf hhL_readsAt).take 0, _, (tableOf hhL_readsAt).drop 1, rfl, (fun _ h => nomatch h), rfl, by decide, gw932, gw518, rfl⟩
theorem hdL_readsAt_6 : ∀ z ∈ ([(0, 10)] : List (Nat × Nat)), np_hd RL (tableOf hhL_readsAt) 6 z.1 z.2 := List.forall_mem_cons.mpr ⟨hdL_readsAt_6_0, fun _ h => nomatch h⟩
def is_L_readsAt (Rt : np_Rt) : List (Nat × np_Op) := [(0, np_ald 1 0), (1, np_ild 1 1), (2, np_ild 1 2), (3, np_ild 1 3), (4, np_ild 2 4), (6, nw_callVX 11 5 sp_X11_read 9 1 6 1 6 [(0, 10)]), (9, np_ret Rt), (10, np_ast 2 5), (12, np_push 2 (.int (-70007))), (14, np_ret Rt)]
set_option maxRecDepth 20000 in
theorem so_L_readsAt {X : np_Ctx} {Rt : np_Rt} (hX : np_ok RL cL_readsAt 6 8 225 1 6 .ireturn X) (htb : np_tab X = tableOf hhL_readsAt) (hR : ∀ st w ce sl, Rt st w ce sl → X.2.2.1 st w ce sl) : ∀ q ∈ is_L_readsAt Rt, np_S X q.1 q.2 :=
  List.forall_mem_cons.mpr ⟨np_s_aload_n hX dL_readsAt_0 rfl, List.forall_mem_cons.mpr ⟨np_s_iload_n hX dL_readsAt_1 rfl, List.forall_mem_cons.mpr ⟨np_s_iload_n hX dL_readsAt_2 rfl, List.forall_mem_cons.mpr ⟨np_s_iload_n hX dL_readsAt_3 rfl, List.forall_mem_cons.mpr ⟨np_s_iload hX dL_readsAt_4, List.forall_mem_cons.mpr ⟨np_S.mono (op := np_callVX 11 5 sp_X11_read 9 1 6 1 6 [(0, 10)]) (np_s_callVX hX C_X11_read dL_readsAt_6 (q := (RX11, TX11, 14)) rfl rfl gw1134 gw63 gw1131 gw1132 gw1133 ⟨by decide, by decide, by decide⟩ (by decide) (by decide) (htb.symm ▸ hdL_readsAt_6)) nw_callVX_le2, List.forall_mem_cons.mpr ⟨np_S.mono (op := np_ret X.2.2.1) (np_s_ret hX dL_readsAt_9) (nq_ret_le hR), List.forall_mem_cons.mpr ⟨np_s_astore hX dL_readsAt_10 (by decide), List.forall_mem_cons.mpr ⟨np_s_ldc hX dL_readsAt_12 gw1184, List.forall_mem_cons.mpr ⟨np_S.mono (op := np_ret X.2.2.1) (np_s_ret hX dL_readsAt_14) (nq_ret_le hR), fun _ h => nomatch h⟩⟩⟩⟩⟩⟩⟩⟩⟩⟩
noncomputable def m_L_readsAt (S : pw_S) (i0 : Nat) (x1 : Int32) (x2 : Int32) (x3 : Int32) (x4 : Int32) : pw_R Int32 :=
 pw_b (m_X11_read S i0 x1 x2 x3 x4) fun S1 r4 =>
 pw_e r4 (fun r6 =>
 (some (S1, r6))) (fun e => pw_x e
 (some (S1, (-70007)))
 none
 none)
def sp_L_readsAt : np_Sp := fun vs w Q => ∃ (q : Nat) (S : pw_S) (i0 : Nat) (x1 : Int32) (x2 : Int32) (x3 : Int32) (x4 : Int32), vs = [.ref (pw_pl 61 i0), .int x1, .int x2, .int x3, .int x4] ∧ pw_ok q 61 i0 = true ∧ pw_W q w S ∧ pw_p (m_L_readsAt S i0 x1 x2 x3 x4) (fun S' r => ∀ f', pw_W q (w.1, f') S' → Q (some (.int r)) (w.1, f'))
set_option maxRecDepth 100000 in
set_option maxHeartbeats 8000000 in
theorem C_L_readsAt : np_CW yL_readsAt cL_readsAt 6 (some .int) hhL_readsAt 8 225 1 6 (sp_L_readsAt) := by
  refine np_ofW (by decide) ?_
  intro X vs w Q hsp hX htb hRt
  obtain ⟨q, S, i0, x1, x2, x3, x4, rfl, hi0, hW, h⟩ := hsp
  obtain ⟨n, f⟩ := w
  have hn : n = 65536 + q := hW.1
  subst hn
  unfold m_L_readsAt at h
  have hR : ∀ st w ce sl, np_rtN (some .int) 1 6 (65536 + q) Q st w ce sl → X.2.2.1 st w ce sl := fun _ _ _ _ h => by rw [hRt]; exact h
  refine np_soundW (so_L_readsAt hX htb hR) [] 400 0 _ _ _ _ _ ?_
  conv => whnf
  refine np_rd_i (hW.g hi0) ?_
  conv => whnf
  refine ⟨q, S, i0, x1, x2, x3, x4, rfl, hi0, hW, pw_bd h (fun S1 r4 h f2 hW3 => ?_)⟩
  rcases r4 with r6 | _ | _ | _ | e7
  · replace h := pw_ei h
    conv => whnf
    obtain ⟨f8, hW9, hf10⟩ := pw_reset hW3 (Nat.le_refl _)
    exact ⟨Nat.le_of_ble_eq_true rfl, Nat.le_of_ble_eq_true rfl, ⟨_, rfl⟩, pw_cvi _, f8, hf10, pw_ps h _ hW9⟩
  · replace h := pw_x0 (pw_ee h)
    conv => whnf
    obtain ⟨f11, hW12, hf13⟩ := pw_reset hW3 (Nat.le_refl _)
    exact ⟨Nat.le_of_ble_eq_true rfl, Nat.le_of_ble_eq_true rfl, ⟨_, rfl⟩, pw_cvi _, f11, hf13, pw_ps h _ hW12⟩
  · exact (pw_pn (pw_x1 (pw_ee h))).elim
  · exact (pw_pn (pw_x2 (pw_ee h))).elim
  · exact (pw_pn h).elim
theorem dL_items_0 : decode cL_items 0 = .ok (.aload_n 0, 1) := by decide +kernel
theorem dL_items_1 : decode cL_items 1 = .ok (.iload_n 1, 1) := by decide +kernel
theorem dL_items_2 : decode cL_items 2 = .ok (.iload_n 2, 1) := by decide +kernel
theorem dL_items_3 : decode cL_items 3 = .ok (.iload_n 3, 1) := by decide +kernel
theorem dL_items_4 : decode cL_items 4 = .ok (.iload 4, 2) := by decide +kernel
theorem dL_items_6 : decode cL_items 6 = .ok (.invokevirtual 43, 3) := by decide +kernel
theorem dL_items_9 : decode cL_items 9 = .ok (.ireturn, 1) := by decide +kernel
theorem dL_items_10 : decode cL_items 10 = .ok (.astore 5, 2) := by decide +kernel
theorem dL_items_12 : decode cL_items 12 = .ok (.ldc 48, 2) := by decide +kernel
theorem dL_items_14 : decode cL_items 14 = .ok (.ireturn, 1) := by decide +kernel
def hhL_items : List (Nat × Nat × Nat × Nat) := [((0 : Nat), (9 : Nat), (10 : Nat), (46 : Nat))]
theorem hdL_items_6_0 : np_hd RL (tableOf hhL_items) 6 1 10 := ⟨(tableOf hhL_items).take 0, _, (tableOf hhL_items).drop 1, rfl, (fun _ h => nomatch h), rfl, by decide, gw505, gw592, rfl⟩
theorem hdL_items_6 : ∀ z ∈ ([(1, 10)] : List (Nat × Nat)), np_hd RL (tableOf hhL_items) 6 z.1 z.2 := List.forall_mem_cons.mpr ⟨hdL_items_6_0, fun _ h => nomatch h⟩
def is_L_items (Rt : np_Rt) : List (Nat × np_Op) := [(0, np_ald 1 0), (1, np_ild 1 1), (2, np_ild 1 2), (3, np_ild 1 3), (4, np_ild 2 4), (6, nw_callVX 11 5 sp_X11_item 5 1 6 1 6 [(1, 10)]), (9, np_ret Rt), (10, np_ast 2 5), (12, np_push 2 (.int (-70009))), (14, np_ret Rt)]
set_option maxRecDepth 20000 in
theorem so_L_items {X : np_Ctx} {Rt : np_Rt} (hX : np_ok RL cL_items 6 7 124 1 6 .ireturn X) (htb : np_tab X = tableOf hhL_items) (hR : ∀ st w ce sl, Rt st w ce sl → X.2.2.1 st w ce sl) : ∀ q ∈ is_L_items Rt, np_S X q.1 q.2 :=
  List.forall_mem_cons.mpr ⟨np_s_aload_n hX dL_items_0 rfl, List.forall_mem_cons.mpr ⟨np_s_iload_n hX dL_items_1 rfl, List.forall_mem_cons.mpr ⟨np_s_iload_n hX dL_items_2 rfl, List.forall_mem_cons.mpr ⟨np_s_iload_n hX dL_items_3 rfl, List.forall_mem_cons.mpr ⟨np_s_iload hX dL_items_4, List.forall_mem_cons.mpr ⟨np_S.mono (op := np_callVX 11 5 sp_X11_item 5 1 6 1 6 [(1, 10)]) (np_s_callVX hX C_X11_item dL_items_6 (q := (RX11, TX11, 14)) rfl rfl gw509 gw63 gw506 gw507 gw508 ⟨by decide, by decide, by decide⟩ (by decide) (by decide) (htb.symm ▸ hdL_items_6)) nw_callVX_le2, List.forall_mem_cons.mpr ⟨np_S.mono (op := np_ret X.2.2.1) (np_s_ret hX dL_items_9) (nq_ret_le hR), List.forall_mem_cons.mpr ⟨np_s_astore hX dL_items_10 (by decide), List.forall_mem_cons.mpr ⟨np_s_ldc hX dL_items_12 gw633, List.forall_mem_cons.mpr ⟨np_S.mono (op := np_ret X.2.2.1) (np_s_ret hX dL_items_14) (nq_ret_le hR), fun _ h => nomatch h⟩⟩⟩⟩⟩⟩⟩⟩⟩⟩
noncomputable def m_L_items (S : pw_S) (i0 : Nat) (x1 : Int32) (x2 : Int32) (x3 : Int32) (x4 : Int32) : pw_R Int32 :=
 pw_b (m_X11_item S i0 x1 x2 x3 x4) fun S1 r4 =>
 pw_e r4 (fun r6 =>
 (some (S1, r6))) (fun e => pw_x e
 none
 (some (S1, (-70009)))
 none)
def sp_L_items : np_Sp := fun vs w Q => ∃ (q : Nat) (S : pw_S) (i0 : Nat) (x1 : Int32) (x2 : Int32) (x3 : Int32) (x4 : Int32), vs = [.ref (pw_pl 61 i0), .int x1, .int x2, .int x3, .int x4] ∧ pw_ok q 61 i0 = true ∧ pw_W q w S ∧ pw_p (m_L_items S i0 x1 x2 x3 x4) (fun S' r => ∀ f', pw_W q (w.1, f') S' → Q (some (.int r)) (w.1, f'))
set_option maxRecDepth 100000 in
set_option maxHeartbeats 8000000 in
theorem C_L_items : np_CW yL_items cL_items 6 (some .int) hhL_items 7 124 1 6 (sp_L_items) := by
  refine np_ofW (by decide) ?_
  intro X vs w Q hsp hX htb hRt
  obtain ⟨q, S, i0, x1, x2, x3, x4, rfl, hi0, hW, h⟩ := hsp
  obtain ⟨n, f⟩ := w
  have hn : n = 65536 + q := hW.1
  subst hn
  unfold m_L_items at h
  have hR : ∀ st w ce sl, np_rtN (some .int) 1 6 (65536 + q) Q st w ce sl → X.2.2.1 st w ce sl := fun _ _ _ _ h => by rw [hRt]; exact h
  refine np_soundW (so_L_items hX htb hR) [] 400 0 _ _ _ _ _ ?_
  conv => whnf
  refine np_rd_i (hW.g hi0) ?_
  conv => whnf
  refine ⟨q, S, i0, x1, x2, x3, x4, rfl, hi0, hW, pw_bd h (fun S1 r4 h f2 hW3 => ?_)⟩
  rcases r4 with r6 | _ | _ | _ | e7
  · replace h := pw_ei h
    conv => whnf
    obtain ⟨f8, hW9, hf10⟩ := pw_reset hW3 (Nat.le_refl _)
    exact ⟨Nat.le_of_ble_eq_true rfl, Nat.le_of_ble_eq_true rfl, ⟨_, rfl⟩, pw_cvi _, f8, hf10, pw_ps h _ hW9⟩
  · exact (pw_pn (pw_x0 (pw_ee h))).elim
  · replace h := pw_x1 (pw_ee h)
    conv => whnf
    obtain ⟨f11, hW12, hf13⟩ := pw_reset hW3 (Nat.le_refl _)
    exact ⟨Nat.le_of_ble_eq_true rfl, Nat.le_of_ble_eq_true rfl, ⟨_, rfl⟩, pw_cvi _, f11, hf13, pw_ps h _ hW12⟩
  · exact (pw_pn (pw_x2 (pw_ee h))).elim
  · exact (pw_pn h).elim
theorem dL_rules_0 : decode cL_rules 0 = .ok (.aload_n 0, 1) := by decide +kernel
theorem dL_rules_1 : decode cL_rules 1 = .ok (.iload_n 1, 1) := by decide +kernel
theorem dL_rules_2 : decode cL_rules 2 = .ok (.iload_n 2, 1) := by decide +kernel
theorem dL_rules_3 : decode cL_rules 3 = .ok (.iload_n 3, 1) := by decide +kernel
theorem dL_rules_4 : decode cL_rules 4 = .ok (.iload 4, 2) := by decide +kernel
theorem dL_rules_6 : decode cL_rules 6 = .ok (.iload 5, 2) := by decide +kernel
theorem dL_rules_8 : decode cL_rules 8 = .ok (.iload 6, 2) := by decide +kernel
theorem dL_rules_10 : decode cL_rules 10 = .ok (.invokevirtual 75, 3) := by decide +kernel
theorem dL_rules_13 : decode cL_rules 13 = .ok (.ireturn, 1) := by decide +kernel
theorem dL_rules_14 : decode cL_rules 14 = .ok (.astore 7, 2) := by decide +kernel
theorem dL_rules_16 : decode cL_rules 16 = .ok (.ldc 48, 2) := by decide +kernel
theorem dL_rules_18 : decode cL_rules 18 = .ok (.ireturn, 1) := by decide +kernel
theorem dL_rules_19 : decode cL_rules 19 = .ok (.astore 7, 2) := by decide +kernel
theorem dL_rules_21 : decode cL_rules 21 = .ok (.ldc 42, 2) := by decide +kernel
theorem dL_rules_23 : decode cL_rules 23 = .ok (.ireturn, 1) := by decide +kernel
def hhL_rules : List (Nat × Nat × Nat × Nat) := [((0 : Nat), (13 : Nat), (14 : Nat), (46 : Nat)), ((0 : Nat), (13 : Nat), (19 : Nat), (40 : Nat))]
theorem hdL_rules_10_0 : np_hd RL (tableOf hhL_rules) 10 1 14 := ⟨(tableOf hhL_rules).take 0, _, (tableOf hhL_rules).drop 1, rfl, (fun _ h => nomatch h), rfl, by decide, gw505, gw592, rfl⟩
theorem hdL_rules_10_1 : np_hd RL (tableOf hhL_rules) 10 2 19 := ⟨(tableOf hhL_rules).take 1, _, (tableOf hhL_rules).drop 2, rfl, List.forall_mem_cons.mpr ⟨Or.inr ⟨by decide, _, gw505, by decide⟩, (fun _ h => nomatch h)⟩, rfl, by decide, gw933, gw612, rfl⟩
theorem hdL_rules_10 : ∀ z ∈ ([(1, 14), (2, 19)] : List (Nat × Nat)), np_hd RL (tableOf hhL_rules) 10 z.1 z.2 := List.forall_mem_cons.mpr ⟨hdL_rules_10_0, List.forall_mem_cons.mpr ⟨hdL_rules_10_1, fun _ h => nomatch h⟩⟩
def is_L_rules (Rt : np_Rt) : List (Nat × np_Op) := [(0, np_ald 1 0), (1, np_ild 1 1), (2, np_ild 1 2), (3, np_ild 1 3), (4, np_ild 2 4), (6, np_ild 2 5), (8, np_ild 2 6), (10, nw_callVX 11 7 sp_X11_constrain 8 1 6 1 6 [(1, 14), (2, 19)]), (13, np_ret Rt), (14, np_ast 2 7), (16, np_push 2 (.int (-70009))), (18, np_ret Rt), (19, np_ast 2 7), (21, np_push 2 (.int (-70008))), (23, np_ret Rt)]
set_option maxRecDepth 20000 in
theorem so_L_rules {X : np_Ctx} {Rt : np_Rt} (hX : np_ok RL cL_rules 8 7 161 1 6 .ireturn X) (htb : np_tab X = tableOf hhL_rules) (hR : ∀ st w ce sl, Rt st w ce sl → X.2.2.1 st w ce sl) : ∀ q ∈ is_L_rules Rt, np_S X q.1 q.2 :=
  List.forall_mem_cons.mpr ⟨np_s_aload_n hX dL_rules_0 rfl, List.forall_mem_cons.mpr ⟨np_s_iload_n hX dL_rules_1 rfl, List.forall_mem_cons.mpr ⟨np_s_iload_n hX dL_rules_2 rfl, List.forall_mem_cons.mpr ⟨np_s_iload_n hX dL_rules_3 rfl, List.forall_mem_cons.mpr ⟨np_s_iload hX dL_rules_4, List.forall_mem_cons.mpr ⟨np_s_iload hX dL_rules_6, List.forall_mem_cons.mpr ⟨np_s_iload hX dL_rules_8, List.forall_mem_cons.mpr ⟨np_S.mono (op := np_callVX 11 7 sp_X11_constrain 8 1 6 1 6 [(1, 14), (2, 19)]) (np_s_callVX hX C_X11_constrain dL_rules_10 (q := (RX11, TX11, 14)) rfl rfl gw1213 gw63 gw1210 gw1211 gw1212 ⟨by decide, by decide, by decide⟩ (by decide) (by decide) (htb.symm ▸ hdL_rules_10)) nw_callVX_le2, List.forall_mem_cons.mpr ⟨np_S.mono (op := np_ret X.2.2.1) (np_s_ret hX dL_rules_13) (nq_ret_le hR), List.forall_mem_cons.mpr ⟨np_s_astore hX dL_rules_14 (by decide), List.forall_mem_cons.mpr ⟨np_s_ldc hX dL_rules_16 gw633, List.forall_mem_cons.mpr ⟨np_S.mono (op := np_ret X.2.2.1) (np_s_ret hX dL_rules_18) (nq_ret_le hR), List.forall_mem_cons.mpr ⟨np_s_astore hX dL_rules_19 (by decide), List.forall_mem_cons.mpr ⟨np_s_ldc hX dL_rules_21 gw1185, List.forall_mem_cons.mpr ⟨np_S.mono (op := np_ret X.2.2.1) (np_s_ret hX dL_rules_23) (nq_ret_le hR), fun _ h => nomatch h⟩⟩⟩⟩⟩⟩⟩⟩⟩⟩⟩⟩⟩⟩⟩
noncomputable def m_L_rules (S : pw_S) (i0 : Nat) (x1 : Int32) (x2 : Int32) (x3 : Int32) (x4 : Int32) (x5 : Int32) (x6 : Int32) : pw_R Int32 :=
 pw_b (m_X11_constrain S i0 x1 x2 x3 x4 x5 x6) fun S1 r4 =>
 pw_e r4 (fun r6 =>
 (some (S1, r6))) (fun e => pw_x e
 none
 (some (S1, (-70009)))
 (some (S1, (-70008))))
def sp_L_rules : np_Sp := fun vs w Q => ∃ (q : Nat) (S : pw_S) (i0 : Nat) (x1 : Int32) (x2 : Int32) (x3 : Int32) (x4 : Int32) (x5 : Int32) (x6 : Int32), vs = [.ref (pw_pl 61 i0), .int x1, .int x2, .int x3, .int x4, .int x5, .int x6] ∧ pw_ok q 61 i0 = true ∧ pw_W q w S ∧ pw_p (m_L_rules S i0 x1 x2 x3 x4 x5 x6) (fun S' r => ∀ f', pw_W q (w.1, f') S' → Q (some (.int r)) (w.1, f'))
set_option maxRecDepth 100000 in
set_option maxHeartbeats 8000000 in
theorem C_L_rules : np_CW yL_rules cL_rules 8 (some .int) hhL_rules 7 161 1 6 (sp_L_rules) := by
  refine np_ofW (by decide) ?_
  intro X vs w Q hsp hX htb hRt
  obtain ⟨q, S, i0, x1, x2, x3, x4, x5, x6, rfl, hi0, hW, h⟩ := hsp
  obtain ⟨n, f⟩ := w
  have hn : n = 65536 + q := hW.1
  subst hn
  unfold m_L_rules at h
  have hR : ∀ st w ce sl, np_rtN (some .int) 1 6 (65536 + q) Q st w ce sl → X.2.2.1 st w ce sl := fun _ _ _ _ h => by rw [hRt]; exact h
  refine np_soundW (so_L_rules hX htb hR) [] 400 0 _ _ _ _ _ ?_
  conv => whnf
  refine np_rd_i (hW.g hi0) ?_
  conv => whnf
  refine ⟨q, S, i0, x1, x2, x3, x4, x5, x6, rfl, hi0, hW, pw_bd h (fun S1 r4 h f2 hW3 => ?_)⟩
  rcases r4 with r6 | _ | _ | _ | e7
  · replace h := pw_ei h
    conv => whnf
    obtain ⟨f8, hW9, hf10⟩ := pw_reset hW3 (Nat.le_refl _)
    exact ⟨Nat.le_of_ble_eq_true rfl, Nat.le_of_ble_eq_true rfl, ⟨_, rfl⟩, pw_cvi _, f8, hf10, pw_ps h _ hW9⟩
  · exact (pw_pn (pw_x0 (pw_ee h))).elim
  · replace h := pw_x1 (pw_ee h)
    conv => whnf
    obtain ⟨f11, hW12, hf13⟩ := pw_reset hW3 (Nat.le_refl _)
    exact ⟨Nat.le_of_ble_eq_true rfl, Nat.le_of_ble_eq_true rfl, ⟨_, rfl⟩, pw_cvi _, f11, hf13, pw_ps h _ hW12⟩
  · replace h := pw_x2 (pw_ee h)
    conv => whnf
    obtain ⟨f14, hW15, hf16⟩ := pw_reset hW3 (Nat.le_refl _)
    exact ⟨Nat.le_of_ble_eq_true rfl, Nat.le_of_ble_eq_true rfl, ⟨_, rfl⟩, pw_cvi _, f14, hf16, pw_ps h _ hW15⟩
  · exact (pw_pn h).elim
theorem dL_notes_0 : decode cL_notes 0 = .ok (.iconst 0, 1) := by decide +kernel
theorem dL_notes_1 : decode cL_notes 1 = .ok (.istore_n 2, 1) := by decide +kernel
theorem dL_notes_2 : decode cL_notes 2 = .ok (.iload_n 2, 1) := by decide +kernel
theorem dL_notes_3 : decode cL_notes 3 = .ok (.bipush 24, 2) := by decide +kernel
theorem dL_notes_5 : decode cL_notes 5 = .ok (.if_icmp .ge 22, 3) := by decide +kernel
theorem dL_notes_8 : decode cL_notes 8 = .ok (.aload_n 1, 1) := by decide +kernel
theorem dL_notes_9 : decode cL_notes 9 = .ok (.iload_n 2, 1) := by decide +kernel
theorem dL_notes_10 : decode cL_notes 10 = .ok (.aload_n 0, 1) := by decide +kernel
theorem dL_notes_11 : decode cL_notes 11 = .ok (.iload_n 2, 1) := by decide +kernel
theorem dL_notes_12 : decode cL_notes 12 = .ok (.iconst 3, 1) := by decide +kernel
theorem dL_notes_13 : decode cL_notes 13 = .ok (.idiv, 1) := by decide +kernel
theorem dL_notes_14 : decode cL_notes 14 = .ok (.iload_n 2, 1) := by decide +kernel
theorem dL_notes_15 : decode cL_notes 15 = .ok (.iconst 3, 1) := by decide +kernel
theorem dL_notes_16 : decode cL_notes 16 = .ok (.irem, 1) := by decide +kernel
theorem dL_notes_17 : decode cL_notes 17 = .ok (.invokevirtual 49, 3) := by decide +kernel
theorem dL_notes_20 : decode cL_notes 20 = .ok (.iastore, 1) := by decide +kernel
theorem dL_notes_21 : decode cL_notes 21 = .ok (.iinc 2 1, 3) := by decide +kernel
theorem dL_notes_24 : decode cL_notes 24 = .ok (.goto (-22), 3) := by decide +kernel
theorem dL_notes_27 : decode cL_notes 27 = .ok (.return_, 1) := by decide +kernel
def is_L_notes (Rt : np_Rt) : List (Nat × np_Op) := [(0, np_push 1 (.int 0)), (1, nw_ist 1 2), (2, np_ild 1 2), (3, np_push 2 (.int 24)), (5, nq_ic (fun x y => y ≤ x) 27), (8, np_ald 1 1), (9, np_ild 1 2), (10, np_ald 1 0), (11, np_ild 1 2), (12, np_push 1 (.int 3)), (13, nq_ibn (fun x y => x / y)), (14, np_ild 1 2), (15, np_push 1 (.int 3)), (16, nq_ibn (fun x y => x - x / y * y)), (17, nw_callVX 11 3 sp_X11_get 3 1 6 25 150 []), (20, nw_iastT .int), (21, nw_iinc 2 1), (24, np_goto 2), (27, np_ret Rt)]
set_option maxRecDepth 20000 in
theorem so_L_notes {X : np_Ctx} {Rt : np_Rt} (hX : np_ok RL cL_notes 3 7 122 25 150 .return_ X) (hR : ∀ st w ce sl, Rt st w ce sl → X.2.2.1 st w ce sl) : ∀ q ∈ is_L_notes Rt, np_S X q.1 q.2 :=
  List.forall_mem_cons.mpr ⟨np_s_iconst hX dL_notes_0 (by decide), List.forall_mem_cons.mpr ⟨np_S.mono (op := np_ist 1 2) (np_s_istore_n hX dL_notes_1 rfl (by decide)) nw_ist_le, List.forall_mem_cons.mpr ⟨np_s_iload_n hX dL_notes_2 rfl, List.forall_mem_cons.mpr ⟨np_s_bipush hX dL_notes_3 (by decide), List.forall_mem_cons.mpr ⟨np_S.mono (op := np_ic (fun x y => y ≤ x) 27) (np_s_icmp_ge hX dL_notes_5 (by decide)) nq_ic_le, List.forall_mem_cons.mpr ⟨np_s_aload_n hX dL_notes_8 rfl, List.forall_mem_cons.mpr ⟨np_s_iload_n hX dL_notes_9 rfl, List.forall_mem_cons.mpr ⟨np_s_aload_n hX dL_notes_10 rfl, List.forall_mem_cons.mpr ⟨np_s_iload_n hX dL_notes_11 rfl, List.forall_mem_cons.mpr ⟨np_s_iconst hX dL_notes_12 (by decide), List.forall_mem_cons.mpr ⟨np_S.mono (op := np_ibn (fun x y => x / y)) (np_s_idiv hX dL_notes_13) nq_ibn_le, List.forall_mem_cons.mpr ⟨np_s_iload_n hX dL_notes_14 rfl, List.forall_mem_cons.mpr ⟨np_s_iconst hX dL_notes_15 (by decide), List.forall_mem_cons.mpr ⟨np_S.mono (op := np_ibn (fun x y => x - x / y * y)) (np_s_irem hX dL_notes_16) nq_ibn_le, List.forall_mem_cons.mpr ⟨np_S.mono (op := np_callVX 11 3 sp_X11_get 3 1 6 25 150 []) (np_s_callVX hX C_X11_get dL_notes_17 (q := (RX11, TX11, 14)) rfl rfl gw718 gw63 gw715 gw716 gw717 ⟨by decide, by decide, by decide⟩ (by decide) (by decide) (fun _ h => nomatch h)) (nw_callVX_le2 (ci := 11) (n := 3) (sp := sp_X11_get) (maxL := 3) (mc := 1) (ms := 6) (RC := 25) (RS := 150) (hs := [])), List.forall_mem_cons.mpr ⟨np_S.mono (op := np_iastT .int) (np_s_iast hX dL_notes_20) nw_iastT_le, List.forall_mem_cons.mpr ⟨np_S.mono (op := np_iinc 2 1) (np_s_iinc hX dL_notes_21 (by decide)) nw_iinc_le, List.forall_mem_cons.mpr ⟨np_s_goto hX dL_notes_24 (by decide), List.forall_mem_cons.mpr ⟨np_S.mono (op := np_ret X.2.2.1) (np_s_ret hX dL_notes_27) (nq_ret_le hR), fun _ h => nomatch h⟩⟩⟩⟩⟩⟩⟩⟩⟩⟩⟩⟩⟩⟩⟩⟩⟩⟩⟩
noncomputable def m_L_notes_2  : Nat → pw_S → Nat → Nat → Nat → Int32 → pw_R Unit
| 0, _, _, _, _, _ => none
| N + 1, S, v0, va1, vi1, v2 =>
 if 24 ≤ v2 then
 (some (S, ()))
 else
 (pw_b (m_X11_get S v0 (v2 / 3) (v2 - v2 / 3 * 3)) fun S1 r4 =>
 pw_e r4 (fun r6 =>
 (pw_c (np_inb v2 (pw_len va1)) <|
 pw_l (pw_up S1 va1 vi1 (upd (S1 va1 vi1) (v2 : Int32).toNatClampNeg r6)) fun S8 =>
 pw_l (v2 + 1 : Int32) fun z11 =>
 m_L_notes_2 N S8 v0 va1 vi1 z11)) (fun _ => none))
set_option maxRecDepth 100000 in
set_option maxHeartbeats 8000000 in
theorem L_L_notes_2 {X : np_Ctx} (hX : np_ok RL cL_notes 3 7 122 25 150 .return_ X) {Q : Option Value → np_W → Prop} {q : Nat} {n dc ds : Nat} (hR : ∀ st w ce sl, np_rt none 25 150 Q st w ce sl → X.2.2.1 st w ce sl) : ∀ (N : Nat) (S : pw_S) (v0 : Nat) (va1 : Nat) (vi1 : Nat) (v2 : Int32) (f : Nat → Option np_E) (ce sl : Nat) (hv0 : pw_ok q 61 v0 = true) (ha1 : pw_arr va1 = true) (hi1 : pw_ok q va1 vi1 = true), ce + N * 1 + dc ≤ 25 → sl + N * 6 + ds ≤ 150 → pw_W q (n, f) S → pw_p (m_L_notes_2 N S v0 va1 vi1 v2) (fun S' r => ∀ f', pw_W q (n, f') S' → Q none (n, f')) → np_G X 2 [(0, .ref (pw_pl 61 v0)), (1, .ref (pw_pl va1 vi1)), (2, .int v2)] [] (n, f) ce sl := by
  intro N
  induction N with
  | zero =>
    intro S v0 va1 vi1 v2 f ce sl hv0 ha1 hi1 hc hs hW h
    exact (pw_pn h).elim
  | succ N ih =>
    intro S v0 va1 vi1 v2 f ce sl hv0 ha1 hi1 hc hs hW h
    unfold m_L_notes_2 at h
    refine np_soundW (so_L_notes hX hR) [2] 400 2 _ _ _ _ _ ?_
    conv => whnf
    refine pw_br h (fun _ h => ?_) (fun _ h => ?_)
    · conv => whnf
      exact ⟨(by omega), (by omega), rfl, _, fun _ _ h9 => h9, pw_ps h _ hW⟩
    · conv => whnf
      refine np_rd_i (hW.g hv0) ?_
      conv => whnf
      refine np_chk_i (pw_and rfl (pw_and rfl (pw_and rfl (pw_and rfl ((pw_and (pw_le (by omega)) (pw_le (by omega)))))))) ?_
      conv => whnf
      refine ⟨q, S, v0, (v2 / 3), (v2 - v2 / 3 * 3), rfl, hv0, hW, pw_bd h (fun S1 r4 h f2 hW3 => ?_)⟩
      rcases r4 with r6 | e7
      · replace h := pw_ei h
        conv => whnf
        refine np_rd_i (hW3.ga ha1 hi1) ?_
        conv => whnf
        refine pw_ck h (fun _ h => ?_)
        conv => whnf
        refine pw_wr (a := va1) (i := vi1) (d := upd (S1 va1 vi1) (v2 : Int32).toNatClampNeg r6) hW3 hi1 (pw_ent_arr ha1).symm h (fun S8 f9 hW10 h => ?_)
        conv => whnf
        refine pw_st h (fun z11 h => ?_)
        conv => whnf
        exact np_gl (ih S8 v0 va1 vi1 z11 f9 _ _ hv0 ha1 hi1 (by omega) (by omega) hW10 h) ⟨rfl, rfl, rfl, trivial⟩
      · exact (pw_pn h).elim
noncomputable def m_L_notes (S : pw_S) (i0 : Nat) (a1 : Nat) (i1 : Nat) : pw_R Unit :=
 pw_l (0 : Int32) fun z12 =>
 m_L_notes_2 (pw_F 25) S i0 a1 i1 z12
def sp_L_notes : np_Sp := fun vs w Q => ∃ (q : Nat) (S : pw_S) (i0 : Nat) (a1 : Nat) (i1 : Nat), vs = [.ref (pw_pl 61 i0), .ref (pw_pl a1 i1)] ∧ pw_ok q 61 i0 = true ∧ pw_arr a1 = true ∧ pw_ok q a1 i1 = true ∧ pw_W q w S ∧ pw_p (m_L_notes S i0 a1 i1) (fun S' r => ∀ f', pw_W q (w.1, f') S' → Q none (w.1, f'))
set_option maxRecDepth 100000 in
set_option maxHeartbeats 8000000 in
theorem C_L_notes : np_C yL_notes cL_notes 3 none 7 122 25 150 (sp_L_notes) := by
  refine np_of (by decide) ?_
  intro X vs w Q hsp hX hmn hRt hlt
  obtain ⟨q, S, i0, a1, i1, rfl, hi0, ha1, hi1, hW, h⟩ := hsp
  obtain ⟨n, f⟩ := w
  unfold m_L_notes at h
  have hR : ∀ st w ce sl, np_rt none 25 150 Q st w ce sl → X.2.2.1 st w ce sl := fun _ _ _ _ h => by rw [hRt]; exact h
  refine np_soundW (so_L_notes hX hR) [2] 400 0 _ _ _ _ _ ?_
  conv => whnf
  refine pw_st h (fun z12 h => ?_)
  conv => whnf
  refine np_gl (L_L_notes_2 (dc := 0) (ds := 0) hX hR (pw_F 25) S i0 a1 i1 z12 f _ _ hi0 ha1 hi1 (by rw [pw_F_eq]; omega) (by rw [pw_F_eq]; omega) hW h) ⟨rfl, rfl, rfl, trivial⟩
theorem dL_isNoted_0 : decode cL_isNoted 0 = .ok (.iconst 1, 1) := by decide +kernel
theorem dL_isNoted_1 : decode cL_isNoted 1 = .ok (.istore_n 2, 1) := by decide +kernel
theorem dL_isNoted_2 : decode cL_isNoted 2 = .ok (.iconst 0, 1) := by decide +kernel
theorem dL_isNoted_3 : decode cL_isNoted 3 = .ok (.istore_n 3, 1) := by decide +kernel
theorem dL_isNoted_4 : decode cL_isNoted 4 = .ok (.iload_n 3, 1) := by decide +kernel
theorem dL_isNoted_5 : decode cL_isNoted 5 = .ok (.bipush 24, 2) := by decide +kernel
theorem dL_isNoted_7 : decode cL_isNoted 7 = .ok (.if_icmp .ge 35, 3) := by decide +kernel
theorem dL_isNoted_10 : decode cL_isNoted 10 = .ok (.iload_n 2, 1) := by decide +kernel
theorem dL_isNoted_11 : decode cL_isNoted 11 = .ok (.ifCond .eq 31, 3) := by decide +kernel
theorem dL_isNoted_14 : decode cL_isNoted 14 = .ok (.aload_n 0, 1) := by decide +kernel
theorem dL_isNoted_15 : decode cL_isNoted 15 = .ok (.iload_n 3, 1) := by decide +kernel
theorem dL_isNoted_16 : decode cL_isNoted 16 = .ok (.iconst 3, 1) := by decide +kernel
theorem dL_isNoted_17 : decode cL_isNoted 17 = .ok (.idiv, 1) := by decide +kernel
theorem dL_isNoted_18 : decode cL_isNoted 18 = .ok (.iload_n 3, 1) := by decide +kernel
theorem dL_isNoted_19 : decode cL_isNoted 19 = .ok (.iconst 3, 1) := by decide +kernel
theorem dL_isNoted_20 : decode cL_isNoted 20 = .ok (.irem, 1) := by decide +kernel
theorem dL_isNoted_21 : decode cL_isNoted 21 = .ok (.invokevirtual 49, 3) := by decide +kernel
theorem dL_isNoted_24 : decode cL_isNoted 24 = .ok (.aload_n 1, 1) := by decide +kernel
theorem dL_isNoted_25 : decode cL_isNoted 25 = .ok (.iload_n 3, 1) := by decide +kernel
theorem dL_isNoted_26 : decode cL_isNoted 26 = .ok (.iaload, 1) := by decide +kernel
theorem dL_isNoted_27 : decode cL_isNoted 27 = .ok (.if_icmp .ne 7, 3) := by decide +kernel
theorem dL_isNoted_30 : decode cL_isNoted 30 = .ok (.iconst 1, 1) := by decide +kernel
theorem dL_isNoted_31 : decode cL_isNoted 31 = .ok (.goto 4, 3) := by decide +kernel
theorem dL_isNoted_34 : decode cL_isNoted 34 = .ok (.iconst 0, 1) := by decide +kernel
theorem dL_isNoted_35 : decode cL_isNoted 35 = .ok (.istore_n 2, 1) := by decide +kernel
theorem dL_isNoted_36 : decode cL_isNoted 36 = .ok (.iinc 3 1, 3) := by decide +kernel
theorem dL_isNoted_39 : decode cL_isNoted 39 = .ok (.goto (-35), 3) := by decide +kernel
theorem dL_isNoted_42 : decode cL_isNoted 42 = .ok (.iload_n 2, 1) := by decide +kernel
theorem dL_isNoted_43 : decode cL_isNoted 43 = .ok (.ireturn, 1) := by decide +kernel
def is_L_isNoted (Rt : np_Rt) : List (Nat × np_Op) := [(0, np_push 1 (.int 1)), (1, nw_ist 1 2), (2, np_push 1 (.int 0)), (3, nw_ist 1 3), (4, np_ild 1 3), (5, np_push 2 (.int 24)), (7, nq_ic (fun x y => y ≤ x) 42), (10, np_ild 1 2), (11, nq_if (fun x => x = 0) 42), (14, np_ald 1 0), (15, np_ild 1 3), (16, np_push 1 (.int 3)), (17, nq_ibn (fun x y => x / y)), (18, np_ild 1 3), (19, np_push 1 (.int 3)), (20, nq_ibn (fun x y => x - x / y * y)), (21, nw_callVX 11 3 sp_X11_get 3 1 6 25 150 []), (24, np_ald 1 1), (25, np_ild 1 3), (26, nw_ialdT .int), (27, nq_icne 34), (30, np_push 1 (.int 1)), (31, np_goto 35), (34, np_push 1 (.int 0)), (35, nw_ist 1 2), (36, nw_iinc 3 1), (39, np_goto 4), (42, np_ild 1 2), (43, np_ret Rt)]
set_option maxRecDepth 20000 in
theorem so_L_isNoted {X : np_Ctx} {Rt : np_Rt} (hX : np_ok RL cL_isNoted 4 7 122 25 150 .ireturn X) (hR : ∀ st w ce sl, Rt st w ce sl → X.2.2.1 st w ce sl) : ∀ q ∈ is_L_isNoted Rt, np_S X q.1 q.2 :=
  List.forall_mem_cons.mpr ⟨np_s_iconst hX dL_isNoted_0 (by decide), List.forall_mem_cons.mpr ⟨np_S.mono (op := np_ist 1 2) (np_s_istore_n hX dL_isNoted_1 rfl (by decide)) nw_ist_le, List.forall_mem_cons.mpr ⟨np_s_iconst hX dL_isNoted_2 (by decide), List.forall_mem_cons.mpr ⟨np_S.mono (op := np_ist 1 3) (np_s_istore_n hX dL_isNoted_3 rfl (by decide)) nw_ist_le, List.forall_mem_cons.mpr ⟨np_s_iload_n hX dL_isNoted_4 rfl, List.forall_mem_cons.mpr ⟨np_s_bipush hX dL_isNoted_5 (by decide), List.forall_mem_cons.mpr ⟨np_S.mono (op := np_ic (fun x y => y ≤ x) 42) (np_s_icmp_ge hX dL_isNoted_7 (by decide)) nq_ic_le, List.forall_mem_cons.mpr ⟨np_s_iload_n hX dL_isNoted_10 rfl, List.forall_mem_cons.mpr ⟨np_S.mono (op := np_if (fun x => x = 0) 42) (np_s_if_eq hX dL_isNoted_11 (by decide)) nq_if_le, List.forall_mem_cons.mpr ⟨np_s_aload_n hX dL_isNoted_14 rfl, List.forall_mem_cons.mpr ⟨np_s_iload_n hX dL_isNoted_15 rfl, List.forall_mem_cons.mpr ⟨np_s_iconst hX dL_isNoted_16 (by decide), List.forall_mem_cons.mpr ⟨np_S.mono (op := np_ibn (fun x y => x / y)) (np_s_idiv hX dL_isNoted_17) nq_ibn_le, List.forall_mem_cons.mpr ⟨np_s_iload_n hX dL_isNoted_18 rfl, List.forall_mem_cons.mpr ⟨np_s_iconst hX dL_isNoted_19 (by decide), List.forall_mem_cons.mpr ⟨np_S.mono (op := np_ibn (fun x y => x - x / y * y)) (np_s_irem hX dL_isNoted_20) nq_ibn_le, List.forall_mem_cons.mpr ⟨np_S.mono (op := np_callVX 11 3 sp_X11_get 3 1 6 25 150 []) (np_s_callVX hX C_X11_get dL_isNoted_21 (q := (RX11, TX11, 14)) rfl rfl gw718 gw63 gw715 gw716 gw717 ⟨by decide, by decide, by decide⟩ (by decide) (by decide) (fun _ h => nomatch h)) (nw_callVX_le2 (ci := 11) (n := 3) (sp := sp_X11_get) (maxL := 3) (mc := 1) (ms := 6) (RC := 25) (RS := 150) (hs := [])), List.forall_mem_cons.mpr ⟨np_s_aload_n hX dL_isNoted_24 rfl, List.forall_mem_cons.mpr ⟨np_s_iload_n hX dL_isNoted_25 rfl, List.forall_mem_cons.mpr ⟨np_S.mono (op := np_ialdT .int) (np_s_iald hX dL_isNoted_26) nw_ialdT_le, List.forall_mem_cons.mpr ⟨np_S.mono (op := np_icne 34) (np_s_icmp_ne hX dL_isNoted_27 (by decide)) nq_icne_le, List.forall_mem_cons.mpr ⟨np_s_iconst hX dL_isNoted_30 (by decide), List.forall_mem_cons.mpr ⟨np_s_goto hX dL_isNoted_31 (by decide), List.forall_mem_cons.mpr ⟨np_s_iconst hX dL_isNoted_34 (by decide), List.forall_mem_cons.mpr ⟨np_S.mono (op := np_ist 1 2) (np_s_istore_n hX dL_isNoted_35 rfl (by decide)) nw_ist_le, List.forall_mem_cons.mpr ⟨np_S.mono (op := np_iinc 3 1) (np_s_iinc hX dL_isNoted_36 (by decide)) nw_iinc_le, List.forall_mem_cons.mpr ⟨np_s_goto hX dL_isNoted_39 (by decide), List.forall_mem_cons.mpr ⟨np_s_iload_n hX dL_isNoted_42 rfl, List.forall_mem_cons.mpr ⟨np_S.mono (op := np_ret X.2.2.1) (np_s_ret hX dL_isNoted_43) (nq_ret_le hR), fun _ h => nomatch h⟩⟩⟩⟩⟩⟩⟩⟩⟩⟩⟩⟩⟩⟩⟩⟩⟩⟩⟩⟩⟩⟩⟩⟩⟩⟩⟩⟩⟩
noncomputable def m_L_isNoted_4  : Nat → pw_S → Nat → Nat → Nat → Int32 → Int32 → pw_R Int32
| 0, _, _, _, _, _, _ => none
| N + 1, S, v0, va1, vi1, v2, v3 =>
 if 24 ≤ v3 then
 (pw_c (decide (v2 = 0) || decide (v2 = 1)) <|
 some (S, v2))
 else
 (if v2 = 0 then
 (pw_c (decide (v2 = 0) || decide (v2 = 1)) <|
 some (S, v2))
 else
 (pw_b (m_X11_get S v0 (v3 / 3) (v3 - v3 / 3 * 3)) fun S3 r6 =>
 pw_e r6 (fun r8 =>
 (pw_c (np_inb v3 (pw_len va1)) <|
 if r8 = (S3 va1 vi1 (v3 : Int32).toNatClampNeg) then
 (pw_l (1 : Int32) fun z10 =>
 pw_l (v3 + 1 : Int32) fun z11 =>
 m_L_isNoted_4 N S3 v0 va1 vi1 z10 z11)
 else
 (pw_l (0 : Int32) fun z12 =>
 pw_l (v3 + 1 : Int32) fun z13 =>
 m_L_isNoted_4 N S3 v0 va1 vi1 z12 z13))) (fun _ => none)))
set_option maxRecDepth 100000 in
set_option maxHeartbeats 8000000 in
theorem L_L_isNoted_4 {X : np_Ctx} (hX : np_ok RL cL_isNoted 4 7 122 25 150 .ireturn X) {Q : Option Value → np_W → Prop} {q : Nat} {n dc ds : Nat} (hR : ∀ st w ce sl, np_rt (some .boolean) 25 150 Q st w ce sl → X.2.2.1 st w ce sl) : ∀ (N : Nat) (S : pw_S) (v0 : Nat) (va1 : Nat) (vi1 : Nat) (v2 : Int32) (v3 : Int32) (f : Nat → Option np_E) (ce sl : Nat) (hv0 : pw_ok q 61 v0 = true) (ha1 : pw_arr va1 = true) (hi1 : pw_ok q va1 vi1 = true), ce + N * 1 + dc ≤ 25 → sl + N * 6 + ds ≤ 150 → pw_W q (n, f) S → pw_p (m_L_isNoted_4 N S v0 va1 vi1 v2 v3) (fun S' r => ∀ f', pw_W q (n, f') S' → Q (some (.int r)) (n, f')) → np_G X 4 [(0, .ref (pw_pl 61 v0)), (1, .ref (pw_pl va1 vi1)), (2, .int v2), (3, .int v3)] [] (n, f) ce sl := by
  intro N
  induction N with
  | zero =>
    intro S v0 va1 vi1 v2 v3 f ce sl hv0 ha1 hi1 hc hs hW h
    exact (pw_pn h).elim
  | succ N ih =>
    intro S v0 va1 vi1 v2 v3 f ce sl hv0 ha1 hi1 hc hs hW h
    unfold m_L_isNoted_4 at h
    refine np_soundW (so_L_isNoted hX hR) [4] 400 4 _ _ _ _ _ ?_
    conv => whnf
    refine pw_br h (fun _ h => ?_) (fun _ h => ?_)
    · conv => whnf
      obtain ⟨hb1, h⟩ := pw_ck1 h
      conv => whnf
      exact ⟨(by omega), (by omega), ⟨_, rfl, pw_nz hb1⟩, _, fun _ _ h9 => h9, pw_ps h _ hW⟩
    · conv => whnf
      refine pw_br h (fun _ h => ?_) (fun _ h => ?_)
      · conv => whnf
        obtain ⟨hb2, h⟩ := pw_ck1 h
        conv => whnf
        exact ⟨(by omega), (by omega), ⟨_, rfl, pw_nz hb2⟩, _, fun _ _ h9 => h9, pw_ps h _ hW⟩
      · conv => whnf
        refine np_rd_i (hW.g hv0) ?_
        conv => whnf
        refine np_chk_i (pw_and rfl (pw_and rfl (pw_and rfl (pw_and rfl ((pw_and (pw_le (by omega)) (pw_le (by omega)))))))) ?_
        conv => whnf
        refine ⟨q, S, v0, (v3 / 3), (v3 - v3 / 3 * 3), rfl, hv0, hW, pw_bd h (fun S3 r6 h f4 hW5 => ?_)⟩
        rcases r6 with r8 | e9
        · replace h := pw_ei h
          conv => whnf
          refine np_rd_i (hW5.ga ha1 hi1) ?_
          conv => whnf
          refine pw_ck h (fun _ h => ?_)
          conv => whnf
          refine pw_br h (fun _ h => ?_) (fun _ h => ?_)
          · conv => whnf
            refine pw_st h (fun z10 h => ?_)
            conv => whnf
            refine pw_st h (fun z11 h => ?_)
            conv => whnf
            exact np_gl (ih S3 v0 va1 vi1 z10 z11 f4 _ _ hv0 ha1 hi1 (by omega) (by omega) hW5 h) ⟨rfl, rfl, rfl, rfl, trivial⟩
          · conv => whnf
            refine pw_st h (fun z12 h => ?_)
            conv => whnf
            refine pw_st h (fun z13 h => ?_)
            conv => whnf
            exact np_gl (ih S3 v0 va1 vi1 z12 z13 f4 _ _ hv0 ha1 hi1 (by omega) (by omega) hW5 h) ⟨rfl, rfl, rfl, rfl, trivial⟩
        · exact (pw_pn h).elim
noncomputable def m_L_isNoted (S : pw_S) (i0 : Nat) (a1 : Nat) (i1 : Nat) : pw_R Int32 :=
 pw_l (1 : Int32) fun z14 =>
 pw_l (0 : Int32) fun z15 =>
 m_L_isNoted_4 (pw_F 25) S i0 a1 i1 z14 z15
def sp_L_isNoted : np_Sp := fun vs w Q => ∃ (q : Nat) (S : pw_S) (i0 : Nat) (a1 : Nat) (i1 : Nat), vs = [.ref (pw_pl 61 i0), .ref (pw_pl a1 i1)] ∧ pw_ok q 61 i0 = true ∧ pw_arr a1 = true ∧ pw_ok q a1 i1 = true ∧ pw_W q w S ∧ pw_p (m_L_isNoted S i0 a1 i1) (fun S' r => ∀ f', pw_W q (w.1, f') S' → Q (some (.int r)) (w.1, f'))
set_option maxRecDepth 100000 in
set_option maxHeartbeats 8000000 in
theorem C_L_isNoted : np_C yL_isNoted cL_isNoted 4 (some .boolean) 7 122 25 150 (sp_L_isNoted) := by
  refine np_of (by decide) ?_
  intro X vs w Q hsp hX hmn hRt hlt
  obtain ⟨q, S, i0, a1, i1, rfl, hi0, ha1, hi1, hW, h⟩ := hsp
  obtain ⟨n, f⟩ := w
  unfold m_L_isNoted at h
  have hR : ∀ st w ce sl, np_rt (some .boolean) 25 150 Q st w ce sl → X.2.2.1 st w ce sl := fun _ _ _ _ h => by rw [hRt]; exact h
  refine np_soundW (so_L_isNoted hX hR) [4] 400 0 _ _ _ _ _ ?_
  conv => whnf
  refine pw_st h (fun z14 h => ?_)
  conv => whnf
  refine pw_st h (fun z15 h => ?_)
  conv => whnf
  refine np_gl (L_L_isNoted_4 (dc := 0) (ds := 0) hX hR (pw_F 25) S i0 a1 i1 z14 z15 f _ _ hi0 ha1 hi1 (by rw [pw_F_eq]; omega) (by rw [pw_F_eq]; omega) hW h) ⟨rfl, rfl, rfl, rfl, trivial⟩
theorem dL_units_0 : decode cL_units 0 = .ok (.iconst 0, 1) := by decide +kernel
theorem dL_units_1 : decode cL_units 1 = .ok (.istore_n 2, 1) := by decide +kernel
theorem dL_units_2 : decode cL_units 2 = .ok (.aload_n 0, 1) := by decide +kernel
theorem dL_units_3 : decode cL_units 3 = .ok (.bipush 6, 2) := by decide +kernel
theorem dL_units_5 : decode cL_units 5 = .ok (.iload_n 1, 1) := by decide +kernel
theorem dL_units_6 : decode cL_units 6 = .ok (.iload_n 2, 1) := by decide +kernel
theorem dL_units_7 : decode cL_units 7 = .ok (.iconst 0, 1) := by decide +kernel
theorem dL_units_8 : decode cL_units 8 = .ok (.invokestatic 52, 3) := by decide +kernel
theorem dL_units_11 : decode cL_units 11 = .ok (.ifCond .lt 9, 3) := by decide +kernel
theorem dL_units_14 : decode cL_units 14 = .ok (.iinc 2 1, 3) := by decide +kernel
theorem dL_units_17 : decode cL_units 17 = .ok (.goto (-15), 3) := by decide +kernel
theorem dL_units_20 : decode cL_units 20 = .ok (.iload_n 2, 1) := by decide +kernel
theorem dL_units_21 : decode cL_units 21 = .ok (.ireturn, 1) := by decide +kernel
def is_L_units (Rt : np_Rt) : List (Nat × np_Op) := [(0, np_push 1 (.int 0)), (1, nw_ist 1 2), (2, np_ald 1 0), (3, np_push 2 (.int 6)), (5, np_ild 1 1), (6, np_ild 1 2), (7, np_push 1 (.int 0)), (8, nq_call 5 sp_L_asks 6 1 6 302 1812), (11, nq_if (fun x => x < 0) 20), (14, nw_iinc 2 1), (17, np_goto 2), (20, np_ild 1 2), (21, np_ret Rt)]
set_option maxRecDepth 20000 in
theorem so_L_units {X : np_Ctx} {Rt : np_Rt} (hX : np_ok RL cL_units 3 9 250 302 1812 .ireturn X) (hR : ∀ st w ce sl, Rt st w ce sl → X.2.2.1 st w ce sl) : ∀ q ∈ is_L_units Rt, np_S X q.1 q.2 :=
  List.forall_mem_cons.mpr ⟨np_s_iconst hX dL_units_0 (by decide), List.forall_mem_cons.mpr ⟨np_S.mono (op := np_ist 1 2) (np_s_istore_n hX dL_units_1 rfl (by decide)) nw_ist_le, List.forall_mem_cons.mpr ⟨np_s_aload_n hX dL_units_2 rfl, List.forall_mem_cons.mpr ⟨np_s_bipush hX dL_units_3 (by decide), List.forall_mem_cons.mpr ⟨np_s_iload_n hX dL_units_5 rfl, List.forall_mem_cons.mpr ⟨np_s_iload_n hX dL_units_6 rfl, List.forall_mem_cons.mpr ⟨np_s_iconst hX dL_units_7 (by decide), List.forall_mem_cons.mpr ⟨np_S.mono (op := np_call 5 sp_L_asks 6 1 6 302 1812) (np_s_callSW hX C_L_asks dL_units_8 gw931 gw62 gw929 gw930 ⟨by decide, by decide, by decide⟩ (by decide) (by decide)) nq_call_le, List.forall_mem_cons.mpr ⟨np_S.mono (op := np_if (fun x => x < 0) 20) (np_s_if_lt hX dL_units_11 (by decide)) nq_if_le, List.forall_mem_cons.mpr ⟨np_S.mono (op := np_iinc 2 1) (np_s_iinc hX dL_units_14 (by decide)) nw_iinc_le, List.forall_mem_cons.mpr ⟨np_s_goto hX dL_units_17 (by decide), List.forall_mem_cons.mpr ⟨np_s_iload_n hX dL_units_20 rfl, List.forall_mem_cons.mpr ⟨np_S.mono (op := np_ret X.2.2.1) (np_s_ret hX dL_units_21) (nq_ret_le hR), fun _ h => nomatch h⟩⟩⟩⟩⟩⟩⟩⟩⟩⟩⟩⟩⟩
noncomputable def m_L_units_2  : Nat → pw_S → Nat → Int32 → Int32 → pw_R Int32
| 0, _, _, _, _ => none
| N + 1, S, v0, v1, v2 =>
 pw_b (m_L_asks S v0 6 v1 v2 0) fun S1 r4 =>
 if r4 < 0 then
 (some (S1, v2))
 else
 (pw_l (v2 + 1 : Int32) fun z6 =>
 m_L_units_2 N S1 v0 v1 z6)
set_option maxRecDepth 100000 in
set_option maxHeartbeats 8000000 in
theorem L_L_units_2 {X : np_Ctx} (hX : np_ok RL cL_units 3 9 250 302 1812 .ireturn X) {Q : Option Value → np_W → Prop} {q : Nat} {n dc ds : Nat} (hR : ∀ st w ce sl, np_rt (some .int) 302 1812 Q st w ce sl → X.2.2.1 st w ce sl) : ∀ (N : Nat) (S : pw_S) (v0 : Nat) (v1 : Int32) (v2 : Int32) (f : Nat → Option np_E) (ce sl : Nat) (hv0 : pw_ok q 61 v0 = true), ce + N * 1 + dc ≤ 302 → sl + N * 6 + ds ≤ 1812 → pw_W q (n, f) S → pw_p (m_L_units_2 N S v0 v1 v2) (fun S' r => ∀ f', pw_W q (n, f') S' → Q (some (.int r)) (n, f')) → np_G X 2 [(0, .ref (pw_pl 61 v0)), (1, .int v1), (2, .int v2)] [] (n, f) ce sl := by
  intro N
  induction N with
  | zero =>
    intro S v0 v1 v2 f ce sl hv0 hc hs hW h
    exact (pw_pn h).elim
  | succ N ih =>
    intro S v0 v1 v2 f ce sl hv0 hc hs hW h
    unfold m_L_units_2 at h
    refine np_soundW (so_L_units hX hR) [2] 400 2 _ _ _ _ _ ?_
    conv => whnf
    refine np_chk_i (pw_and rfl (pw_and rfl (pw_and rfl ((pw_and (pw_le (by omega)) (pw_le (by omega))))))) ?_
    conv => whnf
    refine ⟨q, S, v0, 6, v1, v2, 0, rfl, hv0, hW, pw_bd h (fun S1 r4 h f2 hW3 => ?_)⟩
    conv => whnf
    refine pw_br h (fun _ h => ?_) (fun _ h => ?_)
    · conv => whnf
      exact ⟨(by omega), (by omega), ⟨_, rfl⟩, _, fun _ _ h9 => h9, pw_ps h _ hW3⟩
    · conv => whnf
      refine pw_st h (fun z6 h => ?_)
      conv => whnf
      exact np_gl (ih S1 v0 v1 z6 f2 _ _ hv0 (by omega) (by omega) hW3 h) ⟨rfl, rfl, rfl, trivial⟩
noncomputable def m_L_units (S : pw_S) (i0 : Nat) (x1 : Int32) : pw_R Int32 :=
 pw_l (0 : Int32) fun z7 =>
 m_L_units_2 (pw_F 302) S i0 x1 z7
def sp_L_units : np_Sp := fun vs w Q => ∃ (q : Nat) (S : pw_S) (i0 : Nat) (x1 : Int32), vs = [.ref (pw_pl 61 i0), .int x1] ∧ pw_ok q 61 i0 = true ∧ pw_W q w S ∧ pw_p (m_L_units S i0 x1) (fun S' r => ∀ f', pw_W q (w.1, f') S' → Q (some (.int r)) (w.1, f'))
set_option maxRecDepth 100000 in
set_option maxHeartbeats 8000000 in
theorem C_L_units : np_C yL_units cL_units 3 (some .int) 9 250 302 1812 (sp_L_units) := by
  refine np_of (by decide) ?_
  intro X vs w Q hsp hX hmn hRt hlt
  obtain ⟨q, S, i0, x1, rfl, hi0, hW, h⟩ := hsp
  obtain ⟨n, f⟩ := w
  unfold m_L_units at h
  have hR : ∀ st w ce sl, np_rt (some .int) 302 1812 Q st w ce sl → X.2.2.1 st w ce sl := fun _ _ _ _ h => by rw [hRt]; exact h
  refine np_soundW (so_L_units hX hR) [2] 400 0 _ _ _ _ _ ?_
  conv => whnf
  refine pw_st h (fun z7 h => ?_)
  conv => whnf
  refine np_gl (L_L_units_2 (dc := 0) (ds := 0) hX hR (pw_F 302) S i0 x1 z7 f _ _ hi0 (by rw [pw_F_eq]; omega) (by rw [pw_F_eq]; omega) hW h) ⟨rfl, rfl, rfl, trivial⟩
