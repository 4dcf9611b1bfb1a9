theorem gw7 : (Jvm.Cond.selects "NotationPress$Printer" ({ cls := "NotationPress$Printer", name := "printSlot", desc := "(LNotationPress$Items;[I)Z" } : Jvm.MethodName) ({ cls := "NotationPress$Printer", name := "printSlot", desc := "(LNotationPress$Items;[I)Z" } : Jvm.MethodName)) ∈ np_gw := np_gwi 7 (by decide +kernel) rfl
theorem gw13 : (Jvm.Cond.selects "NotationPress$Printer" ({ cls := "NotationPress$Printer", name := "printSign", desc := "(LNotationPress$Items;)Z" } : Jvm.MethodName) ({ cls := "NotationPress$Printer", name := "printSign", desc := "(LNotationPress$Items;)Z" } : Jvm.MethodName)) ∈ np_gw := np_gwi 13 (by decide +kernel) rfl
theorem gw14 : (Jvm.Cond.selects "NotationPress$Printer" ({ cls := "NotationPress$Printer", name := "writePlace", desc := "(I)Z" } : Jvm.MethodName) ({ cls := "NotationPress$Printer", name := "writePlace", desc := "(I)Z" } : Jvm.MethodName)) ∈ np_gw := np_gwi 14 (by decide +kernel) rfl
theorem gw19 : (Jvm.Cond.selects "NotationPress$Reader" ({ cls := "NotationPress$Reader", name := "beginningAt", desc := "(I)LNotationPress$Trace;" } : Jvm.MethodName) ({ cls := "NotationPress$Reader", name := "beginningAt", desc := "(I)LNotationPress$Trace;" } : Jvm.MethodName)) ∈ np_gw := np_gwi 19 (by decide +kernel) rfl
theorem gw22 : (Jvm.Cond.selects "NotationPress$Reader" ({ cls := "NotationPress$Reader", name := "ahead", desc := "(I)I" } : Jvm.MethodName) ({ cls := "NotationPress$Reader", name := "ahead", desc := "(I)I" } : Jvm.MethodName)) ∈ np_gw := np_gwi 22 (by decide +kernel) rfl
theorem gw23 : (Jvm.Cond.selects "NotationPress$Reader" ({ cls := "NotationPress$Reader", name := "keepWay", desc := "(III)V" } : Jvm.MethodName) ({ cls := "NotationPress$Reader", name := "keepWay", desc := "(III)V" } : Jvm.MethodName)) ∈ np_gw := np_gwi 23 (by decide +kernel) rfl
theorem gw67 : (Jvm.Cond.initialized "NotationPress$Reader") ∈ np_gw := np_gwi 67 (by decide +kernel) rfl
theorem gw68 : (Jvm.Cond.initialized "NotationPress$Text") ∈ np_gw := np_gwi 68 (by decide +kernel) rfl
theorem gw81 : (Jvm.Cond.initialized "java/lang/System") ∈ np_gw := np_gwi 81 (by decide +kernel) rfl
theorem gw152 : (Jvm.Cond.fieldLinkNest "NotationPress$Reader" (78 : Nat) "NotationPress$Trace" "item" "I" "NotationPress") ∈ np_nw := np_nwi 152 (by decide +kernel) rfl
theorem gw159 : (Jvm.Cond.fieldLinkNest "NotationPress$Reader" (123 : Nat) "NotationPress$Trace" "length" "I" "NotationPress") ∈ np_nw := np_nwi 159 (by decide +kernel) rfl
theorem gw209 : (Jvm.Cond.fieldLink "NotationPress$Text" (9 : Nat) "NotationPress$Text" "units" "[C") ∈ np_gw := np_gwi 209 (by decide +kernel) rfl
theorem gw210 : (Jvm.Cond.fieldLink "NotationPress$Text" (19 : Nat) "NotationPress$Text" "length" "I") ∈ np_gw := np_gwi 210 (by decide +kernel) rfl
theorem gw214 : (Jvm.Cond.laysFinal "NotationPress$Text" "NotationPress$Text" "units" "[C") ∈ np_gw := np_gwi 214 (by decide +kernel) rfl
theorem gw216 : (Jvm.Cond.lays "NotationPress$Text" "NotationPress$Text" "length" "I") ∈ np_gw := np_gwi 216 (by decide +kernel) rfl
theorem gw218 : (Jvm.Cond.lays "NotationPress$Text" "NotationPress$Text" "open" "Z") ∈ np_gw := np_gwi 218 (by decide +kernel) rfl
theorem gw222 : (Jvm.Cond.fieldLink "NotationPress$Reader" (11 : Nat) "NotationPress$Reader" "beginnings" "[LNotationPress$Trace;") ∈ np_gw := np_gwi 222 (by decide +kernel) rfl
theorem gw223 : (Jvm.Cond.fieldLink "NotationPress$Reader" (18 : Nat) "NotationPress$Reader" "current" "LNotationPress$Trace;") ∈ np_gw := np_gwi 223 (by decide +kernel) rfl
theorem gw225 : (Jvm.Cond.fieldLink "NotationPress$Reader" (22 : Nat) "NotationPress$Reader" "number" "[I") ∈ np_gw := np_gwi 225 (by decide +kernel) rfl
theorem gw228 : (Jvm.Cond.fieldLink "NotationPress$Reader" (35 : Nat) "NotationPress$Reader" "items" "LNotationPress$Items;") ∈ np_gw := np_gwi 228 (by decide +kernel) rfl
theorem gw229 : (Jvm.Cond.fieldLink "NotationPress$Reader" (42 : Nat) "NotationPress$Reader" "text" "LNotationPress$Text;") ∈ np_gw := np_gwi 229 (by decide +kernel) rfl
theorem gw230 : (Jvm.Cond.fieldLink "NotationPress$Reader" (46 : Nat) "NotationPress$Reader" "place" "I") ∈ np_gw := np_gwi 230 (by decide +kernel) rfl
theorem gw231 : (Jvm.Cond.fieldLink "NotationPress$Reader" (64 : Nat) "NotationPress$Reader" "kept" "I") ∈ np_gw := np_gwi 231 (by decide +kernel) rfl
theorem gw232 : (Jvm.Cond.fieldLink "NotationPress$Reader" (50 : Nat) "NotationPress$Reader" "begun" "I") ∈ np_gw := np_gwi 232 (by decide +kernel) rfl
theorem gw233 : (Jvm.Cond.fieldLink "NotationPress$Reader" (53 : Nat) "NotationPress$Reader" "tooFar" "Z") ∈ np_gw := np_gwi 233 (by decide +kernel) rfl
theorem gw235 : (Jvm.Cond.laysFinal "NotationPress$Reader" "NotationPress$Reader" "beginnings" "[LNotationPress$Trace;") ∈ np_gw := np_gwi 235 (by decide +kernel) rfl
theorem gw237 : (Jvm.Cond.laysFinal "NotationPress$Reader" "NotationPress$Reader" "current" "LNotationPress$Trace;") ∈ np_gw := np_gwi 237 (by decide +kernel) rfl
theorem gw239 : (Jvm.Cond.laysFinal "NotationPress$Reader" "NotationPress$Reader" "number" "[I") ∈ np_gw := np_gwi 239 (by decide +kernel) rfl
theorem gw241 : (Jvm.Cond.laysFinal "NotationPress$Reader" "NotationPress$Reader" "words" "[I") ∈ np_gw := np_gwi 241 (by decide +kernel) rfl
theorem gw243 : (Jvm.Cond.laysFinal "NotationPress$Reader" "NotationPress$Reader" "wordEnds" "[I") ∈ np_gw := np_gwi 243 (by decide +kernel) rfl
theorem gw245 : (Jvm.Cond.lays "NotationPress$Reader" "NotationPress$Reader" "items" "LNotationPress$Items;") ∈ np_gw := np_gwi 245 (by decide +kernel) rfl
theorem gw247 : (Jvm.Cond.lays "NotationPress$Reader" "NotationPress$Reader" "text" "LNotationPress$Text;") ∈ np_gw := np_gwi 247 (by decide +kernel) rfl
theorem gw249 : (Jvm.Cond.lays "NotationPress$Reader" "NotationPress$Reader" "place" "I") ∈ np_gw := np_gwi 249 (by decide +kernel) rfl
theorem gw251 : (Jvm.Cond.lays "NotationPress$Reader" "NotationPress$Reader" "kept" "I") ∈ np_gw := np_gwi 251 (by decide +kernel) rfl
theorem gw253 : (Jvm.Cond.lays "NotationPress$Reader" "NotationPress$Reader" "begun" "I") ∈ np_gw := np_gwi 253 (by decide +kernel) rfl
theorem gw255 : (Jvm.Cond.lays "NotationPress$Reader" "NotationPress$Reader" "tooFar" "Z") ∈ np_gw := np_gwi 255 (by decide +kernel) rfl
theorem gw742 : (Jvm.Cond.instanceMethod ({ cls := "NotationPress$Trace", name := "restart", desc := "()V" } : Jvm.MethodName)) ∈ np_gw := np_gwi 742 (by decide +kernel) rfl
theorem gw743 : (Jvm.Cond.selects "NotationPress$Trace" ({ cls := "NotationPress$Trace", name := "restart", desc := "()V" } : Jvm.MethodName) ({ cls := "NotationPress$Trace", name := "restart", desc := "()V" } : Jvm.MethodName)) ∈ np_gw := np_gwi 743 (by decide +kernel) rfl
theorem gw744 : (Jvm.Cond.code ({ cls := "NotationPress$Trace", name := "restart", desc := "()V" } : Jvm.MethodName) prog_10_method_2_code (1 : Nat) (Option.none : Option Jvm.ClassFile.FieldType)) ∈ np_gw := np_gwi 744 (by decide +kernel) rfl
theorem gw756 : (Jvm.Cond.instanceMethod ({ cls := "NotationPress$Trace", name := "isOver", desc := "(LNotationPress$Items;)Z" } : Jvm.MethodName)) ∈ np_gw := np_gwi 756 (by decide +kernel) rfl
theorem gw757 : (Jvm.Cond.selects "NotationPress$Trace" ({ cls := "NotationPress$Trace", name := "isOver", desc := "(LNotationPress$Items;)Z" } : Jvm.MethodName) ({ cls := "NotationPress$Trace", name := "isOver", desc := "(LNotationPress$Items;)Z" } : Jvm.MethodName)) ∈ np_gw := np_gwi 757 (by decide +kernel) rfl
theorem gw758 : (Jvm.Cond.code ({ cls := "NotationPress$Trace", name := "isOver", desc := "(LNotationPress$Items;)Z" } : Jvm.MethodName) prog_10_method_4_code (2 : Nat) (Option.some Jvm.ClassFile.FieldType.boolean)) ∈ np_gw := np_gwi 758 (by decide +kernel) rfl
theorem gw762 : (Jvm.Cond.instanceMethod ({ cls := "NotationPress$Trace", name := "enter", desc := "(LNotationPress$Items;)V" } : Jvm.MethodName)) ∈ np_gw := np_gwi 762 (by decide +kernel) rfl
theorem gw763 : (Jvm.Cond.selects "NotationPress$Trace" ({ cls := "NotationPress$Trace", name := "enter", desc := "(LNotationPress$Items;)V" } : Jvm.MethodName) ({ cls := "NotationPress$Trace", name := "enter", desc := "(LNotationPress$Items;)V" } : Jvm.MethodName)) ∈ np_gw := np_gwi 763 (by decide +kernel) rfl
theorem gw764 : (Jvm.Cond.code ({ cls := "NotationPress$Trace", name := "enter", desc := "(LNotationPress$Items;)V" } : Jvm.MethodName) prog_10_method_11_code (5 : Nat) (Option.none : Option Jvm.ClassFile.FieldType)) ∈ np_gw := np_gwi 764 (by decide +kernel) rfl
theorem gw773 : (Jvm.Cond.instanceMethod ({ cls := "NotationPress$Trace", name := "finish", desc := "(LNotationPress$Items;)V" } : Jvm.MethodName)) ∈ np_gw := np_gwi 773 (by decide +kernel) rfl
theorem gw774 : (Jvm.Cond.selects "NotationPress$Trace" ({ cls := "NotationPress$Trace", name := "finish", desc := "(LNotationPress$Items;)V" } : Jvm.MethodName) ({ cls := "NotationPress$Trace", name := "finish", desc := "(LNotationPress$Items;)V" } : Jvm.MethodName)) ∈ np_gw := np_gwi 774 (by decide +kernel) rfl
theorem gw775 : (Jvm.Cond.code ({ cls := "NotationPress$Trace", name := "finish", desc := "(LNotationPress$Items;)V" } : Jvm.MethodName) prog_10_method_10_code (2 : Nat) (Option.none : Option Jvm.ClassFile.FieldType)) ∈ np_gw := np_gwi 775 (by decide +kernel) rfl
theorem gw793 : (Jvm.Cond.methodLink "NotationPress$Printer" (33 : Nat) ({ cls := "NotationPress$Trace", name := "restart", desc := "()V" } : Jvm.MethodName)) ∈ np_gw := np_gwi 793 (by decide +kernel) rfl
theorem gw794 : (Jvm.Cond.methodLink "NotationPress$Printer" (36 : Nat) ({ cls := "NotationPress$Trace", name := "isOver", desc := "(LNotationPress$Items;)Z" } : Jvm.MethodName)) ∈ np_gw := np_gwi 794 (by decide +kernel) rfl
theorem gw795 : (Jvm.Cond.methodLink "NotationPress$Printer" (43 : Nat) ({ cls := "NotationPress$Items", name := "embraces", desc := "(I)Z" } : Jvm.MethodName)) ∈ np_gw := np_gwi 795 (by decide +kernel) rfl
theorem gw796 : (Jvm.Cond.methodLink "NotationPress$Printer" (49 : Nat) ({ cls := "NotationPress$Trace", name := "enter", desc := "(LNotationPress$Items;)V" } : Jvm.MethodName)) ∈ np_gw := np_gwi 796 (by decide +kernel) rfl
theorem gw797 : (Jvm.Cond.methodLink "NotationPress$Printer" (53 : Nat) ({ cls := "NotationPress$Items", name := "hasSlot", desc := "(I)Z" } : Jvm.MethodName)) ∈ np_gw := np_gwi 797 (by decide +kernel) rfl
theorem gw798 : (Jvm.Cond.methodLink "NotationPress$Printer" (56 : Nat) ({ cls := "NotationPress$Printer", name := "printSlot", desc := "(LNotationPress$Items;[I)Z" } : Jvm.MethodName)) ∈ np_gw := np_gwi 798 (by decide +kernel) rfl
theorem gw800 : (Jvm.Cond.instanceMethod ({ cls := "NotationPress$Printer", name := "printSlot", desc := "(LNotationPress$Items;[I)Z" } : Jvm.MethodName)) ∈ np_gw := np_gwi 800 (by decide +kernel) rfl
theorem gw801 : (Jvm.Cond.code ({ cls := "NotationPress$Printer", name := "printSlot", desc := "(LNotationPress$Items;[I)Z" } : Jvm.MethodName) prog_5_method_6_code (7 : Nat) (Option.some Jvm.ClassFile.FieldType.boolean)) ∈ np_gw := np_gwi 801 (by decide +kernel) rfl
theorem gw868 : (Jvm.Cond.methodLink "NotationPress$Printer" (60 : Nat) ({ cls := "NotationPress$Printer", name := "printSign", desc := "(LNotationPress$Items;)Z" } : Jvm.MethodName)) ∈ np_gw := np_gwi 868 (by decide +kernel) rfl
theorem gw870 : (Jvm.Cond.instanceMethod ({ cls := "NotationPress$Printer", name := "printSign", desc := "(LNotationPress$Items;)Z" } : Jvm.MethodName)) ∈ np_gw := np_gwi 870 (by decide +kernel) rfl
theorem gw871 : (Jvm.Cond.code ({ cls := "NotationPress$Printer", name := "printSign", desc := "(LNotationPress$Items;)Z" } : Jvm.MethodName) prog_5_method_5_code (3 : Nat) (Option.some Jvm.ClassFile.FieldType.boolean)) ∈ np_gw := np_gwi 871 (by decide +kernel) rfl
theorem gw872 : (Jvm.Cond.methodLink "NotationPress$Printer" (73 : Nat) ({ cls := "NotationPress$Trace", name := "checkDigit", desc := "()I" } : Jvm.MethodName)) ∈ np_gw := np_gwi 872 (by decide +kernel) rfl
theorem gw873 : (Jvm.Cond.instanceMethod ({ cls := "NotationPress$Trace", name := "checkDigit", desc := "()I" } : Jvm.MethodName)) ∈ np_gw := np_gwi 873 (by decide +kernel) rfl
theorem gw874 : (Jvm.Cond.selects "NotationPress$Trace" ({ cls := "NotationPress$Trace", name := "checkDigit", desc := "()I" } : Jvm.MethodName) ({ cls := "NotationPress$Trace", name := "checkDigit", desc := "()I" } : Jvm.MethodName)) ∈ np_gw := np_gwi 874 (by decide +kernel) rfl
theorem gw875 : (Jvm.Cond.code ({ cls := "NotationPress$Trace", name := "checkDigit", desc := "()I" } : Jvm.MethodName) prog_10_method_9_code (1 : Nat) (Option.some Jvm.ClassFile.FieldType.int)) ∈ np_gw := np_gwi 875 (by decide +kernel) rfl
theorem gw876 : (Jvm.Cond.methodLink "NotationPress$Printer" (80 : Nat) ({ cls := "NotationPress$Trace", name := "startOf", desc := "(I)I" } : Jvm.MethodName)) ∈ np_gw := np_gwi 876 (by decide +kernel) rfl
theorem gw877 : (Jvm.Cond.methodLink "NotationPress$Printer" (83 : Nat) ({ cls := "NotationPress$Printer", name := "writePlace", desc := "(I)Z" } : Jvm.MethodName)) ∈ np_gw := np_gwi 877 (by decide +kernel) rfl
theorem gw879 : (Jvm.Cond.instanceMethod ({ cls := "NotationPress$Printer", name := "writePlace", desc := "(I)Z" } : Jvm.MethodName)) ∈ np_gw := np_gwi 879 (by decide +kernel) rfl
theorem gw880 : (Jvm.Cond.code ({ cls := "NotationPress$Printer", name := "writePlace", desc := "(I)Z" } : Jvm.MethodName) prog_5_method_12_code (2 : Nat) (Option.some Jvm.ClassFile.FieldType.boolean)) ∈ np_gw := np_gwi 880 (by decide +kernel) rfl
theorem gw881 : (Jvm.Cond.methodLink "NotationPress$Printer" (63 : Nat) ({ cls := "NotationPress$Trace", name := "finish", desc := "(LNotationPress$Items;)V" } : Jvm.MethodName)) ∈ np_gw := np_gwi 881 (by decide +kernel) rfl
theorem gw888 : (Jvm.Cond.instanceMethod ({ cls := "NotationPress$Trace", name := "copyFrom", desc := "(LNotationPress$Trace;)V" } : Jvm.MethodName)) ∈ np_gw := np_gwi 888 (by decide +kernel) rfl
theorem gw889 : (Jvm.Cond.selects "NotationPress$Trace" ({ cls := "NotationPress$Trace", name := "copyFrom", desc := "(LNotationPress$Trace;)V" } : Jvm.MethodName) ({ cls := "NotationPress$Trace", name := "copyFrom", desc := "(LNotationPress$Trace;)V" } : Jvm.MethodName)) ∈ np_gw := np_gwi 889 (by decide +kernel) rfl
theorem gw890 : (Jvm.Cond.code ({ cls := "NotationPress$Trace", name := "copyFrom", desc := "(LNotationPress$Trace;)V" } : Jvm.MethodName) prog_10_method_3_code (2 : Nat) (Option.none : Option Jvm.ClassFile.FieldType)) ∈ np_gw := np_gwi 890 (by decide +kernel) rfl
theorem gw891 : (Jvm.Cond.methodLinkNest "NotationPress$Trace" (43 : Nat) ({ cls := "NotationPress", name := "copyCells", desc := "([II[III)V" } : Jvm.MethodName) "NotationPress") ∈ np_nw := np_nwi 891 (by decide +kernel) rfl
theorem gw892 : (Jvm.Cond.static ({ cls := "NotationPress", name := "copyCells", desc := "([II[III)V" } : Jvm.MethodName)) ∈ np_gw := np_gwi 892 (by decide +kernel) rfl
theorem gw893 : (Jvm.Cond.code ({ cls := "NotationPress", name := "copyCells", desc := "([II[III)V" } : Jvm.MethodName) prog_1_method_45_code (5 : Nat) (Option.none : Option Jvm.ClassFile.FieldType)) ∈ np_gw := np_gwi 893 (by decide +kernel) rfl
theorem gw894 : (Jvm.Cond.methodLink "NotationPress" (430 : Nat) ({ cls := "java/lang/System", name := "arraycopy", desc := "(Ljava/lang/Object;ILjava/lang/Object;II)V" } : Jvm.MethodName)) ∈ np_gw := np_gwi 894 (by decide +kernel) rfl
theorem gw895 : (Jvm.Cond.static ({ cls := "java/lang/System", name := "arraycopy", desc := "(Ljava/lang/Object;ILjava/lang/Object;II)V" } : Jvm.MethodName)) ∈ np_gw := np_gwi 895 (by decide +kernel) rfl
theorem gw896 : (Jvm.Cond.native ({ cls := "java/lang/System", name := "arraycopy", desc := "(Ljava/lang/Object;ILjava/lang/Object;II)V" } : Jvm.MethodName)) ∈ np_gw := np_gwi 896 (by decide +kernel) rfl
theorem gw987 : (Jvm.Cond.instanceMethod ({ cls := "NotationPress$Text", name := "unitAt", desc := "(I)I" } : Jvm.MethodName)) ∈ np_gw := np_gwi 987 (by decide +kernel) rfl
theorem gw988 : (Jvm.Cond.selects "NotationPress$Text" ({ cls := "NotationPress$Text", name := "unitAt", desc := "(I)I" } : Jvm.MethodName) ({ cls := "NotationPress$Text", name := "unitAt", desc := "(I)I" } : Jvm.MethodName)) ∈ np_gw := np_gwi 988 (by decide +kernel) rfl
theorem gw989 : (Jvm.Cond.code ({ cls := "NotationPress$Text", name := "unitAt", desc := "(I)I" } : Jvm.MethodName) prog_9_method_3_code (2 : Nat) (Option.some Jvm.ClassFile.FieldType.int)) ∈ np_gw := np_gwi 989 (by decide +kernel) rfl
theorem gw1003 : (Jvm.Cond.methodLink "NotationPress$Reader" (57 : Nat) ({ cls := "NotationPress$Reader", name := "beginningAt", desc := "(I)LNotationPress$Trace;" } : Jvm.MethodName)) ∈ np_gw := np_gwi 1003 (by decide +kernel) rfl
theorem gw1005 : (Jvm.Cond.instanceMethod ({ cls := "NotationPress$Reader", name := "beginningAt", desc := "(I)LNotationPress$Trace;" } : Jvm.MethodName)) ∈ np_gw := np_gwi 1005 (by decide +kernel) rfl
theorem gw1006 : (Jvm.Cond.code ({ cls := "NotationPress$Reader", name := "beginningAt", desc := "(I)LNotationPress$Trace;" } : Jvm.MethodName) prog_6_method_5_code (2 : Nat) (Option.some (Jvm.ClassFile.FieldType.object "NotationPress$Trace"))) ∈ np_gw := np_gwi 1006 (by decide +kernel) rfl
theorem gw1007 : (Jvm.Cond.methodLink "NotationPress$Reader" (61 : Nat) ({ cls := "NotationPress$Trace", name := "restart", desc := "()V" } : Jvm.MethodName)) ∈ np_gw := np_gwi 1007 (by decide +kernel) rfl
theorem gw1012 : (Jvm.Cond.methodLink "NotationPress$Reader" (67 : Nat) ({ cls := "NotationPress$Trace", name := "copyFrom", desc := "(LNotationPress$Trace;)V" } : Jvm.MethodName)) ∈ np_gw := np_gwi 1012 (by decide +kernel) rfl
theorem gw1023 : (Jvm.Cond.methodLink "NotationPress$Reader" (145 : Nat) ({ cls := "NotationPress$Items", name := "b", desc := "(I)I" } : Jvm.MethodName)) ∈ np_gw := np_gwi 1023 (by decide +kernel) rfl
theorem gw1024 : (Jvm.Cond.methodLink "NotationPress$Reader" (136 : Nat) ({ cls := "NotationPress$Reader", name := "ahead", desc := "(I)I" } : Jvm.MethodName)) ∈ np_gw := np_gwi 1024 (by decide +kernel) rfl
theorem gw1026 : (Jvm.Cond.instanceMethod ({ cls := "NotationPress$Reader", name := "ahead", desc := "(I)I" } : Jvm.MethodName)) ∈ np_gw := np_gwi 1026 (by decide +kernel) rfl
theorem gw1027 : (Jvm.Cond.code ({ cls := "NotationPress$Reader", name := "ahead", desc := "(I)I" } : Jvm.MethodName) prog_6_method_8_code (2 : Nat) (Option.some Jvm.ClassFile.FieldType.int)) ∈ np_gw := np_gwi 1027 (by decide +kernel) rfl
theorem gw1028 : (Jvm.Cond.methodLink "NotationPress$Reader" (126 : Nat) ({ cls := "NotationPress$Text", name := "unitAt", desc := "(I)I" } : Jvm.MethodName)) ∈ np_gw := np_gwi 1028 (by decide +kernel) rfl
theorem gw1029 : (Jvm.Cond.methodLinkNest "NotationPress$Reader" (148 : Nat) ({ cls := "NotationPress", name := "isDigit", desc := "(I)Z" } : Jvm.MethodName) "NotationPress") ∈ np_nw := np_nwi 1029 (by decide +kernel) rfl
theorem gw1030 : (Jvm.Cond.methodLink "NotationPress$Reader" (152 : Nat) ({ cls := "NotationPress$Items", name := "c", desc := "(I)I" } : Jvm.MethodName)) ∈ np_gw := np_gwi 1030 (by decide +kernel) rfl
theorem gw1031 : (Jvm.Cond.methodLinkNest "NotationPress$Reader" (155 : Nat) ({ cls := "NotationPress", name := "layOutNumber", desc := "(III[I)Z" } : Jvm.MethodName) "NotationPress") ∈ np_nw := np_nwi 1031 (by decide +kernel) rfl
theorem gw1032 : (Jvm.Cond.methodLinkNest "NotationPress$Reader" (159 : Nat) ({ cls := "NotationPress", name := "at", desc := "([III)I" } : Jvm.MethodName) "NotationPress") ∈ np_nw := np_nwi 1032 (by decide +kernel) rfl
theorem gw1033 : (Jvm.Cond.methodLink "NotationPress$Reader" (100 : Nat) ({ cls := "NotationPress$Items", name := "a", desc := "(I)I" } : Jvm.MethodName)) ∈ np_gw := np_gwi 1033 (by decide +kernel) rfl
theorem gw1034 : (Jvm.Cond.methodLink "NotationPress$Reader" (163 : Nat) ({ cls := "NotationPress$Reader", name := "keepWay", desc := "(III)V" } : Jvm.MethodName)) ∈ np_gw := np_gwi 1034 (by decide +kernel) rfl
theorem gw1036 : (Jvm.Cond.instanceMethod ({ cls := "NotationPress$Reader", name := "keepWay", desc := "(III)V" } : Jvm.MethodName)) ∈ np_gw := np_gwi 1036 (by decide +kernel) rfl
theorem gw1037 : (Jvm.Cond.code ({ cls := "NotationPress$Reader", name := "keepWay", desc := "(III)V" } : Jvm.MethodName) prog_6_method_9_code (6 : Nat) (Option.none : Option Jvm.ClassFile.FieldType)) ∈ np_gw := np_gwi 1037 (by decide +kernel) rfl
theorem gw1038 : (Jvm.Cond.methodLink "NotationPress$Reader" (129 : Nat) ({ cls := "NotationPress$Trace", name := "begin", desc := "(I)V" } : Jvm.MethodName)) ∈ np_gw := np_gwi 1038 (by decide +kernel) rfl
theorem gw1039 : (Jvm.Cond.methodLink "NotationPress$Reader" (132 : Nat) ({ cls := "NotationPress$Trace", name := "keep", desc := "(II)V" } : Jvm.MethodName)) ∈ np_gw := np_gwi 1039 (by decide +kernel) rfl
theorem gw1040 : (Jvm.Cond.methodLink "NotationPress$Reader" (139 : Nat) ({ cls := "NotationPress$Trace", name := "append", desc := "(I)V" } : Jvm.MethodName)) ∈ np_gw := np_gwi 1040 (by decide +kernel) rfl
theorem gw1041 : (Jvm.Cond.methodLink "NotationPress$Reader" (142 : Nat) ({ cls := "NotationPress$Trace", name := "finish", desc := "(LNotationPress$Items;)V" } : Jvm.MethodName)) ∈ np_gw := np_gwi 1041 (by decide +kernel) rfl
set_option maxRecDepth 20000 in
theorem guX4 : ∀ w ∈ u_ws RX4 TX4 11, w ∈ np_gw := by
  show ∀ w ∈ [(Jvm.Cond.laysFinal "NotationPress$Reader" "NotationPress$Reader" "beginnings" "[LNotationPress$Trace;"), (Jvm.Cond.laysFinal "NotationPress$Reader" "NotationPress$Reader" "current" "LNotationPress$Trace;"), (Jvm.Cond.laysFinal "NotationPress$Reader" "NotationPress$Reader" "number" "[I"), (Jvm.Cond.laysFinal "NotationPress$Reader" "NotationPress$Reader" "words" "[I"), (Jvm.Cond.laysFinal "NotationPress$Reader" "NotationPress$Reader" "wordEnds" "[I"), (Jvm.Cond.lays "NotationPress$Reader" "NotationPress$Reader" "items" "LNotationPress$Items;"), (Jvm.Cond.lays "NotationPress$Reader" "NotationPress$Reader" "text" "LNotationPress$Text;"), (Jvm.Cond.lays "NotationPress$Reader" "NotationPress$Reader" "place" "I"), (Jvm.Cond.lays "NotationPress$Reader" "NotationPress$Reader" "kept" "I"), (Jvm.Cond.lays "NotationPress$Reader" "NotationPress$Reader" "begun" "I"), (Jvm.Cond.lays "NotationPress$Reader" "NotationPress$Reader" "tooFar" "Z")], w ∈ np_gw
  exact List.forall_mem_cons.mpr ⟨gw235, List.forall_mem_cons.mpr ⟨gw237, List.forall_mem_cons.mpr ⟨gw239, List.forall_mem_cons.mpr ⟨gw241, List.forall_mem_cons.mpr ⟨gw243, List.forall_mem_cons.mpr ⟨gw245, List.forall_mem_cons.mpr ⟨gw247, List.forall_mem_cons.mpr ⟨gw249, List.forall_mem_cons.mpr ⟨gw251, List.forall_mem_cons.mpr ⟨gw253, List.forall_mem_cons.mpr ⟨gw255, fun _ h => nomatch h⟩⟩⟩⟩⟩⟩⟩⟩⟩⟩⟩
theorem ndX4 : ∀ j, j < 11 → defaultValue (tyX4 j) = vp_V [.null, .null, .null, .null, .null, .null, .null, .int 0, .int 0, .int 0, .int 0] j := by decide +kernel
theorem nfX4 : ∀ v ∈ ([.null, .null, .null, .null, .null, .null, .null, .int 0, .int 0, .int 0, .int 0] : List Value), ∀ ad : Nat → Nat, np_v ad v = v := by
  intro v hv ad
  simp only [List.mem_cons, List.not_mem_nil, or_false] at hv
  rcases hv with rfl | rfl | rfl | rfl | rfl | rfl | rfl | rfl | rfl | rfl | rfl <;> rfl
set_option maxRecDepth 20000 in
theorem guX7 : ∀ w ∈ u_ws RX7 TX7 3, w ∈ np_gw := by
  show ∀ w ∈ [(Jvm.Cond.laysFinal "NotationPress$Text" "NotationPress$Text" "units" "[C"), (Jvm.Cond.lays "NotationPress$Text" "NotationPress$Text" "length" "I"), (Jvm.Cond.lays "NotationPress$Text" "NotationPress$Text" "open" "Z")], w ∈ np_gw
  exact List.forall_mem_cons.mpr ⟨gw214, List.forall_mem_cons.mpr ⟨gw216, List.forall_mem_cons.mpr ⟨gw218, fun _ h => nomatch h⟩⟩⟩
theorem ndX7 : ∀ j, j < 3 → defaultValue (tyX7 j) = vp_V [.null, .int 0, .int 0] j := by decide +kernel
theorem nfX7 : ∀ v ∈ ([.null, .int 0, .int 0] : List Value), ∀ ad : Nat → Nat, np_v ad v = v := by
  intro v hv ad
  simp only [List.mem_cons, List.not_mem_nil, or_false] at hv
  rcases hv with rfl | rfl | rfl <;> rfl
theorem dX8_checkDigit_0 : decode cX8_checkDigit 0 = .ok (.bipush 48, 2) := by decide +kernel
theorem dX8_checkDigit_2 : decode cX8_checkDigit 2 = .ok (.aload_n 0, 1) := by decide +kernel
theorem dX8_checkDigit_3 : decode cX8_checkDigit 3 = .ok (.getfield 40, 3) := by decide +kernel
theorem dX8_checkDigit_6 : decode cX8_checkDigit 6 = .ok (.bipush 10, 2) := by decide +kernel
theorem dX8_checkDigit_8 : decode cX8_checkDigit 8 = .ok (.irem, 1) := by decide +kernel
theorem dX8_checkDigit_9 : decode cX8_checkDigit 9 = .ok (.iadd, 1) := by decide +kernel
theorem dX8_checkDigit_10 : decode cX8_checkDigit 10 = .ok (.ireturn, 1) := by decide +kernel
def is_X8_checkDigit (Rt : np_Rt) : List (Nat × np_Op) := [(0, np_push 2 (.int 48)), (2, np_ald 1 0), (3, nw_getf 8 8), (6, np_push 2 (.int 10)), (8, nq_ibn (fun x y => x - x / y * y)), (9, np_ib (fun x y => x + y)), (10, np_ret Rt)]
set_option maxRecDepth 20000 in
theorem so_X8_checkDigit {X : np_Ctx} {Rt : np_Rt} (hX : np_ok RX8 cX8_checkDigit 1 0 0 0 0 .ireturn X) (hR : ∀ st w ce sl, Rt st w ce sl → X.2.2.1 st w ce sl) : ∀ q ∈ is_X8_checkDigit Rt, np_S X q.1 q.2 :=
  List.forall_mem_cons.mpr ⟨np_s_bipush hX dX8_checkDigit_0 (by decide), List.forall_mem_cons.mpr ⟨np_s_aload_n hX dX8_checkDigit_2 rfl, List.forall_mem_cons.mpr ⟨np_S.mono (op := np_getf 8 8) (np_s_getf hX dX8_checkDigit_3 (C := RX8) (T := TX8) (N := 9) rfl guX8 (by decide) gw162) nw_getf_le, List.forall_mem_cons.mpr ⟨np_s_bipush hX dX8_checkDigit_6 (by decide), List.forall_mem_cons.mpr ⟨np_S.mono (op := np_ibn (fun x y => x - x / y * y)) (np_s_irem hX dX8_checkDigit_8) nq_ibn_le, List.forall_mem_cons.mpr ⟨np_s_iadd hX dX8_checkDigit_9, List.forall_mem_cons.mpr ⟨np_S.mono (op := np_ret X.2.2.1) (np_s_ret hX dX8_checkDigit_10) (nq_ret_le hR), fun _ h => nomatch h⟩⟩⟩⟩⟩⟩⟩
noncomputable def m_X8_checkDigit (S : pw_S) (i0 : Nat) : pw_R Int32 :=
 some (S, (48 + ((S 50 i0 8) - (S 50 i0 8) / 10 * 10)))
def sp_X8_checkDigit : np_Sp := fun vs w Q => ∃ (q : Nat) (S : pw_S) (i0 : Nat), vs = [.ref (pw_pl 50 i0)] ∧ pw_ok q 50 i0 = true ∧ pw_W q w S ∧ pw_p (m_X8_checkDigit S i0) (fun S' r => ∀ f', pw_W q (w.1, f') S' → Q (some (.int r)) (w.1, f'))
set_option maxRecDepth 100000 in
set_option maxHeartbeats 8000000 in
theorem C_X8_checkDigit : np_C yX8_checkDigit cX8_checkDigit 1 (some .int) 0 0 0 0 sp_X8_checkDigit := by
  refine np_of (by decide) ?_
  intro X vs w Q hsp hX hmn hRt hlt
  obtain ⟨q, S, i0, rfl, hi0, hW, h⟩ := hsp
  obtain ⟨n, f⟩ := w
  unfold m_X8_checkDigit at h
  have hR : ∀ st w ce sl, np_rt (some .int) 0 0 Q st w ce sl → X.2.2.1 st w ce sl := fun _ _ _ _ h => by rw [hRt]; exact h
  refine np_soundW (so_X8_checkDigit hX hR) [] 400 0 _ _ _ _ _ ?_
  conv => whnf
  refine np_rd_i (hW.g hi0) ?_
  conv => whnf
  exact ⟨Nat.le_of_ble_eq_true rfl, Nat.le_of_ble_eq_true rfl, ⟨_, rfl⟩, _, fun _ _ h9 => h9, pw_ps h _ hW⟩
theorem dX3_writePlace_0 : decode cX3_writePlace 0 = .ok (.iload_n 1, 1) := by decide +kernel
theorem dX3_writePlace_1 : decode cX3_writePlace 1 = .ok (.iconst 0, 1) := by decide +kernel
theorem dX3_writePlace_2 : decode cX3_writePlace 2 = .ok (.bipush 99, 2) := by decide +kernel
theorem dX3_writePlace_4 : decode cX3_writePlace 4 = .ok (.invokestatic 128, 3) := by decide +kernel
theorem dX3_writePlace_7 : decode cX3_writePlace 7 = .ok (.ifCond .eq 35, 3) := by decide +kernel
theorem dX3_writePlace_10 : decode cX3_writePlace 10 = .ok (.aload_n 0, 1) := by decide +kernel
theorem dX3_writePlace_11 : decode cX3_writePlace 11 = .ok (.bipush 48, 2) := by decide +kernel
theorem dX3_writePlace_13 : decode cX3_writePlace 13 = .ok (.iload_n 1, 1) := by decide +kernel
theorem dX3_writePlace_14 : decode cX3_writePlace 14 = .ok (.bipush 10, 2) := by decide +kernel
theorem dX3_writePlace_16 : decode cX3_writePlace 16 = .ok (.idiv, 1) := by decide +kernel
theorem dX3_writePlace_17 : decode cX3_writePlace 17 = .ok (.iadd, 1) := by decide +kernel
theorem dX3_writePlace_18 : decode cX3_writePlace 18 = .ok (.invokevirtual 77, 3) := by decide +kernel
theorem dX3_writePlace_21 : decode cX3_writePlace 21 = .ok (.ifCond .eq 21, 3) := by decide +kernel
theorem dX3_writePlace_24 : decode cX3_writePlace 24 = .ok (.aload_n 0, 1) := by decide +kernel
theorem dX3_writePlace_25 : decode cX3_writePlace 25 = .ok (.bipush 48, 2) := by decide +kernel
theorem dX3_writePlace_27 : decode cX3_writePlace 27 = .ok (.iload_n 1, 1) := by decide +kernel
theorem dX3_writePlace_28 : decode cX3_writePlace 28 = .ok (.bipush 10, 2) := by decide +kernel
theorem dX3_writePlace_30 : decode cX3_writePlace 30 = .ok (.irem, 1) := by decide +kernel
theorem dX3_writePlace_31 : decode cX3_writePlace 31 = .ok (.iadd, 1) := by decide +kernel
theorem dX3_writePlace_32 : decode cX3_writePlace 32 = .ok (.invokevirtual 77, 3) := by decide +kernel
theorem dX3_writePlace_35 : decode cX3_writePlace 35 = .ok (.ifCond .eq 7, 3) := by decide +kernel
theorem dX3_writePlace_38 : decode cX3_writePlace 38 = .ok (.iconst 1, 1) := by decide +kernel
theorem dX3_writePlace_39 : decode cX3_writePlace 39 = .ok (.goto 4, 3) := by decide +kernel
theorem dX3_writePlace_42 : decode cX3_writePlace 42 = .ok (.iconst 0, 1) := by decide +kernel
theorem dX3_writePlace_43 : decode cX3_writePlace 43 = .ok (.ireturn, 1) := by decide +kernel
def is_X3_writePlace (Rt : np_Rt) : List (Nat × np_Op) := [(0, np_ild 1 1), (1, np_push 1 (.int 0)), (2, np_push 2 (.int 99)), (4, nq_call 3 sp_X11_isBetween 3 0 0 0 0), (7, nq_if (fun x => x = 0) 42), (10, np_ald 1 0), (11, np_push 2 (.int 48)), (13, np_ild 1 1), (14, np_push 2 (.int 10)), (16, nq_ibn (fun x y => x / y)), (17, np_ib (fun x y => x + y)), (18, nw_callV 3 2 sp_X3_write 2 0 0 0 0), (21, nq_if (fun x => x = 0) 42), (24, np_ald 1 0), (25, np_push 2 (.int 48)), (27, np_ild 1 1), (28, np_push 2 (.int 10)), (30, nq_ibn (fun x y => x - x / y * y)), (31, np_ib (fun x y => x + y)), (32, nw_callV 3 2 sp_X3_write 2 0 0 0 0), (35, nq_if (fun x => x = 0) 42), (38, np_push 1 (.int 1)), (39, np_goto 43), (42, np_push 1 (.int 0)), (43, np_ret Rt)]
set_option maxRecDepth 20000 in
theorem so_X3_writePlace {X : np_Ctx} {Rt : np_Rt} (hX : np_ok RX3 cX3_writePlace 2 3 62 0 0 .ireturn X) (hR : ∀ st w ce sl, Rt st w ce sl → X.2.2.1 st w ce sl) : ∀ q ∈ is_X3_writePlace Rt, np_S X q.1 q.2 :=
  List.forall_mem_cons.mpr ⟨np_s_iload_n hX dX3_writePlace_0 rfl, List.forall_mem_cons.mpr ⟨np_s_iconst hX dX3_writePlace_1 (by decide), List.forall_mem_cons.mpr ⟨np_s_bipush hX dX3_writePlace_2 (by decide), List.forall_mem_cons.mpr ⟨np_S.mono (op := np_call 3 sp_X11_isBetween 3 0 0 0 0) (np_s_callSN hX C_X11_isBetween dX3_writePlace_4 gw589 gw63 gw867 gw588 ⟨by decide, by decide, by decide⟩ (by decide) (by decide)) nq_call_le, List.forall_mem_cons.mpr ⟨np_S.mono (op := np_if (fun x => x = 0) 42) (np_s_if_eq hX dX3_writePlace_7 (by decide)) nq_if_le, List.forall_mem_cons.mpr ⟨np_s_aload_n hX dX3_writePlace_10 rfl, List.forall_mem_cons.mpr ⟨np_s_bipush hX dX3_writePlace_11 (by decide), List.forall_mem_cons.mpr ⟨np_s_iload_n hX dX3_writePlace_13 rfl, List.forall_mem_cons.mpr ⟨np_s_bipush hX dX3_writePlace_14 (by decide), List.forall_mem_cons.mpr ⟨np_S.mono (op := np_ibn (fun x y => x / y)) (np_s_idiv hX dX3_writePlace_16) nq_ibn_le, List.forall_mem_cons.mpr ⟨np_s_iadd hX dX3_writePlace_17, List.forall_mem_cons.mpr ⟨np_S.mono (op := np_callV 3 2 sp_X3_write 2 0 0 0 0) (np_s_callV hX C_X3_write dX3_writePlace_18 (q := (RX3, TX3, 3)) rfl rfl gw836 gw65 gw833 gw835 gw9 ⟨by decide, by decide, by decide⟩ (by decide) (by decide)) nw_callV_le, List.forall_mem_cons.mpr ⟨np_S.mono (op := np_if (fun x => x = 0) 42) (np_s_if_eq hX dX3_writePlace_21 (by decide)) nq_if_le, List.forall_mem_cons.mpr ⟨np_s_aload_n hX dX3_writePlace_24 rfl, List.forall_mem_cons.mpr ⟨np_s_bipush hX dX3_writePlace_25 (by decide), List.forall_mem_cons.mpr ⟨np_s_iload_n hX dX3_writePlace_27 rfl, List.forall_mem_cons.mpr ⟨np_s_bipush hX dX3_writePlace_28 (by decide), List.forall_mem_cons.mpr ⟨np_S.mono (op := np_ibn (fun x y => x - x / y * y)) (np_s_irem hX dX3_writePlace_30) nq_ibn_le, List.forall_mem_cons.mpr ⟨np_s_iadd hX dX3_writePlace_31, List.forall_mem_cons.mpr ⟨np_S.mono (op := np_callV 3 2 sp_X3_write 2 0 0 0 0) (np_s_callV hX C_X3_write dX3_writePlace_32 (q := (RX3, TX3, 3)) rfl rfl gw836 gw65 gw833 gw835 gw9 ⟨by decide, by decide, by decide⟩ (by decide) (by decide)) nw_callV_le, List.forall_mem_cons.mpr ⟨np_S.mono (op := np_if (fun x => x = 0) 42) (np_s_if_eq hX dX3_writePlace_35 (by decide)) nq_if_le, List.forall_mem_cons.mpr ⟨np_s_iconst hX dX3_writePlace_38 (by decide), List.forall_mem_cons.mpr ⟨np_s_goto hX dX3_writePlace_39 (by decide), List.forall_mem_cons.mpr ⟨np_s_iconst hX dX3_writePlace_42 (by decide), List.forall_mem_cons.mpr ⟨np_S.mono (op := np_ret X.2.2.1) (np_s_ret hX dX3_writePlace_43) (nq_ret_le hR), fun _ h => nomatch h⟩⟩⟩⟩⟩⟩⟩⟩⟩⟩⟩⟩⟩⟩⟩⟩⟩⟩⟩⟩⟩⟩⟩⟩⟩
noncomputable def m_X3_writePlace (S : pw_S) (i0 : Nat) (x1 : Int32) : pw_R Int32 :=
 pw_b (m_X11_isBetween S x1 0 99) fun S1 r4 =>
 if r4 = 0 then
 (some (S1, 0))
 else
 (pw_b (m_X3_write S1 i0 (48 + (x1 / 10))) fun S6 r9 =>
 if r9 = 0 then
 (some (S6, 0))
 else
 (pw_b (m_X3_write S6 i0 (48 + (x1 - x1 / 10 * 10))) fun S11 r14 =>
 if r14 = 0 then
 (some (S11, 0))
 else
 (some (S11, 1))))
def sp_X3_writePlace : np_Sp := fun vs w Q => ∃ (q : Nat) (S : pw_S) (i0 : Nat) (x1 : Int32), vs = [.ref (pw_pl 58 i0), .int x1] ∧ pw_ok q 58 i0 = true ∧ pw_W q w S ∧ pw_p (m_X3_writePlace S i0 x1) (fun S' r => ∀ f', pw_W q (w.1, f') S' → Q (some (.int r)) (w.1, f'))
set_option maxRecDepth 100000 in
set_option maxHeartbeats 8000000 in
theorem C_X3_writePlace : np_C yX3_writePlace cX3_writePlace 2 (some .boolean) 3 62 0 0 sp_X3_writePlace := by
  refine np_of (by decide) ?_
  intro X vs w Q hsp hX hmn hRt hlt
  obtain ⟨q, S, i0, x1, rfl, hi0, hW, h⟩ := hsp
  obtain ⟨n, f⟩ := w
  unfold m_X3_writePlace at h
  have hR : ∀ st w ce sl, np_rt (some .boolean) 0 0 Q st w ce sl → X.2.2.1 st w ce sl := fun _ _ _ _ h => by rw [hRt]; exact h
  refine np_soundW (so_X3_writePlace hX hR) [] 400 0 _ _ _ _ _ ?_
  conv => whnf
  refine ⟨q, S, x1, 0, 99, rfl, hW, pw_bd h (fun S1 r4 h f2 hW3 => ?_)⟩
  conv => whnf
  refine pw_br h (fun _ h => ?_) (fun _ h => ?_)
  · conv => whnf
    exact ⟨Nat.le_of_ble_eq_true rfl, Nat.le_of_ble_eq_true rfl, ⟨_, rfl, by decide⟩, _, fun _ _ h9 => h9, pw_ps h _ hW3⟩
  · conv => whnf
    refine np_rd_i (hW3.g hi0) ?_
    conv => whnf
    refine ⟨q, S1, i0, (48 + (x1 / 10)), rfl, hi0, hW3, pw_bd h (fun S6 r9 h f7 hW8 => ?_)⟩
    conv => whnf
    refine pw_br h (fun _ h => ?_) (fun _ h => ?_)
    · conv => whnf
      exact ⟨Nat.le_of_ble_eq_true rfl, Nat.le_of_ble_eq_true rfl, ⟨_, rfl, by decide⟩, _, fun _ _ h9 => h9, pw_ps h _ hW8⟩
    · conv => whnf
      refine np_rd_i (hW8.g hi0) ?_
      conv => whnf
      refine ⟨q, S6, i0, (48 + (x1 - x1 / 10 * 10)), rfl, hi0, hW8, pw_bd h (fun S11 r14 h f12 hW13 => ?_)⟩
      conv => whnf
      refine pw_br h (fun _ h => ?_) (fun _ h => ?_)
      · conv => whnf
        exact ⟨Nat.le_of_ble_eq_true rfl, Nat.le_of_ble_eq_true rfl, ⟨_, rfl, by decide⟩, _, fun _ _ h9 => h9, pw_ps h _ hW13⟩
      · conv => whnf
        exact ⟨Nat.le_of_ble_eq_true rfl, Nat.le_of_ble_eq_true rfl, ⟨_, rfl, by decide⟩, _, fun _ _ h9 => h9, pw_ps h _ hW13⟩
theorem dX3_printSign_0 : decode cX3_printSign 0 = .ok (.aload_n 1, 1) := by decide +kernel
theorem dX3_printSign_1 : decode cX3_printSign 1 = .ok (.aload_n 0, 1) := by decide +kernel
theorem dX3_printSign_2 : decode cX3_printSign 2 = .ok (.getfield 21, 3) := by decide +kernel
theorem dX3_printSign_5 : decode cX3_printSign 5 = .ok (.getfield 40, 3) := by decide +kernel
theorem dX3_printSign_8 : decode cX3_printSign 8 = .ok (.invokevirtual 66, 3) := by decide +kernel
theorem dX3_printSign_11 : decode cX3_printSign 11 = .ok (.istore_n 2, 1) := by decide +kernel
theorem dX3_printSign_12 : decode cX3_printSign 12 = .ok (.aload_n 1, 1) := by decide +kernel
theorem dX3_printSign_13 : decode cX3_printSign 13 = .ok (.aload_n 0, 1) := by decide +kernel
theorem dX3_printSign_14 : decode cX3_printSign 14 = .ok (.getfield 21, 3) := by decide +kernel
theorem dX3_printSign_17 : decode cX3_printSign 17 = .ok (.getfield 40, 3) := by decide +kernel
theorem dX3_printSign_20 : decode cX3_printSign 20 = .ok (.invokevirtual 70, 3) := by decide +kernel
theorem dX3_printSign_23 : decode cX3_printSign 23 = .ok (.lookupswitch 64 #[(4, 33), (5, 45), (9, 51)], 33) := by decide +kernel
theorem dX3_printSign_56 : decode cX3_printSign 56 = .ok (.aload_n 0, 1) := by decide +kernel
theorem dX3_printSign_57 : decode cX3_printSign 57 = .ok (.aload_n 0, 1) := by decide +kernel
theorem dX3_printSign_58 : decode cX3_printSign 58 = .ok (.getfield 21, 3) := by decide +kernel
theorem dX3_printSign_61 : decode cX3_printSign 61 = .ok (.invokevirtual 73, 3) := by decide +kernel
theorem dX3_printSign_64 : decode cX3_printSign 64 = .ok (.invokevirtual 77, 3) := by decide +kernel
theorem dX3_printSign_67 : decode cX3_printSign 67 = .ok (.ireturn, 1) := by decide +kernel
theorem dX3_printSign_68 : decode cX3_printSign 68 = .ok (.aload_n 0, 1) := by decide +kernel
theorem dX3_printSign_69 : decode cX3_printSign 69 = .ok (.iload_n 2, 1) := by decide +kernel
theorem dX3_printSign_70 : decode cX3_printSign 70 = .ok (.invokevirtual 77, 3) := by decide +kernel
theorem dX3_printSign_73 : decode cX3_printSign 73 = .ok (.ireturn, 1) := by decide +kernel
theorem dX3_printSign_74 : decode cX3_printSign 74 = .ok (.aload_n 0, 1) := by decide +kernel
theorem dX3_printSign_75 : decode cX3_printSign 75 = .ok (.aload_n 0, 1) := by decide +kernel
theorem dX3_printSign_76 : decode cX3_printSign 76 = .ok (.getfield 21, 3) := by decide +kernel
theorem dX3_printSign_79 : decode cX3_printSign 79 = .ok (.iload_n 2, 1) := by decide +kernel
theorem dX3_printSign_80 : decode cX3_printSign 80 = .ok (.invokevirtual 80, 3) := by decide +kernel
theorem dX3_printSign_83 : decode cX3_printSign 83 = .ok (.invokevirtual 83, 3) := by decide +kernel
theorem dX3_printSign_86 : decode cX3_printSign 86 = .ok (.ireturn, 1) := by decide +kernel
theorem dX3_printSign_87 : decode cX3_printSign 87 = .ok (.iconst 0, 1) := by decide +kernel
theorem dX3_printSign_88 : decode cX3_printSign 88 = .ok (.ireturn, 1) := by decide +kernel
def is_X3_printSign (Rt : np_Rt) : List (Nat × np_Op) := [(0, np_ald 1 1), (1, np_ald 1 0), (2, nw_getf 3 2), (5, nw_getf 8 2), (8, nw_callV 2 2 sp_X2_a 2 0 0 0 0), (11, nw_ist 1 2), (12, np_ald 1 1), (13, np_ald 1 0), (14, nw_getf 3 2), (17, nw_getf 8 2), (20, nw_callV 2 2 sp_X2_kind 2 0 0 0 0), (23, nw_lsw [(4, 56), (5, 68), (9, 74)] 87), (56, np_ald 1 0), (57, np_ald 1 0), (58, nw_getf 3 2), (61, nw_callV 8 1 sp_X8_checkDigit 1 0 0 0 0), (64, nw_callV 3 2 sp_X3_write 2 0 0 0 0), (67, np_ret Rt), (68, np_ald 1 0), (69, np_ild 1 2), (70, nw_callV 3 2 sp_X3_write 2 0 0 0 0), (73, np_ret Rt), (74, np_ald 1 0), (75, np_ald 1 0), (76, nw_getf 3 2), (79, np_ild 1 2), (80, nw_callV 8 2 sp_X8_startOf 2 0 0 0 0), (83, nw_callV 3 2 sp_X3_writePlace 2 0 0 0 0), (86, np_ret Rt), (87, np_push 1 (.int 0)), (88, np_ret Rt)]
set_option maxRecDepth 20000 in
theorem so_X3_printSign {X : np_Ctx} {Rt : np_Rt} (hX : np_ok RX3 cX3_printSign 3 4 83 0 0 .ireturn X) (hR : ∀ st w ce sl, Rt st w ce sl → X.2.2.1 st w ce sl) : ∀ q ∈ is_X3_printSign Rt, np_S X q.1 q.2 :=
  List.forall_mem_cons.mpr ⟨np_s_aload_n hX dX3_printSign_0 rfl, List.forall_mem_cons.mpr ⟨np_s_aload_n hX dX3_printSign_1 rfl, List.forall_mem_cons.mpr ⟨np_S.mono (op := np_getf 3 2) (np_s_getf hX dX3_printSign_2 (C := RX3) (T := TX3) (N := 3) rfl guX3 (by decide) gw184) nw_getf_le, List.forall_mem_cons.mpr ⟨np_S.mono (op := np_getf 8 2) (np_s_getN hX dX3_printSign_5 (C := RX8) (T := TX8) (N := 9) rfl guX8 (by decide) gw151) nw_getf_le, List.forall_mem_cons.mpr ⟨np_S.mono (op := np_callV 2 2 sp_X2_a 2 0 0 0 0) (np_s_callV hX C_X2_a dX3_printSign_8 (q := (RX2, TX2, 5)) rfl rfl gw657 gw64 gw802 gw655 gw656 ⟨by decide, by decide, by decide⟩ (by decide) (by decide)) nw_callV_le, List.forall_mem_cons.mpr ⟨np_S.mono (op := np_ist 1 2) (np_s_istore_n hX dX3_printSign_11 rfl (by decide)) nw_ist_le, List.forall_mem_cons.mpr ⟨np_s_aload_n hX dX3_printSign_12 rfl, List.forall_mem_cons.mpr ⟨np_s_aload_n hX dX3_printSign_13 rfl, List.forall_mem_cons.mpr ⟨np_S.mono (op := np_getf 3 2) (np_s_getf hX dX3_printSign_14 (C := RX3) (T := TX3) (N := 3) rfl guX3 (by decide) gw184) nw_getf_le, List.forall_mem_cons.mpr ⟨np_S.mono (op := np_getf 8 2) (np_s_getN hX dX3_printSign_17 (C := RX8) (T := TX8) (N := 9) rfl guX8 (by decide) gw151) nw_getf_le, List.forall_mem_cons.mpr ⟨np_S.mono (op := np_callV 2 2 sp_X2_kind 2 0 0 0 0) (np_s_callV hX C_X2_kind dX3_printSign_20 (q := (RX2, TX2, 5)) rfl rfl gw650 gw64 gw822 gw648 gw649 ⟨by decide, by decide, by decide⟩ (by decide) (by decide)) nw_callV_le, List.forall_mem_cons.mpr ⟨np_s_lsw hX dX3_printSign_23 (by decide) (by decide) (by decide), List.forall_mem_cons.mpr ⟨np_s_aload_n hX dX3_printSign_56 rfl, List.forall_mem_cons.mpr ⟨np_s_aload_n hX dX3_printSign_57 rfl, List.forall_mem_cons.mpr ⟨np_S.mono (op := np_getf 3 2) (np_s_getf hX dX3_printSign_58 (C := RX3) (T := TX3) (N := 3) rfl guX3 (by decide) gw184) nw_getf_le, List.forall_mem_cons.mpr ⟨np_S.mono (op := np_callV 8 1 sp_X8_checkDigit 1 0 0 0 0) (np_s_callV hX C_X8_checkDigit dX3_printSign_61 (q := (RX8, TX8, 9)) rfl rfl gw875 gw66 gw872 gw873 gw874 ⟨by decide, by decide, by decide⟩ (by decide) (by decide)) nw_callV_le, List.forall_mem_cons.mpr ⟨np_S.mono (op := np_callV 3 2 sp_X3_write 2 0 0 0 0) (np_s_callV hX C_X3_write dX3_printSign_64 (q := (RX3, TX3, 3)) rfl rfl gw836 gw65 gw833 gw835 gw9 ⟨by decide, by decide, by decide⟩ (by decide) (by decide)) nw_callV_le, List.forall_mem_cons.mpr ⟨np_S.mono (op := np_ret X.2.2.1) (np_s_ret hX dX3_printSign_67) (nq_ret_le hR), List.forall_mem_cons.mpr ⟨np_s_aload_n hX dX3_printSign_68 rfl, List.forall_mem_cons.mpr ⟨np_s_iload_n hX dX3_printSign_69 rfl, List.forall_mem_cons.mpr ⟨np_S.mono (op := np_callV 3 2 sp_X3_write 2 0 0 0 0) (np_s_callV hX C_X3_write dX3_printSign_70 (q := (RX3, TX3, 3)) rfl rfl gw836 gw65 gw833 gw835 gw9 ⟨by decide, by decide, by decide⟩ (by decide) (by decide)) nw_callV_le, List.forall_mem_cons.mpr ⟨np_S.mono (op := np_ret X.2.2.1) (np_s_ret hX dX3_printSign_73) (nq_ret_le hR), List.forall_mem_cons.mpr ⟨np_s_aload_n hX dX3_printSign_74 rfl, List.forall_mem_cons.mpr ⟨np_s_aload_n hX dX3_printSign_75 rfl, List.forall_mem_cons.mpr ⟨np_S.mono (op := np_getf 3 2) (np_s_getf hX dX3_printSign_76 (C := RX3) (T := TX3) (N := 3) rfl guX3 (by decide) gw184) nw_getf_le, List.forall_mem_cons.mpr ⟨np_s_iload_n hX dX3_printSign_79 rfl, List.forall_mem_cons.mpr ⟨np_S.mono (op := np_callV 8 2 sp_X8_startOf 2 0 0 0 0) (np_s_callV hX C_X8_startOf dX3_printSign_80 (q := (RX8, TX8, 9)) rfl rfl gw813 gw66 gw876 gw811 gw812 ⟨by decide, by decide, by decide⟩ (by decide) (by decide)) nw_callV_le, List.forall_mem_cons.mpr ⟨np_S.mono (op := np_callV 3 2 sp_X3_writePlace 2 0 0 0 0) (np_s_callV hX C_X3_writePlace dX3_printSign_83 (q := (RX3, TX3, 3)) rfl rfl gw880 gw65 gw877 gw879 gw14 ⟨by decide, by decide, by decide⟩ (by decide) (by decide)) nw_callV_le, List.forall_mem_cons.mpr ⟨np_S.mono (op := np_ret X.2.2.1) (np_s_ret hX dX3_printSign_86) (nq_ret_le hR), List.forall_mem_cons.mpr ⟨np_s_iconst hX dX3_printSign_87 (by decide), List.forall_mem_cons.mpr ⟨np_S.mono (op := np_ret X.2.2.1) (np_s_ret hX dX3_printSign_88) (nq_ret_le hR), fun _ h => nomatch h⟩⟩⟩⟩⟩⟩⟩⟩⟩⟩⟩⟩⟩⟩⟩⟩⟩⟩⟩⟩⟩⟩⟩⟩⟩⟩⟩⟩⟩⟩⟩
noncomputable def m_X3_printSign (S : pw_S) (i0 : Nat) (i1 : Nat) : pw_R Int32 :=
 pw_b (m_X2_a S i1 (S 50 408 2)) fun S1 r4 =>
 pw_l (r4 : Int32) fun z6 =>
 pw_b (m_X2_kind S1 i1 (S1 50 408 2)) fun S7 r10 =>
 if (r10 : Int32).toInt = 4 then
 (pw_b (m_X8_checkDigit S7 408) fun S12 r15 =>
 pw_b (m_X3_write S12 i0 r15) fun S17 r20 =>
 pw_c (decide (r20 = 0) || decide (r20 = 1)) <|
 some (S17, r20))
 else if (r10 : Int32).toInt = 5 then
 (pw_b (m_X3_write S7 i0 z6) fun S23 r26 =>
 pw_c (decide (r26 = 0) || decide (r26 = 1)) <|
 some (S23, r26))
 else if (r10 : Int32).toInt = 9 then
 (pw_b (m_X8_startOf S7 408 z6) fun S29 r32 =>
 pw_b (m_X3_writePlace S29 i0 r32) fun S34 r37 =>
 pw_c (decide (r37 = 0) || decide (r37 = 1)) <|
 some (S34, r37))
 else 
 (some (S7, 0))
def sp_X3_printSign : np_Sp := fun vs w Q => ∃ (q : Nat) (S : pw_S) (i0 : Nat) (i1 : Nat), vs = [.ref (pw_pl 58 i0), .ref (pw_pl 51 i1)] ∧ pw_ok q 58 i0 = true ∧ pw_ok q 51 i1 = true ∧ pw_W q w S ∧ pw_p (m_X3_printSign S i0 i1) (fun S' r => ∀ f', pw_W q (w.1, f') S' → Q (some (.int r)) (w.1, f'))
set_option maxRecDepth 100000 in
set_option maxHeartbeats 8000000 in
theorem C_X3_printSign : np_C yX3_printSign cX3_printSign 3 (some .boolean) 4 83 0 0 sp_X3_printSign := by
  refine np_of (by decide) ?_
  intro X vs w Q hsp hX hmn hRt hlt
  obtain ⟨q, S, i0, i1, rfl, hi0, hi1, hW, h⟩ := hsp
  obtain ⟨n, f⟩ := w
  unfold m_X3_printSign at h
  have hR : ∀ st w ce sl, np_rt (some .boolean) 0 0 Q st w ce sl → X.2.2.1 st w ce sl := fun _ _ _ _ h => by rw [hRt]; exact h
  refine np_soundW (so_X3_printSign hX hR) [] 400 0 _ _ _ _ _ ?_
  conv => whnf
  refine np_rd_i (hW.g hi0) ?_
  conv => whnf
  refine np_rd_i (hW.g rfl) ?_
  conv => whnf
  refine np_rd_i (hW.g hi1) ?_
  conv => whnf
  refine ⟨q, S, i1, (S 50 408 2), rfl, hi1, hW, pw_bd h (fun S1 r4 h f2 hW3 => ?_)⟩
  conv => whnf
  refine pw_st h (fun z6 h => ?_)
  conv => whnf
  refine np_rd_i (hW3.g hi0) ?_
  conv => whnf
  refine np_rd_i (hW3.g rfl) ?_
  conv => whnf
  refine np_rd_i (hW3.g hi1) ?_
  conv => whnf
  refine ⟨q, S1, i1, (S1 50 408 2), rfl, hi1, hW3, pw_bd h (fun S7 r10 h f8 hW9 => ?_)⟩
  conv => whnf
  refine pw_br h (fun _ h => ?_) (fun _ h => ?_)
  · conv => whnf
    refine np_rd_i (hW9.g hi0) ?_
    conv => whnf
    refine np_rd_i (hW9.g rfl) ?_
    conv => whnf
    refine ⟨q, S7, 408, rfl, rfl, hW9, pw_bd h (fun S12 r15 h f13 hW14 => ?_)⟩
    conv => whnf
    refine np_rd_i (hW14.g hi0) ?_
    conv => whnf
    refine ⟨q, S12, i0, r15, rfl, hi0, hW14, pw_bd h (fun S17 r20 h f18 hW19 => ?_)⟩
    conv => whnf
    obtain ⟨hb22, h⟩ := pw_ck1 h
    conv => whnf
    exact ⟨Nat.le_of_ble_eq_true rfl, Nat.le_of_ble_eq_true rfl, ⟨_, rfl, pw_nz hb22⟩, _, fun _ _ h9 => h9, pw_ps h _ hW19⟩
  conv => whnf
  refine pw_br h (fun _ h => ?_) (fun _ h => ?_)
  · conv => whnf
    refine np_rd_i (hW9.g hi0) ?_
    conv => whnf
    refine ⟨q, S7, i0, z6, rfl, hi0, hW9, pw_bd h (fun S23 r26 h f24 hW25 => ?_)⟩
    conv => whnf
    obtain ⟨hb28, h⟩ := pw_ck1 h
    conv => whnf
    exact ⟨Nat.le_of_ble_eq_true rfl, Nat.le_of_ble_eq_true rfl, ⟨_, rfl, pw_nz hb28⟩, _, fun _ _ h9 => h9, pw_ps h _ hW25⟩
  conv => whnf
  refine pw_br h (fun _ h => ?_) (fun _ h => ?_)
  · conv => whnf
    refine np_rd_i (hW9.g hi0) ?_
    conv => whnf
    refine np_rd_i (hW9.g rfl) ?_
    conv => whnf
    refine ⟨q, S7, 408, z6, rfl, rfl, hW9, pw_bd h (fun S29 r32 h f30 hW31 => ?_)⟩
    conv => whnf
    refine np_rd_i (hW31.g hi0) ?_
    conv => whnf
    refine ⟨q, S29, i0, r32, rfl, hi0, hW31, pw_bd h (fun S34 r37 h f35 hW36 => ?_)⟩
    conv => whnf
    obtain ⟨hb39, h⟩ := pw_ck1 h
    conv => whnf
    exact ⟨Nat.le_of_ble_eq_true rfl, Nat.le_of_ble_eq_true rfl, ⟨_, rfl, pw_nz hb39⟩, _, fun _ _ h9 => h9, pw_ps h _ hW36⟩
  conv => whnf
  exact ⟨Nat.le_of_ble_eq_true rfl, Nat.le_of_ble_eq_true rfl, ⟨_, rfl, by decide⟩, _, fun _ _ h9 => h9, pw_ps h _ hW9⟩
theorem dX8_finish_0 : decode cX8_finish 0 = .ok (.aload_n 0, 1) := by decide +kernel
theorem dX8_finish_1 : decode cX8_finish 1 = .ok (.dup, 1) := by decide +kernel
theorem dX8_finish_2 : decode cX8_finish 2 = .ok (.getfield 27, 3) := by decide +kernel
theorem dX8_finish_5 : decode cX8_finish 5 = .ok (.iconst 1, 1) := by decide +kernel
theorem dX8_finish_6 : decode cX8_finish 6 = .ok (.iadd, 1) := by decide +kernel
theorem dX8_finish_7 : decode cX8_finish 7 = .ok (.putfield 27, 3) := by decide +kernel
theorem dX8_finish_10 : decode cX8_finish 10 = .ok (.aload_n 0, 1) := by decide +kernel
theorem dX8_finish_11 : decode cX8_finish 11 = .ok (.getfield 47, 3) := by decide +kernel
theorem dX8_finish_14 : decode cX8_finish 14 = .ok (.ifCond .lt 23, 3) := by decide +kernel
theorem dX8_finish_17 : decode cX8_finish 17 = .ok (.aload_n 0, 1) := by decide +kernel
theorem dX8_finish_18 : decode cX8_finish 18 = .ok (.getfield 27, 3) := by decide +kernel
theorem dX8_finish_21 : decode cX8_finish 21 = .ok (.aload_n 0, 1) := by decide +kernel
theorem dX8_finish_22 : decode cX8_finish 22 = .ok (.getfield 47, 3) := by decide +kernel
theorem dX8_finish_25 : decode cX8_finish 25 = .ok (.aload_n 1, 1) := by decide +kernel
theorem dX8_finish_26 : decode cX8_finish 26 = .ok (.aload_n 0, 1) := by decide +kernel
theorem dX8_finish_27 : decode cX8_finish 27 = .ok (.getfield 47, 3) := by decide +kernel
theorem dX8_finish_30 : decode cX8_finish 30 = .ok (.invokevirtual 85, 3) := by decide +kernel
theorem dX8_finish_33 : decode cX8_finish 33 = .ok (.iadd, 1) := by decide +kernel
theorem dX8_finish_34 : decode cX8_finish 34 = .ok (.if_icmp .gt 4, 3) := by decide +kernel
theorem dX8_finish_37 : decode cX8_finish 37 = .ok (.return_, 1) := by decide +kernel
theorem dX8_finish_38 : decode cX8_finish 38 = .ok (.aload_n 0, 1) := by decide +kernel
theorem dX8_finish_39 : decode cX8_finish 39 = .ok (.getfield 53, 3) := by decide +kernel
theorem dX8_finish_42 : decode cX8_finish 42 = .ok (.iconst 1, 1) := by decide +kernel
theorem dX8_finish_43 : decode cX8_finish 43 = .ok (.iadd, 1) := by decide +kernel
theorem dX8_finish_44 : decode cX8_finish 44 = .ok (.aload_n 0, 1) := by decide +kernel
theorem dX8_finish_45 : decode cX8_finish 45 = .ok (.getfield 50, 3) := by decide +kernel
theorem dX8_finish_48 : decode cX8_finish 48 = .ok (.if_icmp .ge 26, 3) := by decide +kernel
theorem dX8_finish_51 : decode cX8_finish 51 = .ok (.aload_n 0, 1) := by decide +kernel
theorem dX8_finish_52 : decode cX8_finish 52 = .ok (.dup, 1) := by decide +kernel
theorem dX8_finish_53 : decode cX8_finish 53 = .ok (.getfield 53, 3) := by decide +kernel
theorem dX8_finish_56 : decode cX8_finish 56 = .ok (.iconst 1, 1) := by decide +kernel
theorem dX8_finish_57 : decode cX8_finish 57 = .ok (.iadd, 1) := by decide +kernel
theorem dX8_finish_58 : decode cX8_finish 58 = .ok (.putfield 53, 3) := by decide +kernel
theorem dX8_finish_61 : decode cX8_finish 61 = .ok (.aload_n 0, 1) := by decide +kernel
theorem dX8_finish_62 : decode cX8_finish 62 = .ok (.aload_n 0, 1) := by decide +kernel
theorem dX8_finish_63 : decode cX8_finish 63 = .ok (.getfield 47, 3) := by decide +kernel
theorem dX8_finish_66 : decode cX8_finish 66 = .ok (.iconst 1, 1) := by decide +kernel
theorem dX8_finish_67 : decode cX8_finish 67 = .ok (.iadd, 1) := by decide +kernel
theorem dX8_finish_68 : decode cX8_finish 68 = .ok (.putfield 27, 3) := by decide +kernel
theorem dX8_finish_71 : decode cX8_finish 71 = .ok (.goto 7, 3) := by decide +kernel
theorem dX8_finish_74 : decode cX8_finish 74 = .ok (.aload_n 0, 1) := by decide +kernel
theorem dX8_finish_75 : decode cX8_finish 75 = .ok (.invokevirtual 31, 3) := by decide +kernel
theorem dX8_finish_78 : decode cX8_finish 78 = .ok (.return_, 1) := by decide +kernel
def is_X8_finish (Rt : np_Rt) : List (Nat × np_Op) := [(0, np_ald 1 0), (1, nq_dup), (2, nw_getf 8 2), (5, np_push 1 (.int 1)), (6, np_ib (fun x y => x + y)), (7, nw_putf 8 2 (.int)), (10, np_ald 1 0), (11, nw_getf 8 3), (14, nq_if (fun x => x < 0) 37), (17, np_ald 1 0), (18, nw_getf 8 2), (21, np_ald 1 0), (22, nw_getf 8 3), (25, np_ald 1 1), (26, np_ald 1 0), (27, nw_getf 8 3), (30, nw_callV 2 2 sp_X2_b 2 0 0 0 0), (33, np_ib (fun x y => x + y)), (34, nq_ic (fun x y => y < x) 38), (37, np_ret Rt), (38, np_ald 1 0), (39, nw_getf 8 5), (42, np_push 1 (.int 1)), (43, np_ib (fun x y => x + y)), (44, np_ald 1 0), (45, nw_getf 8 4), (48, nq_ic (fun x y => y ≤ x) 74), (51, np_ald 1 0), (52, nq_dup), (53, nw_getf 8 5), (56, np_push 1 (.int 1)), (57, np_ib (fun x y => x + y)), (58, nw_putf 8 5 (.int)), (61, np_ald 1 0), (62, np_ald 1 0), (63, nw_getf 8 3), (66, np_push 1 (.int 1)), (67, np_ib (fun x y => x + y)), (68, nw_putf 8 2 (.int)), (71, np_goto 78), (74, np_ald 1 0), (75, nw_callV 8 1 sp_X8_leaveLoop 1 0 0 0 0), (78, np_ret Rt)]
set_option maxRecDepth 20000 in
theorem so_X8_finish {X : np_Ctx} {Rt : np_Rt} (hX : np_ok RX8 cX8_finish 2 2 43 0 0 .return_ X) (hR : ∀ st w ce sl, Rt st w ce sl → X.2.2.1 st w ce sl) : ∀ q ∈ is_X8_finish Rt, np_S X q.1 q.2 :=
  List.forall_mem_cons.mpr ⟨np_s_aload_n hX dX8_finish_0 rfl, List.forall_mem_cons.mpr ⟨np_S.mono (op := np_dup) (np_s_dup hX dX8_finish_1) nq_dup_le, List.forall_mem_cons.mpr ⟨np_S.mono (op := np_getf 8 2) (np_s_getf hX dX8_finish_2 (C := RX8) (T := TX8) (N := 9) rfl guX8 (by decide) gw149) nw_getf_le, List.forall_mem_cons.mpr ⟨np_s_iconst hX dX8_finish_5 (by decide), List.forall_mem_cons.mpr ⟨np_s_iadd hX dX8_finish_6, List.forall_mem_cons.mpr ⟨np_S.mono (op := np_putf 8 2 (.int)) (np_s_putf hX dX8_finish_7 (C := RX8) (T := TX8) (N := 9) (ty0 := tyX8) rfl guX8 tyX8_ok nmX8 (by decide) gw149 rfl rfl) nw_putf_le, List.forall_mem_cons.mpr ⟨np_s_aload_n hX dX8_finish_10 rfl, List.forall_mem_cons.mpr ⟨np_S.mono (op := np_getf 8 3) (np_s_getf hX dX8_finish_11 (C := RX8) (T := TX8) (N := 9) rfl guX8 (by decide) gw153) nw_getf_le, List.forall_mem_cons.mpr ⟨np_S.mono (op := np_if (fun x => x < 0) 37) (np_s_if_lt hX dX8_finish_14 (by decide)) nq_if_le, List.forall_mem_cons.mpr ⟨np_s_aload_n hX dX8_finish_17 rfl, List.forall_mem_cons.mpr ⟨np_S.mono (op := np_getf 8 2) (np_s_getf hX dX8_finish_18 (C := RX8) (T := TX8) (N := 9) rfl guX8 (by decide) gw149) nw_getf_le, List.forall_mem_cons.mpr ⟨np_s_aload_n hX dX8_finish_21 rfl, List.forall_mem_cons.mpr ⟨np_S.mono (op := np_getf 8 3) (np_s_getf hX dX8_finish_22 (C := RX8) (T := TX8) (N := 9) rfl guX8 (by decide) gw153) nw_getf_le, List.forall_mem_cons.mpr ⟨np_s_aload_n hX dX8_finish_25 rfl, List.forall_mem_cons.mpr ⟨np_s_aload_n hX dX8_finish_26 rfl, List.forall_mem_cons.mpr ⟨np_S.mono (op := np_getf 8 3) (np_s_getf hX dX8_finish_27 (C := RX8) (T := TX8) (N := 9) rfl guX8 (by decide) gw153) nw_getf_le, List.forall_mem_cons.mpr ⟨np_S.mono (op := np_callV 2 2 sp_X2_b 2 0 0 0 0) (np_s_callV hX C_X2_b dX8_finish_30 (q := (RX2, TX2, 5)) rfl rfl gw673 gw64 gw771 gw671 gw672 ⟨by decide, by decide, by decide⟩ (by decide) (by decide)) nw_callV_le, List.forall_mem_cons.mpr ⟨np_s_iadd hX dX8_finish_33, List.forall_mem_cons.mpr ⟨np_S.mono (op := np_ic (fun x y => y < x) 38) (np_s_icmp_gt hX dX8_finish_34 (by decide)) nq_ic_le, List.forall_mem_cons.mpr ⟨np_S.mono (op := np_ret X.2.2.1) (np_s_ret hX dX8_finish_37) (nq_ret_le hR), List.forall_mem_cons.mpr ⟨np_s_aload_n hX dX8_finish_38 rfl, List.forall_mem_cons.mpr ⟨np_S.mono (op := np_getf 8 5) (np_s_getf hX dX8_finish_39 (C := RX8) (T := TX8) (N := 9) rfl guX8 (by decide) gw155) nw_getf_le, List.forall_mem_cons.mpr ⟨np_s_iconst hX dX8_finish_42 (by decide), List.forall_mem_cons.mpr ⟨np_s_iadd hX dX8_finish_43, List.forall_mem_cons.mpr ⟨np_s_aload_n hX dX8_finish_44 rfl, List.forall_mem_cons.mpr ⟨np_S.mono (op := np_getf 8 4) (np_s_getf hX dX8_finish_45 (C := RX8) (T := TX8) (N := 9) rfl guX8 (by decide) gw154) nw_getf_le, List.forall_mem_cons.mpr ⟨np_S.mono (op := np_ic (fun x y => y ≤ x) 74) (np_s_icmp_ge hX dX8_finish_48 (by decide)) nq_ic_le, List.forall_mem_cons.mpr ⟨np_s_aload_n hX dX8_finish_51 rfl, List.forall_mem_cons.mpr ⟨np_S.mono (op := np_dup) (np_s_dup hX dX8_finish_52) nq_dup_le, List.forall_mem_cons.mpr ⟨np_S.mono (op := np_getf 8 5) (np_s_getf hX dX8_finish_53 (C := RX8) (T := TX8) (N := 9) rfl guX8 (by decide) gw155) nw_getf_le, List.forall_mem_cons.mpr ⟨np_s_iconst hX dX8_finish_56 (by decide), List.forall_mem_cons.mpr ⟨np_s_iadd hX dX8_finish_57, List.forall_mem_cons.mpr ⟨np_S.mono (op := np_putf 8 5 (.int)) (np_s_putf hX dX8_finish_58 (C := RX8) (T := TX8) (N := 9) (ty0 := tyX8) rfl guX8 tyX8_ok nmX8 (by decide) gw155 rfl rfl) nw_putf_le, List.forall_mem_cons.mpr ⟨np_s_aload_n hX dX8_finish_61 rfl, List.forall_mem_cons.mpr ⟨np_s_aload_n hX dX8_finish_62 rfl, List.forall_mem_cons.mpr ⟨np_S.mono (op := np_getf 8 3) (np_s_getf hX dX8_finish_63 (C := RX8) (T := TX8) (N := 9) rfl guX8 (by decide) gw153) nw_getf_le, List.forall_mem_cons.mpr ⟨np_s_iconst hX dX8_finish_66 (by decide), List.forall_mem_cons.mpr ⟨np_s_iadd hX dX8_finish_67, List.forall_mem_cons.mpr ⟨np_S.mono (op := np_putf 8 2 (.int)) (np_s_putf hX dX8_finish_68 (C := RX8) (T := TX8) (N := 9) (ty0 := tyX8) rfl guX8 tyX8_ok nmX8 (by decide) gw149 rfl rfl) nw_putf_le, List.forall_mem_cons.mpr ⟨np_s_goto hX dX8_finish_71 (by decide), List.forall_mem_cons.mpr ⟨np_s_aload_n hX dX8_finish_74 rfl, List.forall_mem_cons.mpr ⟨np_S.mono (op := np_callV 8 1 sp_X8_leaveLoop 1 0 0 0 0) (np_s_callV hX C_X8_leaveLoop dX8_finish_75 (q := (RX8, TX8, 9)) rfl rfl gw750 gw66 gw747 gw749 gw5 ⟨by decide, by decide, by decide⟩ (by decide) (by decide)) nw_callV_le, List.forall_mem_cons.mpr ⟨np_S.mono (op := np_ret X.2.2.1) (np_s_ret hX dX8_finish_78) (nq_ret_le hR), fun _ h => nomatch h⟩⟩⟩⟩⟩⟩⟩⟩⟩⟩⟩⟩⟩⟩⟩⟩⟩⟩⟩⟩⟩⟩⟩⟩⟩⟩⟩⟩⟩⟩⟩⟩⟩⟩⟩⟩⟩⟩⟩⟩⟩⟩⟩
noncomputable def m_X8_finish (S : pw_S) (i0 : Nat) (i1 : Nat) : pw_R Unit :=
 pw_l (pw_up S 50 i0 (upd (S 50 i0) 2 ((S 50 i0 2) + 1))) fun S1 =>
 if (S1 50 i0 3) < 0 then
 (some (S1, ()))
 else
 (pw_b (m_X2_b S1 i1 (S1 50 i0 3)) fun S4 r7 =>
 if ((S1 50 i0 3) + r7) < (S1 50 i0 2) then
 (if (S4 50 i0 4) ≤ ((S4 50 i0 5) + 1) then
 (pw_b (m_X8_leaveLoop S4 i0) fun S9 r12 =>
 some (S9, ()))
 else
 (pw_l (pw_up S4 50 i0 (upd (S4 50 i0) 5 ((S4 50 i0 5) + 1))) fun S14 =>
 pw_l (pw_up S14 50 i0 (upd (S14 50 i0) 2 ((S14 50 i0 3) + 1))) fun S17 =>
 some (S17, ())))
 else
 (some (S4, ())))
def sp_X8_finish : np_Sp := fun vs w Q => ∃ (q : Nat) (S : pw_S) (i0 : Nat) (i1 : Nat), vs = [.ref (pw_pl 50 i0), .ref (pw_pl 51 i1)] ∧ pw_ok q 50 i0 = true ∧ pw_ok q 51 i1 = true ∧ pw_W q w S ∧ pw_p (m_X8_finish S i0 i1) (fun S' r => ∀ f', pw_W q (w.1, f') S' → Q none (w.1, f'))
set_option maxRecDepth 100000 in
set_option maxHeartbeats 8000000 in
theorem C_X8_finish : np_C yX8_finish cX8_finish 2 none 2 43 0 0 sp_X8_finish := by
  refine np_of (by decide) ?_
  intro X vs w Q hsp hX hmn hRt hlt
  obtain ⟨q, S, i0, i1, rfl, hi0, hi1, hW, h⟩ := hsp
  obtain ⟨n, f⟩ := w
  unfold m_X8_finish at h
  have hR : ∀ st w ce sl, np_rt none 0 0 Q st w ce sl → X.2.2.1 st w ce sl := fun _ _ _ _ h => by rw [hRt]; exact h
  refine np_soundW (so_X8_finish hX hR) [] 400 0 _ _ _ _ _ ?_
  conv => whnf
  refine np_rd_i (hW.g hi0) ?_
  conv => whnf
  refine np_rd_i (hW.g hi0) ?_
  conv => whnf
  refine pw_wr (a := 50) (i := i0) (d := upd (S 50 i0) 2 ((S 50 i0 2) + 1)) hW hi0 rfl h (fun S1 f2 hW3 h => ?_)
  conv => whnf
  refine np_rd_i (hW3.g hi0) ?_
  conv => whnf
  refine pw_br h (fun _ h => ?_) (fun _ h => ?_)
  · conv => whnf
    exact ⟨Nat.le_of_ble_eq_true rfl, Nat.le_of_ble_eq_true rfl, rfl, _, fun _ _ h9 => h9, pw_ps h _ hW3⟩
  · conv => whnf
    refine np_rd_i (hW3.g hi0) ?_
    conv => whnf
    refine np_rd_i (hW3.g hi0) ?_
    conv => whnf
    refine np_rd_i (hW3.g hi0) ?_
    conv => whnf
    refine np_rd_i (hW3.g hi1) ?_
    conv => whnf
    refine ⟨q, S1, i1, (S1 50 i0 3), rfl, hi1, hW3, pw_bd h (fun S4 r7 h f5 hW6 => ?_)⟩
    conv => whnf
    refine pw_br h (fun _ h => ?_) (fun _ h => ?_)
    · conv => whnf
      refine np_rd_i (hW6.g hi0) ?_
      conv => whnf
      refine np_rd_i (hW6.g hi0) ?_
      conv => whnf
      refine pw_br h (fun _ h => ?_) (fun _ h => ?_)
      · conv => whnf
        refine np_rd_i (hW6.g hi0) ?_
        conv => whnf
        refine ⟨q, S4, i0, rfl, hi0, hW6, pw_bd h (fun S9 r12 h f10 hW11 => ?_)⟩
        conv => whnf
        exact ⟨Nat.le_of_ble_eq_true rfl, Nat.le_of_ble_eq_true rfl, rfl, _, fun _ _ h9 => h9, pw_ps h _ hW11⟩
      · conv => whnf
        refine np_rd_i (hW6.g hi0) ?_
        conv => whnf
        refine np_rd_i (hW6.g hi0) ?_
        conv => whnf
        refine pw_wr (a := 50) (i := i0) (d := upd (S4 50 i0) 5 ((S4 50 i0 5) + 1)) hW6 hi0 rfl h (fun S14 f15 hW16 h => ?_)
        conv => whnf
        refine np_rd_i (hW16.g hi0) ?_
        conv => whnf
        refine np_rd_i (hW16.g hi0) ?_
        conv => whnf
        refine pw_wr (a := 50) (i := i0) (d := upd (S14 50 i0) 2 ((S14 50 i0 3) + 1)) hW16 hi0 rfl h (fun S17 f18 hW19 h => ?_)
        conv => whnf
        exact ⟨Nat.le_of_ble_eq_true rfl, Nat.le_of_ble_eq_true rfl, rfl, _, fun _ _ h9 => h9, pw_ps h _ hW19⟩
    · conv => whnf
      exact ⟨Nat.le_of_ble_eq_true rfl, Nat.le_of_ble_eq_true rfl, rfl, _, fun _ _ h9 => h9, pw_ps h _ hW6⟩
theorem dX3_canPrint_0 : decode cX3_canPrint 0 = .ok (.aload_n 0, 1) := by decide +kernel
theorem dX3_canPrint_1 : decode cX3_canPrint 1 = .ok (.getfield 21, 3) := by decide +kernel
theorem dX3_canPrint_4 : decode cX3_canPrint 4 = .ok (.invokevirtual 33, 3) := by decide +kernel
theorem dX3_canPrint_7 : decode cX3_canPrint 7 = .ok (.iconst 0, 1) := by decide +kernel
theorem dX3_canPrint_8 : decode cX3_canPrint 8 = .ok (.istore_n 3, 1) := by decide +kernel
theorem dX3_canPrint_9 : decode cX3_canPrint 9 = .ok (.iload_n 3, 1) := by decide +kernel
theorem dX3_canPrint_10 : decode cX3_canPrint 10 = .ok (.sipush 200, 3) := by decide +kernel
theorem dX3_canPrint_13 : decode cX3_canPrint 13 = .ok (.if_icmp .ge 90, 3) := by decide +kernel
theorem dX3_canPrint_16 : decode cX3_canPrint 16 = .ok (.aload_n 0, 1) := by decide +kernel
theorem dX3_canPrint_17 : decode cX3_canPrint 17 = .ok (.getfield 21, 3) := by decide +kernel
theorem dX3_canPrint_20 : decode cX3_canPrint 20 = .ok (.aload_n 1, 1) := by decide +kernel
theorem dX3_canPrint_21 : decode cX3_canPrint 21 = .ok (.invokevirtual 36, 3) := by decide +kernel
theorem dX3_canPrint_24 : decode cX3_canPrint 24 = .ok (.ifCond .ne 79, 3) := by decide +kernel
theorem dX3_canPrint_27 : decode cX3_canPrint 27 = .ok (.aload_n 1, 1) := by decide +kernel
theorem dX3_canPrint_28 : decode cX3_canPrint 28 = .ok (.aload_n 0, 1) := by decide +kernel
theorem dX3_canPrint_29 : decode cX3_canPrint 29 = .ok (.getfield 21, 3) := by decide +kernel
theorem dX3_canPrint_32 : decode cX3_canPrint 32 = .ok (.getfield 40, 3) := by decide +kernel
theorem dX3_canPrint_35 : decode cX3_canPrint 35 = .ok (.invokevirtual 43, 3) := by decide +kernel
theorem dX3_canPrint_38 : decode cX3_canPrint 38 = .ok (.ifCond .eq 14, 3) := by decide +kernel
theorem dX3_canPrint_41 : decode cX3_canPrint 41 = .ok (.aload_n 0, 1) := by decide +kernel
theorem dX3_canPrint_42 : decode cX3_canPrint 42 = .ok (.getfield 21, 3) := by decide +kernel
theorem dX3_canPrint_45 : decode cX3_canPrint 45 = .ok (.aload_n 1, 1) := by decide +kernel
theorem dX3_canPrint_46 : decode cX3_canPrint 46 = .ok (.invokevirtual 49, 3) := by decide +kernel
theorem dX3_canPrint_49 : decode cX3_canPrint 49 = .ok (.goto 48, 3) := by decide +kernel
theorem dX3_canPrint_52 : decode cX3_canPrint 52 = .ok (.aload_n 1, 1) := by decide +kernel
theorem dX3_canPrint_53 : decode cX3_canPrint 53 = .ok (.aload_n 0, 1) := by decide +kernel
theorem dX3_canPrint_54 : decode cX3_canPrint 54 = .ok (.getfield 21, 3) := by decide +kernel
theorem dX3_canPrint_57 : decode cX3_canPrint 57 = .ok (.getfield 40, 3) := by decide +kernel
theorem dX3_canPrint_60 : decode cX3_canPrint 60 = .ok (.invokevirtual 53, 3) := by decide +kernel
theorem dX3_canPrint_63 : decode cX3_canPrint 63 = .ok (.ifCond .eq 12, 3) := by decide +kernel
theorem dX3_canPrint_66 : decode cX3_canPrint 66 = .ok (.aload_n 0, 1) := by decide +kernel
theorem dX3_canPrint_67 : decode cX3_canPrint 67 = .ok (.aload_n 1, 1) := by decide +kernel
theorem dX3_canPrint_68 : decode cX3_canPrint 68 = .ok (.aload_n 2, 1) := by decide +kernel
theorem dX3_canPrint_69 : decode cX3_canPrint 69 = .ok (.invokevirtual 56, 3) := by decide +kernel
theorem dX3_canPrint_72 : decode cX3_canPrint 72 = .ok (.goto 8, 3) := by decide +kernel
theorem dX3_canPrint_75 : decode cX3_canPrint 75 = .ok (.aload_n 0, 1) := by decide +kernel
theorem dX3_canPrint_76 : decode cX3_canPrint 76 = .ok (.aload_n 1, 1) := by decide +kernel
theorem dX3_canPrint_77 : decode cX3_canPrint 77 = .ok (.invokevirtual 60, 3) := by decide +kernel
theorem dX3_canPrint_80 : decode cX3_canPrint 80 = .ok (.istore 4, 2) := by decide +kernel
theorem dX3_canPrint_82 : decode cX3_canPrint 82 = .ok (.iload 4, 2) := by decide +kernel
theorem dX3_canPrint_84 : decode cX3_canPrint 84 = .ok (.ifCond .ne 5, 3) := by decide +kernel
theorem dX3_canPrint_87 : decode cX3_canPrint 87 = .ok (.iconst 0, 1) := by decide +kernel
theorem dX3_canPrint_88 : decode cX3_canPrint 88 = .ok (.ireturn, 1) := by decide +kernel
theorem dX3_canPrint_89 : decode cX3_canPrint 89 = .ok (.aload_n 0, 1) := by decide +kernel
theorem dX3_canPrint_90 : decode cX3_canPrint 90 = .ok (.getfield 21, 3) := by decide +kernel
theorem dX3_canPrint_93 : decode cX3_canPrint 93 = .ok (.aload_n 1, 1) := by decide +kernel
theorem dX3_canPrint_94 : decode cX3_canPrint 94 = .ok (.invokevirtual 63, 3) := by decide +kernel
theorem dX3_canPrint_97 : decode cX3_canPrint 97 = .ok (.iinc 3 1, 3) := by decide +kernel
theorem dX3_canPrint_100 : decode cX3_canPrint 100 = .ok (.goto (-91), 3) := by decide +kernel
theorem dX3_canPrint_103 : decode cX3_canPrint 103 = .ok (.aload_n 0, 1) := by decide +kernel
theorem dX3_canPrint_104 : decode cX3_canPrint 104 = .ok (.getfield 21, 3) := by decide +kernel
theorem dX3_canPrint_107 : decode cX3_canPrint 107 = .ok (.aload_n 1, 1) := by decide +kernel
theorem dX3_canPrint_108 : decode cX3_canPrint 108 = .ok (.invokevirtual 36, 3) := by decide +kernel
theorem dX3_canPrint_111 : decode cX3_canPrint 111 = .ok (.ireturn, 1) := by decide +kernel
def is_X3_canPrint (Rt : np_Rt) : List (Nat × np_Op) := [(0, np_ald 1 0), (1, nw_getf 3 2), (4, nw_callV 8 1 sp_X8_restart 1 0 0 0 0), (7, np_push 1 (.int 0)), (8, nw_ist 1 3), (9, np_ild 1 3), (10, np_push 3 (.int 200)), (13, nq_ic (fun x y => y ≤ x) 103), (16, np_ald 1 0), (17, nw_getf 3 2), (20, np_ald 1 1), (21, nw_callV 8 2 sp_X8_isOver 2 0 0 0 0), (24, nq_ifne 103), (27, np_ald 1 1), (28, np_ald 1 0), (29, nw_getf 3 2), (32, nw_getf 8 2), (35, nw_callV 2 2 sp_X2_embraces 2 0 0 0 0), (38, nq_if (fun x => x = 0) 52), (41, np_ald 1 0), (42, nw_getf 3 2), (45, np_ald 1 1), (46, nw_callV 8 2 sp_X8_enter 5 0 0 0 0), (49, np_goto 97), (52, np_ald 1 1), (53, np_ald 1 0), (54, nw_getf 3 2), (57, nw_getf 8 2), (60, nw_callV 2 2 sp_X2_hasSlot 3 0 0 0 0), (63, nq_if (fun x => x = 0) 75), (66, np_ald 1 0), (67, np_ald 1 1), (68, np_ald 1 2), (69, nw_callV 3 3 sp_X3_printSlot 7 0 0 0 0), (72, np_goto 80), (75, np_ald 1 0), (76, np_ald 1 1), (77, nw_callV 3 2 sp_X3_printSign 3 0 0 0 0), (80, nw_ist 2 4), (82, np_ild 2 4), (84, nq_ifne 89), (87, np_push 1 (.int 0)), (88, np_ret Rt), (89, np_ald 1 0), (90, nw_getf 3 2), (93, np_ald 1 1), (94, nw_callV 8 2 sp_X8_finish 2 0 0 0 0), (97, nw_iinc 3 1), (100, np_goto 9), (103, np_ald 1 0), (104, nw_getf 3 2), (107, np_ald 1 1), (108, nw_callV 8 2 sp_X8_isOver 2 0 0 0 0), (111, np_ret Rt)]
set_option maxRecDepth 20000 in
theorem so_X3_canPrint {X : np_Ctx} {Rt : np_Rt} (hX : np_ok RX3 cX3_canPrint 5 5 114 0 0 .ireturn X) (hR : ∀ st w ce sl, Rt st w ce sl → X.2.2.1 st w ce sl) : ∀ q ∈ is_X3_canPrint Rt, np_S X q.1 q.2 :=
  List.forall_mem_cons.mpr ⟨np_s_aload_n hX dX3_canPrint_0 rfl, List.forall_mem_cons.mpr ⟨np_S.mono (op := np_getf 3 2) (np_s_getf hX dX3_canPrint_1 (C := RX3) (T := TX3) (N := 3) rfl guX3 (by decide) gw184) nw_getf_le, List.forall_mem_cons.mpr ⟨np_S.mono (op := np_callV 8 1 sp_X8_restart 1 0 0 0 0) (np_s_callV hX C_X8_restart dX3_canPrint_4 (q := (RX8, TX8, 9)) rfl rfl gw744 gw66 gw793 gw742 gw743 ⟨by decide, by decide, by decide⟩ (by decide) (by decide)) nw_callV_le, List.forall_mem_cons.mpr ⟨np_s_iconst hX dX3_canPrint_7 (by decide), List.forall_mem_cons.mpr ⟨np_S.mono (op := np_ist 1 3) (np_s_istore_n hX dX3_canPrint_8 rfl (by decide)) nw_ist_le, List.forall_mem_cons.mpr ⟨np_s_iload_n hX dX3_canPrint_9 rfl, List.forall_mem_cons.mpr ⟨np_s_sipush hX dX3_canPrint_10 (by decide), List.forall_mem_cons.mpr ⟨np_S.mono (op := np_ic (fun x y => y ≤ x) 103) (np_s_icmp_ge hX dX3_canPrint_13 (by decide)) nq_ic_le, List.forall_mem_cons.mpr ⟨np_s_aload_n hX dX3_canPrint_16 rfl, List.forall_mem_cons.mpr ⟨np_S.mono (op := np_getf 3 2) (np_s_getf hX dX3_canPrint_17 (C := RX3) (T := TX3) (N := 3) rfl guX3 (by decide) gw184) nw_getf_le, List.forall_mem_cons.mpr ⟨np_s_aload_n hX dX3_canPrint_20 rfl, List.forall_mem_cons.mpr ⟨np_S.mono (op := np_callV 8 2 sp_X8_isOver 2 0 0 0 0) (np_s_callV hX C_X8_isOver dX3_canPrint_21 (q := (RX8, TX8, 9)) rfl rfl gw758 gw66 gw794 gw756 gw757 ⟨by decide, by decide, by decide⟩ (by decide) (by decide)) nw_callV_le, List.forall_mem_cons.mpr ⟨np_S.mono (op := np_ifne 103) (np_s_if_ne hX dX3_canPrint_24 (by decide)) nq_ifne_le, List.forall_mem_cons.mpr ⟨np_s_aload_n hX dX3_canPrint_27 rfl, List.forall_mem_cons.mpr ⟨np_s_aload_n hX dX3_canPrint_28 rfl, List.forall_mem_cons.mpr ⟨np_S.mono (op := np_getf 3 2) (np_s_getf hX dX3_canPrint_29 (C := RX3) (T := TX3) (N := 3) rfl guX3 (by decide) gw184) nw_getf_le, List.forall_mem_cons.mpr ⟨np_S.mono (op := np_getf 8 2) (np_s_getN hX dX3_canPrint_32 (C := RX8) (T := TX8) (N := 9) rfl guX8 (by decide) gw151) nw_getf_le, List.forall_mem_cons.mpr ⟨np_S.mono (op := np_callV 2 2 sp_X2_embraces 2 0 0 0 0) (np_s_callV hX C_X2_embraces dX3_canPrint_35 (q := (RX2, TX2, 5)) rfl rfl gw665 gw64 gw795 gw663 gw664 ⟨by decide, by decide, by decide⟩ (by decide) (by decide)) nw_callV_le, List.forall_mem_cons.mpr ⟨np_S.mono (op := np_if (fun x => x = 0) 52) (np_s_if_eq hX dX3_canPrint_38 (by decide)) nq_if_le, List.forall_mem_cons.mpr ⟨np_s_aload_n hX dX3_canPrint_41 rfl, List.forall_mem_cons.mpr ⟨np_S.mono (op := np_getf 3 2) (np_s_getf hX dX3_canPrint_42 (C := RX3) (T := TX3) (N := 3) rfl guX3 (by decide) gw184) nw_getf_le, List.forall_mem_cons.mpr ⟨np_s_aload_n hX dX3_canPrint_45 rfl, List.forall_mem_cons.mpr ⟨np_S.mono (op := np_callV 8 2 sp_X8_enter 5 0 0 0 0) (np_s_callV hX C_X8_enter dX3_canPrint_46 (q := (RX8, TX8, 9)) rfl rfl gw764 gw66 gw796 gw762 gw763 ⟨by decide, by decide, by decide⟩ (by decide) (by decide)) nw_callV_le, List.forall_mem_cons.mpr ⟨np_s_goto hX dX3_canPrint_49 (by decide), List.forall_mem_cons.mpr ⟨np_s_aload_n hX dX3_canPrint_52 rfl, List.forall_mem_cons.mpr ⟨np_s_aload_n hX dX3_canPrint_53 rfl, List.forall_mem_cons.mpr ⟨np_S.mono (op := np_getf 3 2) (np_s_getf hX dX3_canPrint_54 (C := RX3) (T := TX3) (N := 3) rfl guX3 (by decide) gw184) nw_getf_le, List.forall_mem_cons.mpr ⟨np_S.mono (op := np_getf 8 2) (np_s_getN hX dX3_canPrint_57 (C := RX8) (T := TX8) (N := 9) rfl guX8 (by decide) gw151) nw_getf_le, List.forall_mem_cons.mpr ⟨np_S.mono (op := np_callV 2 2 sp_X2_hasSlot 3 0 0 0 0) (np_s_callV hX C_X2_hasSlot dX3_canPrint_60 (q := (RX2, TX2, 5)) rfl rfl gw646 gw64 gw797 gw644 gw645 ⟨by decide, by decide, by decide⟩ (by decide) (by decide)) nw_callV_le, List.forall_mem_cons.mpr ⟨np_S.mono (op := np_if (fun x => x = 0) 75) (np_s_if_eq hX dX3_canPrint_63 (by decide)) nq_if_le, List.forall_mem_cons.mpr ⟨np_s_aload_n hX dX3_canPrint_66 rfl, List.forall_mem_cons.mpr ⟨np_s_aload_n hX dX3_canPrint_67 rfl, List.forall_mem_cons.mpr ⟨np_s_aload_n hX dX3_canPrint_68 rfl, List.forall_mem_cons.mpr ⟨np_S.mono (op := np_callV 3 3 sp_X3_printSlot 7 0 0 0 0) (np_s_callV hX C_X3_printSlot dX3_canPrint_69 (q := (RX3, TX3, 3)) rfl rfl gw801 gw65 gw798 gw800 gw7 ⟨by decide, by decide, by decide⟩ (by decide) (by decide)) nw_callV_le, List.forall_mem_cons.mpr ⟨np_s_goto hX dX3_canPrint_72 (by decide), List.forall_mem_cons.mpr ⟨np_s_aload_n hX dX3_canPrint_75 rfl, List.forall_mem_cons.mpr ⟨np_s_aload_n hX dX3_canPrint_76 rfl, List.forall_mem_cons.mpr ⟨np_S.mono (op := np_callV 3 2 sp_X3_printSign 3 0 0 0 0) (np_s_callV hX C_X3_printSign dX3_canPrint_77 (q := (RX3, TX3, 3)) rfl rfl gw871 gw65 gw868 gw870 gw13 ⟨by decide, by decide, by decide⟩ (by decide) (by decide)) nw_callV_le, List.forall_mem_cons.mpr ⟨np_S.mono (op := np_ist 2 4) (np_s_istore hX dX3_canPrint_80 (by decide)) nw_ist_le, List.forall_mem_cons.mpr ⟨np_s_iload hX dX3_canPrint_82, List.forall_mem_cons.mpr ⟨np_S.mono (op := np_ifne 89) (np_s_if_ne hX dX3_canPrint_84 (by decide)) nq_ifne_le, List.forall_mem_cons.mpr ⟨np_s_iconst hX dX3_canPrint_87 (by decide), List.forall_mem_cons.mpr ⟨np_S.mono (op := np_ret X.2.2.1) (np_s_ret hX dX3_canPrint_88) (nq_ret_le hR), List.forall_mem_cons.mpr ⟨np_s_aload_n hX dX3_canPrint_89 rfl, List.forall_mem_cons.mpr ⟨np_S.mono (op := np_getf 3 2) (np_s_getf hX dX3_canPrint_90 (C := RX3) (T := TX3) (N := 3) rfl guX3 (by decide) gw184) nw_getf_le, List.forall_mem_cons.mpr ⟨np_s_aload_n hX dX3_canPrint_93 rfl, List.forall_mem_cons.mpr ⟨np_S.mono (op := np_callV 8 2 sp_X8_finish 2 0 0 0 0) (np_s_callV hX C_X8_finish dX3_canPrint_94 (q := (RX8, TX8, 9)) rfl rfl gw775 gw66 gw881 gw773 gw774 ⟨by decide, by decide, by decide⟩ (by decide) (by decide)) nw_callV_le, List.forall_mem_cons.mpr ⟨np_S.mono (op := np_iinc 3 1) (np_s_iinc hX dX3_canPrint_97 (by decide)) nw_iinc_le, List.forall_mem_cons.mpr ⟨np_s_goto hX dX3_canPrint_100 (by decide), List.forall_mem_cons.mpr ⟨np_s_aload_n hX dX3_canPrint_103 rfl, List.forall_mem_cons.mpr ⟨np_S.mono (op := np_getf 3 2) (np_s_getf hX dX3_canPrint_104 (C := RX3) (T := TX3) (N := 3) rfl guX3 (by decide) gw184) nw_getf_le, List.forall_mem_cons.mpr ⟨np_s_aload_n hX dX3_canPrint_107 rfl, List.forall_mem_cons.mpr ⟨np_S.mono (op := np_callV 8 2 sp_X8_isOver 2 0 0 0 0) (np_s_callV hX C_X8_isOver dX3_canPrint_108 (q := (RX8, TX8, 9)) rfl rfl gw758 gw66 gw794 gw756 gw757 ⟨by decide, by decide, by decide⟩ (by decide) (by decide)) nw_callV_le, List.forall_mem_cons.mpr ⟨np_S.mono (op := np_ret X.2.2.1) (np_s_ret hX dX3_canPrint_111) (nq_ret_le hR), fun _ h => nomatch h⟩⟩⟩⟩⟩⟩⟩⟩⟩⟩⟩⟩⟩⟩⟩⟩⟩⟩⟩⟩⟩⟩⟩⟩⟩⟩⟩⟩⟩⟩⟩⟩⟩⟩⟩⟩⟩⟩⟩⟩⟩⟩⟩⟩⟩⟩⟩⟩⟩⟩⟩⟩⟩⟩
noncomputable def m_X3_canPrint_9 : Nat → pw_S → Nat → Nat → Nat → Nat → Int32 → pw_R Int32
| 0, _, _, _, _, _, _ => none
| N + 1, S, v0, v1, va2, vi2, v3 =>
 if 200 ≤ v3 then
 (pw_b (m_X8_isOver S 408 v1) fun S1 r4 =>
 pw_c (decide (r4 = 0) || decide (r4 = 1)) <|
 some (S1, r4))
 else
 (pw_b (m_X8_isOver S 408 v1) fun S7 r10 =>
 if r10 = 0 then
 (pw_b (m_X2_embraces S7 v1 (S7 50 408 2)) fun S12 r15 =>
 if r15 = 0 then
 (pw_b (m_X2_hasSlot S12 v1 (S12 50 408 2)) fun S17 r20 =>
 if r20 = 0 then
 (pw_b (m_X3_printSign S17 v0 v1) fun S22 r25 =>
 pw_l (r25 : Int32) fun z27 =>
 if z27 = 0 then
 (some (S22, 0))
 else
 (pw_b (m_X8_finish S22 408 v1) fun S28 r31 =>
 pw_l (v3 + 1 : Int32) fun z33 =>
 m_X3_canPrint_9 N S28 v0 v1 va2 vi2 z33))
 else
 (pw_b (m_X3_printSlot S17 v0 v1 va2 vi2) fun S34 r37 =>
 pw_l (r37 : Int32) fun z39 =>
 if z39 = 0 then
 (some (S34, 0))
 else
 (pw_b (m_X8_finish S34 408 v1) fun S40 r43 =>
 pw_l (v3 + 1 : Int32) fun z45 =>
 m_X3_canPrint_9 N S40 v0 v1 va2 vi2 z45)))
 else
 (pw_b (m_X8_enter S12 408 v1) fun S46 r49 =>
 pw_l (v3 + 1 : Int32) fun z51 =>
 m_X3_canPrint_9 N S46 v0 v1 va2 vi2 z51))
 else
 (pw_b (m_X8_isOver S7 408 v1) fun S52 r55 =>
 pw_c (decide (r55 = 0) || decide (r55 = 1)) <|
 some (S52, r55)))
set_option maxRecDepth 100000 in
set_option maxHeartbeats 8000000 in
theorem L_X3_canPrint_9 {X : np_Ctx} (hX : np_ok RX3 cX3_canPrint 5 5 114 0 0 .ireturn X) {Q : Option Value → np_W → Prop} {q n : Nat} (hR : ∀ st w ce sl, np_rt (some .boolean) 0 0 Q st w ce sl → X.2.2.1 st w ce sl) : ∀ (N : Nat) (S : pw_S) (v0 : Nat) (v1 : Nat) (va2 : Nat) (vi2 : Nat) (v3 : Int32) (f : Nat → Option np_E) (hv0 : pw_ok q 58 v0 = true) (hv1 : pw_ok q 51 v1 = true) (ha2 : pw_arr va2 = true) (hi2 : pw_ok q va2 vi2 = true), pw_W q (n, f) S → pw_p (m_X3_canPrint_9 N S v0 v1 va2 vi2 v3) (fun S' r => ∀ f', pw_W q (n, f') S' → Q (some (.int r)) (n, f')) → np_G X 9 [(0, .ref (pw_pl 58 v0)), (1, .ref (pw_pl 51 v1)), (2, .ref (pw_pl va2 vi2)), (3, .int v3)] [] (n, f) 0 0 := by
  intro N
  induction N with
  | zero =>
    intro S v0 v1 va2 vi2 v3 f hv0 hv1 ha2 hi2 hW h
    exact (pw_pn h).elim
  | succ N ih =>
    intro S v0 v1 va2 vi2 v3 f hv0 hv1 ha2 hi2 hW h
    unfold m_X3_canPrint_9 at h
    refine np_soundW (so_X3_canPrint hX hR) [9] 400 9 _ _ _ _ _ ?_
    conv => whnf
    refine pw_br h (fun _ h => ?_) (fun _ h => ?_)
    · conv => whnf
      refine np_rd_i (hW.g hv0) ?_
      conv => whnf
      refine np_rd_i (hW.g rfl) ?_
      conv => whnf
      refine ⟨q, S, 408, v1, rfl, rfl, hv1, hW, pw_bd h (fun S1 r4 h f2 hW3 => ?_)⟩
      conv => whnf
      obtain ⟨hb6, h⟩ := pw_ck1 h
      conv => whnf
      exact ⟨Nat.le_of_ble_eq_true rfl, Nat.le_of_ble_eq_true rfl, ⟨_, rfl, pw_nz hb6⟩, _, fun _ _ h9 => h9, pw_ps h _ hW3⟩
    · conv => whnf
      refine np_rd_i (hW.g hv0) ?_
      conv => whnf
      refine np_rd_i (hW.g rfl) ?_
      conv => whnf
      refine ⟨q, S, 408, v1, rfl, rfl, hv1, hW, pw_bd h (fun S7 r10 h f8 hW9 => ?_)⟩
      conv => whnf
      refine pw_br h (fun _ h => ?_) (fun _ h => ?_)
      · conv => whnf
        refine np_rd_i (hW9.g hv0) ?_
        conv => whnf
        refine np_rd_i (hW9.g rfl) ?_
        conv => whnf
        refine np_rd_i (hW9.g hv1) ?_
        conv => whnf
        refine ⟨q, S7, v1, (S7 50 408 2), rfl, hv1, hW9, pw_bd h (fun S12 r15 h f13 hW14 => ?_)⟩
        conv => whnf
        refine pw_br h (fun _ h => ?_) (fun _ h => ?_)
        · conv => whnf
          refine np_rd_i (hW14.g hv0) ?_
          conv => whnf
          refine np_rd_i (hW14.g rfl) ?_
          conv => whnf
          refine np_rd_i (hW14.g hv1) ?_
          conv => whnf
          refine ⟨q, S12, v1, (S12 50 408 2), rfl, hv1, hW14, pw_bd h (fun S17 r20 h f18 hW19 => ?_)⟩
          conv => whnf
          refine pw_br h (fun _ h => ?_) (fun _ h => ?_)
          · conv => whnf
            refine np_rd_i (hW19.g hv0) ?_
            conv => whnf
            refine ⟨q, S17, v0, v1, rfl, hv0, hv1, hW19, pw_bd h (fun S22 r25 h f23 hW24 => ?_)⟩
            conv => whnf
            refine pw_st h (fun z27 h => ?_)
            conv => whnf
            refine pw_br h (fun _ h => ?_) (fun _ h => ?_)
            · conv => whnf
              exact ⟨Nat.le_of_ble_eq_true rfl, Nat.le_of_ble_eq_true rfl, ⟨_, rfl, by decide⟩, _, fun _ _ h9 => h9, pw_ps h _ hW24⟩
            · conv => whnf
              refine np_rd_i (hW24.g hv0) ?_
              conv => whnf
              refine np_rd_i (hW24.g rfl) ?_
              conv => whnf
              refine ⟨q, S22, 408, v1, rfl, rfl, hv1, hW24, pw_bd h (fun S28 r31 h f29 hW30 => ?_)⟩
              conv => whnf
              refine pw_st h (fun z33 h => ?_)
              conv => whnf
              exact np_gl (ih S28 v0 v1 va2 vi2 z33 f29 hv0 hv1 ha2 hi2 hW30 h) ⟨rfl, rfl, rfl, rfl, trivial⟩
          · conv => whnf
            refine np_rd_i (hW19.g hv0) ?_
            conv => whnf
            refine ⟨q, S17, v0, v1, va2, vi2, rfl, hv0, hv1, ha2, hi2, hW19, pw_bd h (fun S34 r37 h f35 hW36 => ?_)⟩
            conv => whnf
            refine pw_st h (fun z39 h => ?_)
            conv => whnf
            refine pw_br h (fun _ h => ?_) (fun _ h => ?_)
            · conv => whnf
              exact ⟨Nat.le_of_ble_eq_true rfl, Nat.le_of_ble_eq_true rfl, ⟨_, rfl, by decide⟩, _, fun _ _ h9 => h9, pw_ps h _ hW36⟩
            · conv => whnf
              refine np_rd_i (hW36.g hv0) ?_
              conv => whnf
              refine np_rd_i (hW36.g rfl) ?_
              conv => whnf
              refine ⟨q, S34, 408, v1, rfl, rfl, hv1, hW36, pw_bd h (fun S40 r43 h f41 hW42 => ?_)⟩
              conv => whnf
              refine pw_st h (fun z45 h => ?_)
              conv => whnf
              exact np_gl (ih S40 v0 v1 va2 vi2 z45 f41 hv0 hv1 ha2 hi2 hW42 h) ⟨rfl, rfl, rfl, rfl, trivial⟩
        · conv => whnf
          refine np_rd_i (hW14.g hv0) ?_
          conv => whnf
          refine np_rd_i (hW14.g rfl) ?_
          conv => whnf
          refine ⟨q, S12, 408, v1, rfl, rfl, hv1, hW14, pw_bd h (fun S46 r49 h f47 hW48 => ?_)⟩
          conv => whnf
          refine pw_st h (fun z51 h => ?_)
          conv => whnf
          exact np_gl (ih S46 v0 v1 va2 vi2 z51 f47 hv0 hv1 ha2 hi2 hW48 h) ⟨rfl, rfl, rfl, rfl, trivial⟩
      · conv => whnf
        refine np_rd_i (hW9.g hv0) ?_
        conv => whnf
        refine np_rd_i (hW9.g rfl) ?_
        conv => whnf
        refine ⟨q, S7, 408, v1, rfl, rfl, hv1, hW9, pw_bd h (fun S52 r55 h f53 hW54 => ?_)⟩
        conv => whnf
        obtain ⟨hb57, h⟩ := pw_ck1 h
        conv => whnf
        exact ⟨Nat.le_of_ble_eq_true rfl, Nat.le_of_ble_eq_true rfl, ⟨_, rfl, pw_nz hb57⟩, _, fun _ _ h9 => h9, pw_ps h _ hW54⟩
noncomputable def m_X3_canPrint (S : pw_S) (i0 : Nat) (i1 : Nat) (a2 : Nat) (i2 : Nat) : pw_R Int32 :=
 pw_b (m_X8_restart S 408) fun S58 r61 =>
 pw_l (0 : Int32) fun z63 =>
 m_X3_canPrint_9 (pw_F 20000) S58 i0 i1 a2 i2 z63
def sp_X3_canPrint : np_Sp := fun vs w Q => ∃ (q : Nat) (S : pw_S) (i0 : Nat) (i1 : Nat) (a2 : Nat) (i2 : Nat), vs = [.ref (pw_pl 58 i0), .ref (pw_pl 51 i1), .ref (pw_pl a2 i2)] ∧ pw_ok q 58 i0 = true ∧ pw_ok q 51 i1 = true ∧ pw_arr a2 = true ∧ pw_ok q a2 i2 = true ∧ pw_W q w S ∧ pw_p (m_X3_canPrint S i0 i1 a2 i2) (fun S' r => ∀ f', pw_W q (w.1, f') S' → Q (some (.int r)) (w.1, f'))
set_option maxRecDepth 100000 in
set_option maxHeartbeats 8000000 in
theorem C_X3_canPrint : np_C yX3_canPrint cX3_canPrint 5 (some .boolean) 5 114 0 0 sp_X3_canPrint := by
  refine np_of (by decide) ?_
  intro X vs w Q hsp hX hmn hRt hlt
  obtain ⟨q, S, i0, i1, a2, i2, rfl, hi0, hi1, ha2, hi2, hW, h⟩ := hsp
  obtain ⟨n, f⟩ := w
  unfold m_X3_canPrint at h
  have hR : ∀ st w ce sl, np_rt (some .boolean) 0 0 Q st w ce sl → X.2.2.1 st w ce sl := fun _ _ _ _ h => by rw [hRt]; exact h
  refine np_soundW (so_X3_canPrint hX hR) [9] 400 0 _ _ _ _ _ ?_
  conv => whnf
  refine np_rd_i (hW.g hi0) ?_
  conv => whnf
  refine np_rd_i (hW.g rfl) ?_
  conv => whnf
  refine ⟨q, S, 408, rfl, rfl, hW, pw_bd h (fun S58 r61 h f59 hW60 => ?_)⟩
  conv => whnf
  refine pw_st h (fun z63 h => ?_)
  conv => whnf
  exact np_gl (L_X3_canPrint_9 hX hR (pw_F 20000) S58 i0 i1 a2 i2 z63 f59 hi0 hi1 ha2 hi2 hW60 h) ⟨rfl, rfl, rfl, rfl, trivial⟩
theorem dX4_beginningAt_0 : decode cX4_beginningAt 0 = .ok (.iload_n 1, 1) := by decide +kernel
theorem dX4_beginningAt_1 : decode cX4_beginningAt 1 = .ok (.ifCond .lt 21, 3) := by decide +kernel
theorem dX4_beginningAt_4 : decode cX4_beginningAt 4 = .ok (.iload_n 1, 1) := by decide +kernel
theorem dX4_beginningAt_5 : decode cX4_beginningAt 5 = .ok (.aload_n 0, 1) := by decide +kernel
theorem dX4_beginningAt_6 : decode cX4_beginningAt 6 = .ok (.getfield 11, 3) := by decide +kernel
theorem dX4_beginningAt_9 : decode cX4_beginningAt 9 = .ok (.arraylength, 1) := by decide +kernel
theorem dX4_beginningAt_10 : decode cX4_beginningAt 10 = .ok (.if_icmp .ge 12, 3) := by decide +kernel
theorem dX4_beginningAt_13 : decode cX4_beginningAt 13 = .ok (.aload_n 0, 1) := by decide +kernel
theorem dX4_beginningAt_14 : decode cX4_beginningAt 14 = .ok (.getfield 11, 3) := by decide +kernel
theorem dX4_beginningAt_17 : decode cX4_beginningAt 17 = .ok (.iload_n 1, 1) := by decide +kernel
theorem dX4_beginningAt_18 : decode cX4_beginningAt 18 = .ok (.aaload, 1) := by decide +kernel
theorem dX4_beginningAt_19 : decode cX4_beginningAt 19 = .ok (.goto 4, 3) := by decide +kernel
theorem dX4_beginningAt_22 : decode cX4_beginningAt 22 = .ok (.aconst_null, 1) := by decide +kernel
theorem dX4_beginningAt_23 : decode cX4_beginningAt 23 = .ok (.areturn, 1) := by decide +kernel
def is_X4_beginningAt (Rt : np_Rt) : List (Nat × np_Op) := [(0, np_ild 1 1), (1, nq_if (fun x => x < 0) 22), (4, np_ild 1 1), (5, np_ald 1 0), (6, nw_getf 4 0), (9, nw_alen), (10, nq_ic (fun x y => y ≤ x) 22), (13, np_ald 1 0), (14, nw_getf 4 0), (17, np_ild 1 1), (18, nw_aald "NotationPress$Trace"), (19, np_goto 23), (22, np_push 1 .null), (23, np_ret Rt)]
set_option maxRecDepth 20000 in
theorem so_X4_beginningAt {X : np_Ctx} {Rt : np_Rt} (hX : np_ok RX4 cX4_beginningAt 2 0 0 0 0 .areturn X) (hR : ∀ st w ce sl, Rt st w ce sl → X.2.2.1 st w ce sl) : ∀ q ∈ is_X4_beginningAt Rt, np_S X q.1 q.2 :=
  List.forall_mem_cons.mpr ⟨np_s_iload_n hX dX4_beginningAt_0 rfl, List.forall_mem_cons.mpr ⟨np_S.mono (op := np_if (fun x => x < 0) 22) (np_s_if_lt hX dX4_beginningAt_1 (by decide)) nq_if_le, List.forall_mem_cons.mpr ⟨np_s_iload_n hX dX4_beginningAt_4 rfl, List.forall_mem_cons.mpr ⟨np_s_aload_n hX dX4_beginningAt_5 rfl, List.forall_mem_cons.mpr ⟨np_S.mono (op := np_getf 4 0) (np_s_getf hX dX4_beginningAt_6 (C := RX4) (T := TX4) (N := 11) rfl guX4 (by decide) gw222) nw_getf_le, List.forall_mem_cons.mpr ⟨np_S.mono (op := np_alen) (np_s_alen hX dX4_beginningAt_9) nw_alen_le, List.forall_mem_cons.mpr ⟨np_S.mono (op := np_ic (fun x y => y ≤ x) 22) (np_s_icmp_ge hX dX4_beginningAt_10 (by decide)) nq_ic_le, List.forall_mem_cons.mpr ⟨np_s_aload_n hX dX4_beginningAt_13 rfl, List.forall_mem_cons.mpr ⟨np_S.mono (op := np_getf 4 0) (np_s_getf hX dX4_beginningAt_14 (C := RX4) (T := TX4) (N := 11) rfl guX4 (by decide) gw222) nw_getf_le, List.forall_mem_cons.mpr ⟨np_s_iload_n hX dX4_beginningAt_17 rfl, List.forall_mem_cons.mpr ⟨np_S.mono (op := np_aald "NotationPress$Trace") (np_s_aald hX dX4_beginningAt_18) nw_aald_le, List.forall_mem_cons.mpr ⟨np_s_goto hX dX4_beginningAt_19 (by decide), List.forall_mem_cons.mpr ⟨np_s_null hX dX4_beginningAt_22, List.forall_mem_cons.mpr ⟨np_S.mono (op := np_ret X.2.2.1) (np_s_ret hX dX4_beginningAt_23) (nq_ret_le hR), fun _ h => nomatch h⟩⟩⟩⟩⟩⟩⟩⟩⟩⟩⟩⟩⟩⟩
noncomputable def m_X4_beginningAt (S : pw_S) (i0 : Nat) (x1 : Int32) : pw_R (Option Nat) :=
 if x1 < 0 then
 (some (S, none))
 else
 (if 407 ≤ x1 then
 (some (S, none))
 else
 (pw_c (np_inb x1 407) <|
 some (S, some (pw_dn 407 x1))))
def sp_X4_beginningAt : np_Sp := fun vs w Q => ∃ (q : Nat) (S : pw_S) (i0 : Nat) (x1 : Int32), vs = [.ref (pw_pl 59 i0), .int x1] ∧ pw_ok q 59 i0 = true ∧ pw_W q w S ∧ pw_p (m_X4_beginningAt S i0 x1) (fun S' r => ∀ f', pw_W q (w.1, f') S' → pw_oo q 50 r = true → Q (some (pw_v 50 r)) (w.1, f'))
set_option maxRecDepth 100000 in
set_option maxHeartbeats 8000000 in
theorem C_X4_beginningAt : np_C yX4_beginningAt cX4_beginningAt 2 (some (.object "NotationPress$Trace")) 0 0 0 0 sp_X4_beginningAt := by
  refine np_of (by decide) ?_
  intro X vs w Q hsp hX hmn hRt hlt
  obtain ⟨q, S, i0, x1, rfl, hi0, hW, h⟩ := hsp
  obtain ⟨n, f⟩ := w
  unfold m_X4_beginningAt at h
  have hR : ∀ st w ce sl, np_rt (some (.object "NotationPress$Trace")) 0 0 Q st w ce sl → X.2.2.1 st w ce sl := fun _ _ _ _ h => by rw [hRt]; exact h
  refine np_soundW (so_X4_beginningAt hX hR) [] 400 0 _ _ _ _ _ ?_
  conv => whnf
  refine pw_br h (fun _ h => ?_) (fun _ h => ?_)
  · conv => whnf
    exact ⟨Nat.le_of_ble_eq_true rfl, Nat.le_of_ble_eq_true rfl, Or.inl rfl, _, fun _ _ h9 => h9, pw_ps h _ hW rfl⟩
  · conv => whnf
    refine np_rd_i (hW.g hi0) ?_
    conv => whnf
    refine np_rd_i (hW.g rfl) ?_
    conv => whnf
    refine pw_br h (fun _ h => ?_) (fun _ h => ?_)
    · conv => whnf
      exact ⟨Nat.le_of_ble_eq_true rfl, Nat.le_of_ble_eq_true rfl, Or.inl rfl, _, fun _ _ h9 => h9, pw_ps h _ hW rfl⟩
    · conv => whnf
      refine np_rd_i (hW.g hi0) ?_
      conv => whnf
      refine np_rd_i (hW.g rfl) ?_
      conv => whnf
      refine ⟨rfl, ?_⟩
      conv => whnf
      refine pw_ck h (fun hb1 h => ?_)
      conv => whnf
      exact ⟨Nat.le_of_ble_eq_true rfl, Nat.le_of_ble_eq_true rfl, Or.inr ⟨_, rfl⟩, _, fun _ _ h9 => h9, pw_ps h _ hW (pw_okd (a := 50) (n := 407) rfl rfl rfl)⟩
theorem dX4_begin_0 : decode cX4_begin 0 = .ok (.aload_n 0, 1) := by decide +kernel
theorem dX4_begin_1 : decode cX4_begin 1 = .ok (.aload_n 1, 1) := by decide +kernel
theorem dX4_begin_2 : decode cX4_begin 2 = .ok (.putfield 35, 3) := by decide +kernel
theorem dX4_begin_5 : decode cX4_begin 5 = .ok (.aload_n 0, 1) := by decide +kernel
theorem dX4_begin_6 : decode cX4_begin 6 = .ok (.aload_n 2, 1) := by decide +kernel
theorem dX4_begin_7 : decode cX4_begin 7 = .ok (.putfield 42, 3) := by decide +kernel
theorem dX4_begin_10 : decode cX4_begin 10 = .ok (.aload_n 0, 1) := by decide +kernel
theorem dX4_begin_11 : decode cX4_begin 11 = .ok (.iload_n 3, 1) := by decide +kernel
theorem dX4_begin_12 : decode cX4_begin 12 = .ok (.putfield 46, 3) := by decide +kernel
theorem dX4_begin_15 : decode cX4_begin 15 = .ok (.aload_n 0, 1) := by decide +kernel
theorem dX4_begin_16 : decode cX4_begin 16 = .ok (.iconst 0, 1) := by decide +kernel
theorem dX4_begin_17 : decode cX4_begin 17 = .ok (.putfield 50, 3) := by decide +kernel
theorem dX4_begin_20 : decode cX4_begin 20 = .ok (.aload_n 0, 1) := by decide +kernel
theorem dX4_begin_21 : decode cX4_begin 21 = .ok (.iconst 0, 1) := by decide +kernel
theorem dX4_begin_22 : decode cX4_begin 22 = .ok (.putfield 53, 3) := by decide +kernel
theorem dX4_begin_25 : decode cX4_begin 25 = .ok (.aload_n 0, 1) := by decide +kernel
theorem dX4_begin_26 : decode cX4_begin 26 = .ok (.iconst 0, 1) := by decide +kernel
theorem dX4_begin_27 : decode cX4_begin 27 = .ok (.invokevirtual 57, 3) := by decide +kernel
theorem dX4_begin_30 : decode cX4_begin 30 = .ok (.astore 4, 2) := by decide +kernel
theorem dX4_begin_32 : decode cX4_begin 32 = .ok (.aload 4, 2) := by decide +kernel
theorem dX4_begin_34 : decode cX4_begin 34 = .ok (.ifnull 8, 3) := by decide +kernel
theorem dX4_begin_37 : decode cX4_begin 37 = .ok (.aload 4, 2) := by decide +kernel
theorem dX4_begin_39 : decode cX4_begin 39 = .ok (.invokevirtual 61, 3) := by decide +kernel
theorem dX4_begin_42 : decode cX4_begin 42 = .ok (.aload_n 0, 1) := by decide +kernel
theorem dX4_begin_43 : decode cX4_begin 43 = .ok (.aload 4, 2) := by decide +kernel
theorem dX4_begin_45 : decode cX4_begin 45 = .ok (.ifnonnull 7, 3) := by decide +kernel
theorem dX4_begin_48 : decode cX4_begin 48 = .ok (.iconst 0, 1) := by decide +kernel
theorem dX4_begin_49 : decode cX4_begin 49 = .ok (.goto 4, 3) := by decide +kernel
theorem dX4_begin_52 : decode cX4_begin 52 = .ok (.iconst 1, 1) := by decide +kernel
theorem dX4_begin_53 : decode cX4_begin 53 = .ok (.putfield 64, 3) := by decide +kernel
theorem dX4_begin_56 : decode cX4_begin 56 = .ok (.return_, 1) := by decide +kernel
def is_X4_begin (Rt : np_Rt) : List (Nat × np_Op) := [(0, np_ald 1 0), (1, np_ald 1 1), (2, nw_putf 4 5 (.object "NotationPress$Items")), (5, np_ald 1 0), (6, np_ald 1 2), (7, nw_putf 4 6 (.object "NotationPress$Text")), (10, np_ald 1 0), (11, np_ild 1 3), (12, nw_putf 4 7 (.int)), (15, np_ald 1 0), (16, np_push 1 (.int 0)), (17, nw_putf 4 9 (.int)), (20, np_ald 1 0), (21, np_push 1 (.int 0)), (22, nw_putf 4 10 (.boolean)), (25, np_ald 1 0), (26, np_push 1 (.int 0)), (27, nw_callV 4 2 sp_X4_beginningAt 2 0 0 0 0), (30, np_ast 2 4), (32, np_ald 2 4), (34, np_ifnull 42), (37, np_ald 2 4), (39, nw_callV 8 1 sp_X8_restart 1 0 0 0 0), (42, np_ald 1 0), (43, np_ald 2 4), (45, np_ifnonnull 52), (48, np_push 1 (.int 0)), (49, np_goto 53), (52, np_push 1 (.int 1)), (53, nw_putf 4 8 (.int)), (56, np_ret Rt)]
set_option maxRecDepth 20000 in
theorem so_X4_begin {X : np_Ctx} {Rt : np_Rt} (hX : np_ok RX4 cX4_begin 5 2 42 0 0 .return_ X) (hR : ∀ st w ce sl, Rt st w ce sl → X.2.2.1 st w ce sl) : ∀ q ∈ is_X4_begin Rt, np_S X q.1 q.2 :=
  List.forall_mem_cons.mpr ⟨np_s_aload_n hX dX4_begin_0 rfl, List.forall_mem_cons.mpr ⟨np_s_aload_n hX dX4_begin_1 rfl, List.forall_mem_cons.mpr ⟨np_S.mono (op := np_putf 4 5 (.object "NotationPress$Items")) (np_s_putf hX dX4_begin_2 (C := RX4) (T := TX4) (N := 11) (ty0 := tyX4) rfl guX4 tyX4_ok nmX4 (by decide) gw228 rfl rfl) nw_putf_le, List.forall_mem_cons.mpr ⟨np_s_aload_n hX dX4_begin_5 rfl, List.forall_mem_cons.mpr ⟨np_s_aload_n hX dX4_begin_6 rfl, List.forall_mem_cons.mpr ⟨np_S.mono (op := np_putf 4 6 (.object "NotationPress$Text")) (np_s_putf hX dX4_begin_7 (C := RX4) (T := TX4) (N := 11) (ty0 := tyX4) rfl guX4 tyX4_ok nmX4 (by decide) gw229 rfl rfl) nw_putf_le, List.forall_mem_cons.mpr ⟨np_s_aload_n hX dX4_begin_10 rfl, List.forall_mem_cons.mpr ⟨np_s_iload_n hX dX4_begin_11 rfl, List.forall_mem_cons.mpr ⟨np_S.mono (op := np_putf 4 7 (.int)) (np_s_putf hX dX4_begin_12 (C := RX4) (T := TX4) (N := 11) (ty0 := tyX4) rfl guX4 tyX4_ok nmX4 (by decide) gw230 rfl rfl) nw_putf_le, List.forall_mem_cons.mpr ⟨np_s_aload_n hX dX4_begin_15 rfl, List.forall_mem_cons.mpr ⟨np_s_iconst hX dX4_begin_16 (by decide), List.forall_mem_cons.mpr ⟨np_S.mono (op := np_putf 4 9 (.int)) (np_s_putf hX dX4_begin_17 (C := RX4) (T := TX4) (N := 11) (ty0 := tyX4) rfl guX4 tyX4_ok nmX4 (by decide) gw232 rfl rfl) nw_putf_le, List.forall_mem_cons.mpr ⟨np_s_aload_n hX dX4_begin_20 rfl, List.forall_mem_cons.mpr ⟨np_s_iconst hX dX4_begin_21 (by decide), List.forall_mem_cons.mpr ⟨np_S.mono (op := np_putf 4 10 (.boolean)) (np_s_putf hX dX4_begin_22 (C := RX4) (T := TX4) (N := 11) (ty0 := tyX4) rfl guX4 tyX4_ok nmX4 (by decide) gw233 rfl rfl) nw_putf_le, List.forall_mem_cons.mpr ⟨np_s_aload_n hX dX4_begin_25 rfl, List.forall_mem_cons.mpr ⟨np_s_iconst hX dX4_begin_26 (by decide), List.forall_mem_cons.mpr ⟨np_S.mono (op := np_callV 4 2 sp_X4_beginningAt 2 0 0 0 0) (np_s_callV hX C_X4_beginningAt dX4_begin_27 (q := (RX4, TX4, 11)) rfl rfl gw1006 gw67 gw1003 gw1005 gw19 ⟨by decide, by decide, by decide⟩ (by decide) (by decide)) nw_callV_le, List.forall_mem_cons.mpr ⟨np_s_astore hX dX4_begin_30 (by decide), List.forall_mem_cons.mpr ⟨np_s_aload hX dX4_begin_32, List.forall_mem_cons.mpr ⟨np_s_ifnull hX dX4_begin_34 (by decide), List.forall_mem_cons.mpr ⟨np_s_aload hX dX4_begin_37, List.forall_mem_cons.mpr ⟨np_S.mono (op := np_callV 8 1 sp_X8_restart 1 0 0 0 0) (np_s_callV hX C_X8_restart dX4_begin_39 (q := (RX8, TX8, 9)) rfl rfl gw744 gw66 gw1007 gw742 gw743 ⟨by decide, by decide, by decide⟩ (by decide) (by decide)) nw_callV_le, List.forall_mem_cons.mpr ⟨np_s_aload_n hX dX4_begin_42 rfl, List.forall_mem_cons.mpr ⟨np_s_aload hX dX4_begin_43, List.forall_mem_cons.mpr ⟨np_s_ifnonnull hX dX4_begin_45 (by decide), List.forall_mem_cons.mpr ⟨np_s_iconst hX dX4_begin_48 (by decide), List.forall_mem_cons.mpr ⟨np_s_goto hX dX4_begin_49 (by decide), List.forall_mem_cons.mpr ⟨np_s_iconst hX dX4_begin_52 (by decide), List.forall_mem_cons.mpr ⟨np_S.mono (op := np_putf 4 8 (.int)) (np_s_putf hX dX4_begin_53 (C := RX4) (T := TX4) (N := 11) (ty0 := tyX4) rfl guX4 tyX4_ok nmX4 (by decide) gw231 rfl rfl) nw_putf_le, List.forall_mem_cons.mpr ⟨np_S.mono (op := np_ret X.2.2.1) (np_s_ret hX dX4_begin_56) (nq_ret_le hR), fun _ h => nomatch h⟩⟩⟩⟩⟩⟩⟩⟩⟩⟩⟩⟩⟩⟩⟩⟩⟩⟩⟩⟩⟩⟩⟩⟩⟩⟩⟩⟩⟩⟩⟩
noncomputable def m_X4_begin (S : pw_S) (i0 : Nat) (i1 : Nat) (i2 : Nat) (x3 : Int32) : pw_R Unit :=
 pw_l (pw_up S 59 i0 (upd (S 59 i0) 5 (Int32.ofNat i1))) fun S1 =>
 pw_l (pw_up S1 59 i0 (upd (S1 59 i0) 6 (Int32.ofNat i2))) fun S4 =>
 pw_l (pw_up S4 59 i0 (upd (S4 59 i0) 7 x3)) fun S7 =>
 pw_l (pw_up S7 59 i0 (upd (S7 59 i0) 9 0)) fun S10 =>
 pw_l (pw_up S10 59 i0 (upd (S10 59 i0) 10 0)) fun S13 =>
 pw_b (m_X4_beginningAt S13 i0 0) fun S16 r19 =>
 pw_o r19 (
 (pw_l (pw_up S16 59 i0 (upd (S16 59 i0) 8 0)) fun S22 =>
 some (S22, ()))) (fun j21 =>
 (pw_b (m_X8_restart S16 j21) fun S25 r28 =>
 pw_l (pw_up S25 59 i0 (upd (S25 59 i0) 8 1)) fun S30 =>
 some (S30, ())))
def sp_X4_begin : np_Sp := fun vs w Q => ∃ (q : Nat) (S : pw_S) (i0 : Nat) (i1 : Nat) (i2 : Nat) (x3 : Int32), vs = [.ref (pw_pl 59 i0), .ref (pw_pl 51 i1), .ref (pw_pl 53 i2), .int x3] ∧ pw_ok q 59 i0 = true ∧ pw_ok q 51 i1 = true ∧ pw_ok q 53 i2 = true ∧ pw_W q w S ∧ pw_p (m_X4_begin S i0 i1 i2 x3) (fun S' r => ∀ f', pw_W q (w.1, f') S' → Q none (w.1, f'))
set_option maxRecDepth 100000 in
set_option maxHeartbeats 8000000 in
theorem C_X4_begin : np_C yX4_begin cX4_begin 5 none 2 42 0 0 sp_X4_begin := by
  refine np_of (by decide) ?_
  intro X vs w Q hsp hX hmn hRt hlt
  obtain ⟨q, S, i0, i1, i2, x3, rfl, hi0, hi1, hi2, hW, h⟩ := hsp
  obtain ⟨n, f⟩ := w
  unfold m_X4_begin at h
  have hR : ∀ st w ce sl, np_rt none 0 0 Q st w ce sl → X.2.2.1 st w ce sl := fun _ _ _ _ h => by rw [hRt]; exact h
  refine np_soundW (so_X4_begin hX hR) [] 400 0 _ _ _ _ _ ?_
  conv => whnf
  refine np_rd_i (hW.g hi0) ?_
  conv => whnf
  refine pw_wr (a := 59) (i := i0) (d := upd (S 59 i0) 5 (Int32.ofNat i1)) hW hi0 (congrArg (fun z => (Sum.inr (4, [.ref (pw_pl 41 0), .ref (pw_pl 50 407), .ref (pw_pl 30 0), .ref (pw_pl 31 0), .ref (pw_pl 32 0), z, .ref (pw_pl 53 (pw_dn 3 (S 59 i0 6))), .int (S 59 i0 7), .int (S 59 i0 8), .int (S 59 i0 9), .int (S 59 i0 10)]) : np_E)) (pw_dr_of (q := q) (a := 51) (n := 8) rfl rfl hi1).symm) h (fun S1 f2 hW3 h => ?_)
  conv => whnf
  refine np_rd_i (hW3.g hi0) ?_
  conv => whnf
  refine pw_wr (a := 59) (i := i0) (d := upd (S1 59 i0) 6 (Int32.ofNat i2)) hW3 hi0 (congrArg (fun z => (Sum.inr (4, [.ref (pw_pl 41 0), .ref (pw_pl 50 407), .ref (pw_pl 30 0), .ref (pw_pl 31 0), .ref (pw_pl 32 0), .ref (pw_pl 51 (pw_dn 8 (S1 59 i0 5))), z, .int (S1 59 i0 7), .int (S1 59 i0 8), .int (S1 59 i0 9), .int (S1 59 i0 10)]) : np_E)) (pw_dr_of (q := q) (a := 53) (n := 3) rfl rfl hi2).symm) h (fun S4 f5 hW6 h => ?_)
  conv => whnf
  refine np_rd_i (hW6.g hi0) ?_
  conv => whnf
  refine pw_wr (a := 59) (i := i0) (d := upd (S4 59 i0) 7 x3) hW6 hi0 rfl h (fun S7 f8 hW9 h => ?_)
  conv => whnf
  refine np_rd_i (hW9.g hi0) ?_
  conv => whnf
  refine pw_wr (a := 59) (i := i0) (d := upd (S7 59 i0) 9 0) hW9 hi0 rfl h (fun S10 f11 hW12 h => ?_)
  conv => whnf
  refine np_rd_i (hW12.g hi0) ?_
  conv => whnf
  refine pw_wr (a := 59) (i := i0) (d := upd (S10 59 i0) 10 0) hW12 hi0 rfl h (fun S13 f14 hW15 h => ?_)
  conv => whnf
  refine np_rd_i (hW15.g hi0) ?_
  conv => whnf
  refine ⟨q, S13, i0, 0, rfl, hi0, hW15, pw_bd h (fun S16 r19 h f17 hW18 ho20 => ?_)⟩
  rcases r19 with _ | j21
  · replace h := pw_on h
    conv => whnf
    refine np_rd_i (hW18.g hi0) ?_
    conv => whnf
    refine pw_wr (a := 59) (i := i0) (d := upd (S16 59 i0) 8 0) hW18 hi0 rfl h (fun S22 f23 hW24 h => ?_)
    conv => whnf
    exact ⟨Nat.le_of_ble_eq_true rfl, Nat.le_of_ble_eq_true rfl, rfl, _, fun _ _ h9 => h9, pw_ps h _ hW24⟩
  · replace h := pw_os h
    replace ho20 : pw_ok q 50 j21 = true := ho20
    conv => whnf
    refine np_rd_i (hW18.g ho20) ?_
    conv => whnf
    refine ⟨q, S16, j21, rfl, ho20, hW18, pw_bd h (fun S25 r28 h f26 hW27 => ?_)⟩
    conv => whnf
    refine np_rd_i (hW27.g hi0) ?_
    conv => whnf
    refine pw_wr (a := 59) (i := i0) (d := upd (S25 59 i0) 8 1) hW27 hi0 rfl h (fun S30 f31 hW32 h => ?_)
    conv => whnf
    exact ⟨Nat.le_of_ble_eq_true rfl, Nat.le_of_ble_eq_true rfl, rfl, _, fun _ _ h9 => h9, pw_ps h _ hW32⟩
theorem dX11_copyCells_0 : decode cX11_copyCells 0 = .ok (.iload 4, 2) := by decide +kernel
theorem dX11_copyCells_2 : decode cX11_copyCells 2 = .ok (.ifCond .lt 11, 3) := by decide +kernel
theorem dX11_copyCells_5 : decode cX11_copyCells 5 = .ok (.iload_n 1, 1) := by decide +kernel
theorem dX11_copyCells_6 : decode cX11_copyCells 6 = .ok (.ifCond .lt 7, 3) := by decide +kernel
theorem dX11_copyCells_9 : decode cX11_copyCells 9 = .ok (.iload_n 3, 1) := by decide +kernel
theorem dX11_copyCells_10 : decode cX11_copyCells 10 = .ok (.ifCond .ge 4, 3) := by decide +kernel
theorem dX11_copyCells_13 : decode cX11_copyCells 13 = .ok (.return_, 1) := by decide +kernel
theorem dX11_copyCells_14 : decode cX11_copyCells 14 = .ok (.iload_n 1, 1) := by decide +kernel
theorem dX11_copyCells_15 : decode cX11_copyCells 15 = .ok (.aload_n 0, 1) := by decide +kernel
theorem dX11_copyCells_16 : decode cX11_copyCells 16 = .ok (.arraylength, 1) := by decide +kernel
theorem dX11_copyCells_17 : decode cX11_copyCells 17 = .ok (.iload 4, 2) := by decide +kernel
theorem dX11_copyCells_19 : decode cX11_copyCells 19 = .ok (.isub, 1) := by decide +kernel
theorem dX11_copyCells_20 : decode cX11_copyCells 20 = .ok (.if_icmp .gt 12, 3) := by decide +kernel
theorem dX11_copyCells_23 : decode cX11_copyCells 23 = .ok (.iload_n 3, 1) := by decide +kernel
theorem dX11_copyCells_24 : decode cX11_copyCells 24 = .ok (.aload_n 2, 1) := by decide +kernel
theorem dX11_copyCells_25 : decode cX11_copyCells 25 = .ok (.arraylength, 1) := by decide +kernel
theorem dX11_copyCells_26 : decode cX11_copyCells 26 = .ok (.iload 4, 2) := by decide +kernel
theorem dX11_copyCells_28 : decode cX11_copyCells 28 = .ok (.isub, 1) := by decide +kernel
theorem dX11_copyCells_29 : decode cX11_copyCells 29 = .ok (.if_icmp .le 4, 3) := by decide +kernel
theorem dX11_copyCells_32 : decode cX11_copyCells 32 = .ok (.return_, 1) := by decide +kernel
theorem dX11_copyCells_33 : decode cX11_copyCells 33 = .ok (.aload_n 0, 1) := by decide +kernel
theorem dX11_copyCells_34 : decode cX11_copyCells 34 = .ok (.iload_n 1, 1) := by decide +kernel
theorem dX11_copyCells_35 : decode cX11_copyCells 35 = .ok (.aload_n 2, 1) := by decide +kernel
theorem dX11_copyCells_36 : decode cX11_copyCells 36 = .ok (.iload_n 3, 1) := by decide +kernel
theorem dX11_copyCells_37 : decode cX11_copyCells 37 = .ok (.iload 4, 2) := by decide +kernel
theorem dX11_copyCells_39 : decode cX11_copyCells 39 = .ok (.invokestatic 430, 3) := by decide +kernel
theorem dX11_copyCells_42 : decode cX11_copyCells 42 = .ok (.return_, 1) := by decide +kernel
def is_X11_copyCells (Rt : np_Rt) : List (Nat × np_Op) := [(0, np_ild 2 4), (2, nq_if (fun x => x < 0) 13), (5, np_ild 1 1), (6, nq_if (fun x => x < 0) 13), (9, np_ild 1 3), (10, nq_if (fun x => 0 ≤ x) 14), (13, np_ret Rt), (14, np_ild 1 1), (15, np_ald 1 0), (16, nw_alen), (17, np_ild 2 4), (19, np_ib (fun x y => x - y)), (20, nq_ic (fun x y => y < x) 32), (23, np_ild 1 3), (24, np_ald 1 2), (25, nw_alen), (26, np_ild 2 4), (28, np_ib (fun x y => x - y)), (29, nq_ic (fun x y => x ≤ y) 33), (32, np_ret Rt), (33, np_ald 1 0), (34, np_ild 1 1), (35, np_ald 1 2), (36, np_ild 1 3), (37, np_ild 2 4), (39, nw_copy), (42, np_ret Rt)]
set_option maxRecDepth 20000 in
theorem so_X11_copyCells {X : np_Ctx} {Rt : np_Rt} (hX : np_ok RX11 cX11_copyCells 5 1 60 0 0 .return_ X) (hR : ∀ st w ce sl, Rt st w ce sl → X.2.2.1 st w ce sl) : ∀ q ∈ is_X11_copyCells Rt, np_S X q.1 q.2 :=
  List.forall_mem_cons.mpr ⟨np_s_iload hX dX11_copyCells_0, List.forall_mem_cons.mpr ⟨np_S.mono (op := np_if (fun x => x < 0) 13) (np_s_if_lt hX dX11_copyCells_2 (by decide)) nq_if_le, List.forall_mem_cons.mpr ⟨np_s_iload_n hX dX11_copyCells_5 rfl, List.forall_mem_cons.mpr ⟨np_S.mono (op := np_if (fun x => x < 0) 13) (np_s_if_lt hX dX11_copyCells_6 (by decide)) nq_if_le, List.forall_mem_cons.mpr ⟨np_s_iload_n hX dX11_copyCells_9 rfl, List.forall_mem_cons.mpr ⟨np_S.mono (op := np_if (fun x => 0 ≤ x) 14) (np_s_if_ge hX dX11_copyCells_10 (by decide)) nq_if_le, List.forall_mem_cons.mpr ⟨np_S.mono (op := np_ret X.2.2.1) (np_s_ret hX dX11_copyCells_13) (nq_ret_le hR), List.forall_mem_cons.mpr ⟨np_s_iload_n hX dX11_copyCells_14 rfl, List.forall_mem_cons.mpr ⟨np_s_aload_n hX dX11_copyCells_15 rfl, List.forall_mem_cons.mpr ⟨np_S.mono (op := np_alen) (np_s_alen hX dX11_copyCells_16) nw_alen_le, List.forall_mem_cons.mpr ⟨np_s_iload hX dX11_copyCells_17, List.forall_mem_cons.mpr ⟨np_s_isub hX dX11_copyCells_19, List.forall_mem_cons.mpr ⟨np_S.mono (op := np_ic (fun x y => y < x) 32) (np_s_icmp_gt hX dX11_copyCells_20 (by decide)) nq_ic_le, List.forall_mem_cons.mpr ⟨np_s_iload_n hX dX11_copyCells_23 rfl, List.forall_mem_cons.mpr ⟨np_s_aload_n hX dX11_copyCells_24 rfl, List.forall_mem_cons.mpr ⟨np_S.mono (op := np_alen) (np_s_alen hX dX11_copyCells_25) nw_alen_le, List.forall_mem_cons.mpr ⟨np_s_iload hX dX11_copyCells_26, List.forall_mem_cons.mpr ⟨np_s_isub hX dX11_copyCells_28, List.forall_mem_cons.mpr ⟨np_S.mono (op := np_ic (fun x y => x ≤ y) 33) (np_s_icmp_le hX dX11_copyCells_29 (by decide)) nq_ic_le, List.forall_mem_cons.mpr ⟨np_S.mono (op := np_ret X.2.2.1) (np_s_ret hX dX11_copyCells_32) (nq_ret_le hR), List.forall_mem_cons.mpr ⟨np_s_aload_n hX dX11_copyCells_33 rfl, List.forall_mem_cons.mpr ⟨np_s_iload_n hX dX11_copyCells_34 rfl, List.forall_mem_cons.mpr ⟨np_s_aload_n hX dX11_copyCells_35 rfl, List.forall_mem_cons.mpr ⟨np_s_iload_n hX dX11_copyCells_36 rfl, List.forall_mem_cons.mpr ⟨np_s_iload hX dX11_copyCells_37, List.forall_mem_cons.mpr ⟨np_S.mono (op := np_copy) (np_s_copy hX dX11_copyCells_39 gw894 gw896 gw895 gw81 (by decide) (by decide)) nw_copy_le, List.forall_mem_cons.mpr ⟨np_S.mono (op := np_ret X.2.2.1) (np_s_ret hX dX11_copyCells_42) (nq_ret_le hR), fun _ h => nomatch h⟩⟩⟩⟩⟩⟩⟩⟩⟩⟩⟩⟩⟩⟩⟩⟩⟩⟩⟩⟩⟩⟩⟩⟩⟩⟩⟩
noncomputable def m_X11_copyCells (S : pw_S) (a0 : Nat) (i0 : Nat) (x1 : Int32) (a2 : Nat) (i2 : Nat) (x3 : Int32) (x4 : Int32) : pw_R Unit :=
 if x4 < 0 then
 (some (S, ()))
 else
 (if x1 < 0 then
 (some (S, ()))
 else
 (if 0 ≤ x3 then
 (if ((Int32.ofNat (pw_len a0)) - x4) < x1 then
 (some (S, ()))
 else
 (if x3 ≤ ((Int32.ofNat (pw_len a2)) - x4) then
 (pw_c (!(Nat.beq a0 a2 && Nat.beq i0 i2)) <|
 pw_c (!decide (x1 < 0) && (!decide (x3 < 0) && (!decide (x4 < 0) && (Nat.ble ((x1).toNatClampNeg + (x4).toNatClampNeg) (pw_len a0) && Nat.ble ((x3).toNatClampNeg + (x4).toNatClampNeg) (pw_len a2))))) <|
 pw_l (pw_up S a2 i2 (va_cpy (S a0 i0) (S a2 i2) (x1 : Int32).toNatClampNeg (x3 : Int32).toNatClampNeg (x4 : Int32).toNatClampNeg)) fun S2 =>
 some (S2, ()))
 else
 (some (S, ()))))
 else
 (some (S, ()))))
def sp_X11_copyCells : np_Sp := fun vs w Q => ∃ (q : Nat) (S : pw_S) (a0 : Nat) (i0 : Nat) (x1 : Int32) (a2 : Nat) (i2 : Nat) (x3 : Int32) (x4 : Int32), vs = [.ref (pw_pl a0 i0), .int x1, .ref (pw_pl a2 i2), .int x3, .int x4] ∧ pw_arr a0 = true ∧ pw_ok q a0 i0 = true ∧ pw_arr a2 = true ∧ pw_ok q a2 i2 = true ∧ pw_W q w S ∧ pw_p (m_X11_copyCells S a0 i0 x1 a2 i2 x3 x4) (fun S' r => ∀ f', pw_W q (w.1, f') S' → Q none (w.1, f'))
set_option maxRecDepth 100000 in
set_option maxHeartbeats 8000000 in
theorem C_X11_copyCells : np_C yX11_copyCells cX11_copyCells 5 none 1 60 0 0 sp_X11_copyCells := by
  refine np_of (by decide) ?_
  intro X vs w Q hsp hX hmn hRt hlt
  obtain ⟨q, S, a0, i0, x1, a2, i2, x3, x4, rfl, ha0, hi0, ha2, hi2, hW, h⟩ := hsp
  obtain ⟨n, f⟩ := w
  unfold m_X11_copyCells at h
  have hR : ∀ st w ce sl, np_rt none 0 0 Q st w ce sl → X.2.2.1 st w ce sl := fun _ _ _ _ h => by rw [hRt]; exact h
  refine np_soundW (so_X11_copyCells hX hR) [] 400 0 _ _ _ _ _ ?_
  conv => whnf
  refine pw_br h (fun _ h => ?_) (fun _ h => ?_)
  · conv => whnf
    exact ⟨Nat.le_of_ble_eq_true rfl, Nat.le_of_ble_eq_true rfl, rfl, _, fun _ _ h9 => h9, pw_ps h _ hW⟩
  · conv => whnf
    refine pw_br h (fun _ h => ?_) (fun _ h => ?_)
    · conv => whnf
      exact ⟨Nat.le_of_ble_eq_true rfl, Nat.le_of_ble_eq_true rfl, rfl, _, fun _ _ h9 => h9, pw_ps h _ hW⟩
    · conv => whnf
      refine pw_br h (fun _ h => ?_) (fun _ h => ?_)
      · conv => whnf
        refine np_rd_i (hW.ga ha0 hi0) ?_
        conv => whnf
        refine pw_br h (fun _ h => ?_) (fun _ h => ?_)
        · conv => whnf
          exact ⟨Nat.le_of_ble_eq_true rfl, Nat.le_of_ble_eq_true rfl, rfl, _, fun _ _ h9 => h9, pw_ps h _ hW⟩
        · conv => whnf
          refine np_rd_i (hW.ga ha2 hi2) ?_
          conv => whnf
          refine pw_br h (fun _ h => ?_) (fun _ h => ?_)
          · conv => whnf
            refine np_rd_i (hW.ga ha0 hi0) ?_
            conv => whnf
            refine np_rd_i (hW.ga ha2 hi2) ?_
            conv => whnf
            obtain ⟨hb1, h⟩ := pw_ck1 h
            refine ⟨pw_pl_ne hi0 hi2 hb1, ?_⟩
            conv => whnf
            refine pw_ck h (fun _ h => ?_)
            conv => whnf
            refine pw_wr (a := a2) (i := i2) (d := va_cpy (S a0 i0) (S a2 i2) (x1 : Int32).toNatClampNeg (x3 : Int32).toNatClampNeg (x4 : Int32).toNatClampNeg) hW hi2 (pw_ent_arr ha2).symm h (fun S2 f3 hW4 h => ?_)
            conv => whnf
            exact ⟨Nat.le_of_ble_eq_true rfl, Nat.le_of_ble_eq_true rfl, rfl, _, fun _ _ h9 => h9, pw_ps h _ hW4⟩
          · conv => whnf
            exact ⟨Nat.le_of_ble_eq_true rfl, Nat.le_of_ble_eq_true rfl, rfl, _, fun _ _ h9 => h9, pw_ps h _ hW⟩
      · conv => whnf
        exact ⟨Nat.le_of_ble_eq_true rfl, Nat.le_of_ble_eq_true rfl, rfl, _, fun _ _ h9 => h9, pw_ps h _ hW⟩
theorem dX8_copyFrom_0 : decode cX8_copyFrom 0 = .ok (.aload_n 1, 1) := by decide +kernel
theorem dX8_copyFrom_1 : decode cX8_copyFrom 1 = .ok (.getfield 13, 3) := by decide +kernel
theorem dX8_copyFrom_4 : decode cX8_copyFrom 4 = .ok (.iconst 0, 1) := by decide +kernel
theorem dX8_copyFrom_5 : decode cX8_copyFrom 5 = .ok (.aload_n 0, 1) := by decide +kernel
theorem dX8_copyFrom_6 : decode cX8_copyFrom 6 = .ok (.getfield 13, 3) := by decide +kernel
theorem dX8_copyFrom_9 : decode cX8_copyFrom 9 = .ok (.iconst 0, 1) := by decide +kernel
theorem dX8_copyFrom_10 : decode cX8_copyFrom 10 = .ok (.bipush 24, 2) := by decide +kernel
theorem dX8_copyFrom_12 : decode cX8_copyFrom 12 = .ok (.invokestatic 43, 3) := by decide +kernel
theorem dX8_copyFrom_15 : decode cX8_copyFrom 15 = .ok (.aload_n 1, 1) := by decide +kernel
theorem dX8_copyFrom_16 : decode cX8_copyFrom 16 = .ok (.getfield 19, 3) := by decide +kernel
theorem dX8_copyFrom_19 : decode cX8_copyFrom 19 = .ok (.iconst 0, 1) := by decide +kernel
theorem dX8_copyFrom_20 : decode cX8_copyFrom 20 = .ok (.aload_n 0, 1) := by decide +kernel
theorem dX8_copyFrom_21 : decode cX8_copyFrom 21 = .ok (.getfield 19, 3) := by decide +kernel
theorem dX8_copyFrom_24 : decode cX8_copyFrom 24 = .ok (.iconst 0, 1) := by decide +kernel
theorem dX8_copyFrom_25 : decode cX8_copyFrom 25 = .ok (.bipush 8, 2) := by decide +kernel
theorem dX8_copyFrom_27 : decode cX8_copyFrom 27 = .ok (.invokestatic 43, 3) := by decide +kernel
theorem dX8_copyFrom_30 : decode cX8_copyFrom 30 = .ok (.aload_n 0, 1) := by decide +kernel
theorem dX8_copyFrom_31 : decode cX8_copyFrom 31 = .ok (.aload_n 1, 1) := by decide +kernel
theorem dX8_copyFrom_32 : decode cX8_copyFrom 32 = .ok (.getfield 27, 3) := by decide +kernel
theorem dX8_copyFrom_35 : decode cX8_copyFrom 35 = .ok (.putfield 27, 3) := by decide +kernel
theorem dX8_copyFrom_38 : decode cX8_copyFrom 38 = .ok (.aload_n 0, 1) := by decide +kernel
theorem dX8_copyFrom_39 : decode cX8_copyFrom 39 = .ok (.aload_n 1, 1) := by decide +kernel
theorem dX8_copyFrom_40 : decode cX8_copyFrom 40 = .ok (.getfield 47, 3) := by decide +kernel
theorem dX8_copyFrom_43 : decode cX8_copyFrom 43 = .ok (.putfield 47, 3) := by decide +kernel
theorem dX8_copyFrom_46 : decode cX8_copyFrom 46 = .ok (.aload_n 0, 1) := by decide +kernel
theorem dX8_copyFrom_47 : decode cX8_copyFrom 47 = .ok (.aload_n 1, 1) := by decide +kernel
theorem dX8_copyFrom_48 : decode cX8_copyFrom 48 = .ok (.getfield 50, 3) := by decide +kernel
theorem dX8_copyFrom_51 : decode cX8_copyFrom 51 = .ok (.putfield 50, 3) := by decide +kernel
theorem dX8_copyFrom_54 : decode cX8_copyFrom 54 = .ok (.aload_n 0, 1) := by decide +kernel
theorem dX8_copyFrom_55 : decode cX8_copyFrom 55 = .ok (.aload_n 1, 1) := by decide +kernel
theorem dX8_copyFrom_56 : decode cX8_copyFrom 56 = .ok (.getfield 53, 3) := by decide +kernel
theorem dX8_copyFrom_59 : decode cX8_copyFrom 59 = .ok (.putfield 53, 3) := by decide +kernel
theorem dX8_copyFrom_62 : decode cX8_copyFrom 62 = .ok (.aload_n 0, 1) := by decide +kernel
theorem dX8_copyFrom_63 : decode cX8_copyFrom 63 = .ok (.aload_n 1, 1) := by decide +kernel
theorem dX8_copyFrom_64 : decode cX8_copyFrom 64 = .ok (.getfield 34, 3) := by decide +kernel
theorem dX8_copyFrom_67 : decode cX8_copyFrom 67 = .ok (.putfield 34, 3) := by decide +kernel
theorem dX8_copyFrom_70 : decode cX8_copyFrom 70 = .ok (.aload_n 0, 1) := by decide +kernel
theorem dX8_copyFrom_71 : decode cX8_copyFrom 71 = .ok (.aload_n 1, 1) := by decide +kernel
theorem dX8_copyFrom_72 : decode cX8_copyFrom 72 = .ok (.getfield 37, 3) := by decide +kernel
theorem dX8_copyFrom_75 : decode cX8_copyFrom 75 = .ok (.putfield 37, 3) := by decide +kernel
theorem dX8_copyFrom_78 : decode cX8_copyFrom 78 = .ok (.aload_n 0, 1) := by decide +kernel
theorem dX8_copyFrom_79 : decode cX8_copyFrom 79 = .ok (.aload_n 1, 1) := by decide +kernel
theorem dX8_copyFrom_80 : decode cX8_copyFrom 80 = .ok (.getfield 40, 3) := by decide +kernel
theorem dX8_copyFrom_83 : decode cX8_copyFrom 83 = .ok (.putfield 40, 3) := by decide +kernel
theorem dX8_copyFrom_86 : decode cX8_copyFrom 86 = .ok (.return_, 1) := by decide +kernel
def is_X8_copyFrom (Rt : np_Rt) : List (Nat × np_Op) := [(0, np_ald 1 1), (1, nw_getf 8 0), (4, np_push 1 (.int 0)), (5, np_ald 1 0), (6, nw_getf 8 0), (9, np_push 1 (.int 0)), (10, np_push 2 (.int 24)), (12, nq_call 5 sp_X11_copyCells 5 0 0 0 0), (15, np_ald 1 1), (16, nw_getf 8 1), (19, np_push 1 (.int 0)), (20, np_ald 1 0), (21, nw_getf 8 1), (24, np_push 1 (.int 0)), (25, np_push 2 (.int 8)), (27, nq_call 5 sp_X11_copyCells 5 0 0 0 0), (30, np_ald 1 0), (31, np_ald 1 1), (32, nw_getf 8 2), (35, nw_putf 8 2 (.int)), (38, np_ald 1 0), (39, np_ald 1 1), (40, nw_getf 8 3), (43, nw_putf 8 3 (.int)), (46, np_ald 1 0), (47, np_ald 1 1), (48, nw_getf 8 4), (51, nw_putf 8 4 (.int)), (54, np_ald 1 0), (55, np_ald 1 1), (56, nw_getf 8 5), (59, nw_putf 8 5 (.int)), (62, np_ald 1 0), (63, np_ald 1 1), (64, nw_getf 8 6), (67, nw_putf 8 6 (.int)), (70, np_ald 1 0), (71, np_ald 1 1), (72, nw_getf 8 7), (75, nw_putf 8 7 (.int)), (78, np_ald 1 0), (79, np_ald 1 1), (80, nw_getf 8 8), (83, nw_putf 8 8 (.int)), (86, np_ret Rt)]
set_option maxRecDepth 20000 in
theorem so_X8_copyFrom {X : np_Ctx} {Rt : np_Rt} (hX : np_ok RX8 cX8_copyFrom 2 2 84 0 0 .return_ X) (hR : ∀ st w ce sl, Rt st w ce sl → X.2.2.1 st w ce sl) : ∀ q ∈ is_X8_copyFrom Rt, np_S X q.1 q.2 :=
  List.forall_mem_cons.mpr ⟨np_s_aload_n hX dX8_copyFrom_0 rfl, List.forall_mem_cons.mpr ⟨np_S.mono (op := np_getf 8 0) (np_s_getf hX dX8_copyFrom_1 (C := RX8) (T := TX8) (N := 9) rfl guX8 (by decide) gw145) nw_getf_le, List.forall_mem_cons.mpr ⟨np_s_iconst hX dX8_copyFrom_4 (by decide), List.forall_mem_cons.mpr ⟨np_s_aload_n hX dX8_copyFrom_5 rfl, List.forall_mem_cons.mpr ⟨np_S.mono (op := np_getf 8 0) (np_s_getf hX dX8_copyFrom_6 (C := RX8) (T := TX8) (N := 9) rfl guX8 (by decide) gw145) nw_getf_le, List.forall_mem_cons.mpr ⟨np_s_iconst hX dX8_copyFrom_9 (by decide), List.forall_mem_cons.mpr ⟨np_s_bipush hX dX8_copyFrom_10 (by decide), List.forall_mem_cons.mpr ⟨np_S.mono (op := np_call 5 sp_X11_copyCells 5 0 0 0 0) (np_s_callSN hX C_X11_copyCells dX8_copyFrom_12 gw893 gw63 gw891 gw892 ⟨by decide, by decide, by decide⟩ (by decide) (by decide)) nq_call_le, List.forall_mem_cons.mpr ⟨np_s_aload_n hX dX8_copyFrom_15 rfl, List.forall_mem_cons.mpr ⟨np_S.mono (op := np_getf 8 1) (np_s_getf hX dX8_copyFrom_16 (C := RX8) (T := TX8) (N := 9) rfl guX8 (by decide) gw148) nw_getf_le, List.forall_mem_cons.mpr ⟨np_s_iconst hX dX8_copyFrom_19 (by decide), List.forall_mem_cons.mpr ⟨np_s_aload_n hX dX8_copyFrom_20 rfl, List.forall_mem_cons.mpr ⟨np_S.mono (op := np_getf 8 1) (np_s_getf hX dX8_copyFrom_21 (C := RX8) (T := TX8) (N := 9) rfl guX8 (by decide) gw148) nw_getf_le, List.forall_mem_cons.mpr ⟨np_s_iconst hX dX8_copyFrom_24 (by decide), List.forall_mem_cons.mpr ⟨np_s_bipush hX dX8_copyFrom_25 (by decide), List.forall_mem_cons.mpr ⟨np_S.mono (op := np_call 5 sp_X11_copyCells 5 0 0 0 0) (np_s_callSN hX C_X11_copyCells dX8_copyFrom_27 gw893 gw63 gw891 gw892 ⟨by decide, by decide, by decide⟩ (by decide) (by decide)) nq_call_le, List.forall_mem_cons.mpr ⟨np_s_aload_n hX dX8_copyFrom_30 rfl, List.forall_mem_cons.mpr ⟨np_s_aload_n hX dX8_copyFrom_31 rfl, List.forall_mem_cons.mpr ⟨np_S.mono (op := np_getf 8 2) (np_s_getf hX dX8_copyFrom_32 (C := RX8) (T := TX8) (N := 9) rfl guX8 (by decide) gw149) nw_getf_le, List.forall_mem_cons.mpr ⟨np_S.mono (op := np_putf 8 2 (.int)) (np_s_putf hX dX8_copyFrom_35 (C := RX8) (T := TX8) (N := 9) (ty0 := tyX8) rfl guX8 tyX8_ok nmX8 (by decide) gw149 rfl rfl) nw_putf_le, List.forall_mem_cons.mpr ⟨np_s_aload_n hX dX8_copyFrom_38 rfl, List.forall_mem_cons.mpr ⟨np_s_aload_n hX dX8_copyFrom_39 rfl, List.forall_mem_cons.mpr ⟨np_S.mono (op := np_getf 8 3) (np_s_getf hX dX8_copyFrom_40 (C := RX8) (T := TX8) (N := 9) rfl guX8 (by decide) gw153) nw_getf_le, List.forall_mem_cons.mpr ⟨np_S.mono (op := np_putf 8 3 (.int)) (np_s_putf hX dX8_copyFrom_43 (C := RX8) (T := TX8) (N := 9) (ty0 := tyX8) rfl guX8 tyX8_ok nmX8 (by decide) gw153 rfl rfl) nw_putf_le, List.forall_mem_cons.mpr ⟨np_s_aload_n hX dX8_copyFrom_46 rfl, List.forall_mem_cons.mpr ⟨np_s_aload_n hX dX8_copyFrom_47 rfl, List.forall_mem_cons.mpr ⟨np_S.mono (op := np_getf 8 4) (np_s_getf hX dX8_copyFrom_48 (C := RX8) (T := TX8) (N := 9) rfl guX8 (by decide) gw154) nw_getf_le, List.forall_mem_cons.mpr ⟨np_S.mono (op := np_putf 8 4 (.int)) (np_s_putf hX dX8_copyFrom_51 (C := RX8) (T := TX8) (N := 9) (ty0 := tyX8) rfl guX8 tyX8_ok nmX8 (by decide) gw154 rfl rfl) nw_putf_le, List.forall_mem_cons.mpr ⟨np_s_aload_n hX dX8_copyFrom_54 rfl, List.forall_mem_cons.mpr ⟨np_s_aload_n hX dX8_copyFrom_55 rfl, List.forall_mem_cons.mpr ⟨np_S.mono (op := np_getf 8 5) (np_s_getf hX dX8_copyFrom_56 (C := RX8) (T := TX8) (N := 9) rfl guX8 (by decide) gw155) nw_getf_le, List.forall_mem_cons.mpr ⟨np_S.mono (op := np_putf 8 5 (.int)) (np_s_putf hX dX8_copyFrom_59 (C := RX8) (T := TX8) (N := 9) (ty0 := tyX8) rfl guX8 tyX8_ok nmX8 (by decide) gw155 rfl rfl) nw_putf_le, List.forall_mem_cons.mpr ⟨np_s_aload_n hX dX8_copyFrom_62 rfl, List.forall_mem_cons.mpr ⟨np_s_aload_n hX dX8_copyFrom_63 rfl, List.forall_mem_cons.mpr ⟨np_S.mono (op := np_getf 8 6) (np_s_getf hX dX8_copyFrom_64 (C := RX8) (T := TX8) (N := 9) rfl guX8 (by decide) gw158) nw_getf_le, List.forall_mem_cons.mpr ⟨np_S.mono (op := np_putf 8 6 (.int)) (np_s_putf hX dX8_copyFrom_67 (C := RX8) (T := TX8) (N := 9) (ty0 := tyX8) rfl guX8 tyX8_ok nmX8 (by decide) gw158 rfl rfl) nw_putf_le, List.forall_mem_cons.mpr ⟨np_s_aload_n hX dX8_copyFrom_70 rfl, List.forall_mem_cons.mpr ⟨np_s_aload_n hX dX8_copyFrom_71 rfl, List.forall_mem_cons.mpr ⟨np_S.mono (op := np_getf 8 7) (np_s_getf hX dX8_copyFrom_72 (C := RX8) (T := TX8) (N := 9) rfl guX8 (by decide) gw161) nw_getf_le, List.forall_mem_cons.mpr ⟨np_S.mono (op := np_putf 8 7 (.int)) (np_s_putf hX dX8_copyFrom_75 (C := RX8) (T := TX8) (N := 9) (ty0 := tyX8) rfl guX8 tyX8_ok nmX8 (by decide) gw161 rfl rfl) nw_putf_le, List.forall_mem_cons.mpr ⟨np_s_aload_n hX dX8_copyFrom_78 rfl, List.forall_mem_cons.mpr ⟨np_s_aload_n hX dX8_copyFrom_79 rfl, List.forall_mem_cons.mpr ⟨np_S.mono (op := np_getf 8 8) (np_s_getf hX dX8_copyFrom_80 (C := RX8) (T := TX8) (N := 9) rfl guX8 (by decide) gw162) nw_getf_le, List.forall_mem_cons.mpr ⟨np_S.mono (op := np_putf 8 8 (.int)) (np_s_putf hX dX8_copyFrom_83 (C := RX8) (T := TX8) (N := 9) (ty0 := tyX8) rfl guX8 tyX8_ok nmX8 (by decide) gw162 rfl rfl) nw_putf_le, List.forall_mem_cons.mpr ⟨np_S.mono (op := np_ret X.2.2.1) (np_s_ret hX dX8_copyFrom_86) (nq_ret_le hR), fun _ h => nomatch h⟩⟩⟩⟩⟩⟩⟩⟩⟩⟩⟩⟩⟩⟩⟩⟩⟩⟩⟩⟩⟩⟩⟩⟩⟩⟩⟩⟩⟩⟩⟩⟩⟩⟩⟩⟩⟩⟩⟩⟩⟩⟩⟩⟩⟩
noncomputable def m_X8_copyFrom (S : pw_S) (i0 : Nat) (i1 : Nat) : pw_R Unit :=
 pw_b (m_X11_copyCells S 0 i1 0 0 i0 0 24) fun S1 r4 =>
 pw_b (m_X11_copyCells S1 1 i1 0 1 i0 0 8) fun S6 r9 =>
 pw_l (pw_up S6 50 i0 (upd (S6 50 i0) 2 (S6 50 i1 2))) fun S11 =>
 pw_l (pw_up S11 50 i0 (upd (S11 50 i0) 3 (S11 50 i1 3))) fun S14 =>
 pw_l (pw_up S14 50 i0 (upd (S14 50 i0) 4 (S14 50 i1 4))) fun S17 =>
 pw_l (pw_up S17 50 i0 (upd (S17 50 i0) 5 (S17 50 i1 5))) fun S20 =>
 pw_l (pw_up S20 50 i0 (upd (S20 50 i0) 6 (S20 50 i1 6))) fun S23 =>
 pw_l (pw_up S23 50 i0 (upd (S23 50 i0) 7 (S23 50 i1 7))) fun S26 =>
 pw_l (pw_up S26 50 i0 (upd (S26 50 i0) 8 (S26 50 i1 8))) fun S29 =>
 some (S29, ())
def sp_X8_copyFrom : np_Sp := fun vs w Q => ∃ (q : Nat) (S : pw_S) (i0 : Nat) (i1 : Nat), vs = [.ref (pw_pl 50 i0), .ref (pw_pl 50 i1)] ∧ pw_ok q 50 i0 = true ∧ pw_ok q 50 i1 = true ∧ pw_W q w S ∧ pw_p (m_X8_copyFrom S i0 i1) (fun S' r => ∀ f', pw_W q (w.1, f') S' → Q none (w.1, f'))
set_option maxRecDepth 100000 in
set_option maxHeartbeats 8000000 in
theorem C_X8_copyFrom : np_C yX8_copyFrom cX8_copyFrom 2 none 2 84 0 0 sp_X8_copyFrom := by
  refine np_of (by decide) ?_
  intro X vs w Q hsp hX hmn hRt hlt
  obtain ⟨q, S, i0, i1, rfl, hi0, hi1, hW, h⟩ := hsp
  obtain ⟨n, f⟩ := w
  unfold m_X8_copyFrom at h
  have hR : ∀ st w ce sl, np_rt none 0 0 Q st w ce sl → X.2.2.1 st w ce sl := fun _ _ _ _ h => by rw [hRt]; exact h
  refine np_soundW (so_X8_copyFrom hX hR) [] 400 0 _ _ _ _ _ ?_
  conv => whnf
  refine np_rd_i (hW.g hi1) ?_
  conv => whnf
  refine np_rd_i (hW.g hi0) ?_
  conv => whnf
  refine ⟨q, S, 0, i1, 0, 0, i0, 0, 24, rfl, rfl, hi1, rfl, hi0, hW, pw_bd h (fun S1 r4 h f2 hW3 => ?_)⟩
  conv => whnf
  refine np_rd_i (hW3.g hi1) ?_
  conv => whnf
  refine np_rd_i (hW3.g hi0) ?_
  conv => whnf
  refine ⟨q, S1, 1, i1, 0, 1, i0, 0, 8, rfl, rfl, hi1, rfl, hi0, hW3, pw_bd h (fun S6 r9 h f7 hW8 => ?_)⟩
  conv => whnf
  refine np_rd_i (hW8.g hi1) ?_
  conv => whnf
  refine np_rd_i (hW8.g hi0) ?_
  conv => whnf
  refine pw_wr (a := 50) (i := i0) (d := upd (S6 50 i0) 2 (S6 50 i1 2)) hW8 hi0 rfl h (fun S11 f12 hW13 h => ?_)
  conv => whnf
  refine np_rd_i (hW13.g hi1) ?_
  conv => whnf
  refine np_rd_i (hW13.g hi0) ?_
  conv => whnf
  refine pw_wr (a := 50) (i := i0) (d := upd (S11 50 i0) 3 (S11 50 i1 3)) hW13 hi0 rfl h (fun S14 f15 hW16 h => ?_)
  conv => whnf
  refine np_rd_i (hW16.g hi1) ?_
  conv => whnf
  refine np_rd_i (hW16.g hi0) ?_
  conv => whnf
  refine pw_wr (a := 50) (i := i0) (d := upd (S14 50 i0) 4 (S14 50 i1 4)) hW16 hi0 rfl h (fun S17 f18 hW19 h => ?_)
  conv => whnf
  refine np_rd_i (hW19.g hi1) ?_
  conv => whnf
  refine np_rd_i (hW19.g hi0) ?_
  conv => whnf
  refine pw_wr (a := 50) (i := i0) (d := upd (S17 50 i0) 5 (S17 50 i1 5)) hW19 hi0 rfl h (fun S20 f21 hW22 h => ?_)
  conv => whnf
  refine np_rd_i (hW22.g hi1) ?_
  conv => whnf
  refine np_rd_i (hW22.g hi0) ?_
  conv => whnf
  refine pw_wr (a := 50) (i := i0) (d := upd (S20 50 i0) 6 (S20 50 i1 6)) hW22 hi0 rfl h (fun S23 f24 hW25 h => ?_)
  conv => whnf
  refine np_rd_i (hW25.g hi1) ?_
  conv => whnf
  refine np_rd_i (hW25.g hi0) ?_
  conv => whnf
  refine pw_wr (a := 50) (i := i0) (d := upd (S23 50 i0) 7 (S23 50 i1 7)) hW25 hi0 rfl h (fun S26 f27 hW28 h => ?_)
  conv => whnf
  refine np_rd_i (hW28.g hi1) ?_
  conv => whnf
  refine np_rd_i (hW28.g hi0) ?_
  conv => whnf
  refine pw_wr (a := 50) (i := i0) (d := upd (S26 50 i0) 8 (S26 50 i1 8)) hW28 hi0 rfl h (fun S29 f30 hW31 h => ?_)
  conv => whnf
  exact ⟨Nat.le_of_ble_eq_true rfl, Nat.le_of_ble_eq_true rfl, rfl, _, fun _ _ h9 => h9, pw_ps h _ hW31⟩
theorem dX7_unitAt_0 : decode cX7_unitAt 0 = .ok (.iload_n 1, 1) := by decide +kernel
theorem dX7_unitAt_1 : decode cX7_unitAt 1 = .ok (.ifCond .lt 29, 3) := by decide +kernel
theorem dX7_unitAt_4 : decode cX7_unitAt 4 = .ok (.iload_n 1, 1) := by decide +kernel
theorem dX7_unitAt_5 : decode cX7_unitAt 5 = .ok (.aload_n 0, 1) := by decide +kernel
theorem dX7_unitAt_6 : decode cX7_unitAt 6 = .ok (.getfield 19, 3) := by decide +kernel
theorem dX7_unitAt_9 : decode cX7_unitAt 9 = .ok (.if_icmp .ge 21, 3) := by decide +kernel
theorem dX7_unitAt_12 : decode cX7_unitAt 12 = .ok (.iload_n 1, 1) := by decide +kernel
theorem dX7_unitAt_13 : decode cX7_unitAt 13 = .ok (.aload_n 0, 1) := by decide +kernel
theorem dX7_unitAt_14 : decode cX7_unitAt 14 = .ok (.getfield 9, 3) := by decide +kernel
theorem dX7_unitAt_17 : decode cX7_unitAt 17 = .ok (.arraylength, 1) := by decide +kernel
theorem dX7_unitAt_18 : decode cX7_unitAt 18 = .ok (.if_icmp .ge 12, 3) := by decide +kernel
theorem dX7_unitAt_21 : decode cX7_unitAt 21 = .ok (.aload_n 0, 1) := by decide +kernel
theorem dX7_unitAt_22 : decode cX7_unitAt 22 = .ok (.getfield 9, 3) := by decide +kernel
theorem dX7_unitAt_25 : decode cX7_unitAt 25 = .ok (.iload_n 1, 1) := by decide +kernel
theorem dX7_unitAt_26 : decode cX7_unitAt 26 = .ok (.caload, 1) := by decide +kernel
theorem dX7_unitAt_27 : decode cX7_unitAt 27 = .ok (.goto 4, 3) := by decide +kernel
theorem dX7_unitAt_30 : decode cX7_unitAt 30 = .ok (.iconst (-1), 1) := by decide +kernel
theorem dX7_unitAt_31 : decode cX7_unitAt 31 = .ok (.ireturn, 1) := by decide +kernel
def is_X7_unitAt (Rt : np_Rt) : List (Nat × np_Op) := [(0, np_ild 1 1), (1, nq_if (fun x => x < 0) 30), (4, np_ild 1 1), (5, np_ald 1 0), (6, nw_getf 7 1), (9, nq_ic (fun x y => y ≤ x) 30), (12, np_ild 1 1), (13, np_ald 1 0), (14, nw_getf 7 0), (17, nw_alen), (18, nq_ic (fun x y => y ≤ x) 30), (21, np_ald 1 0), (22, nw_getf 7 0), (25, np_ild 1 1), (26, nw_ialdT .char), (27, np_goto 31), (30, np_push 1 (.int (-1))), (31, np_ret Rt)]
set_option maxRecDepth 20000 in
theorem so_X7_unitAt {X : np_Ctx} {Rt : np_Rt} (hX : np_ok RX7 cX7_unitAt 2 0 0 0 0 .ireturn X) (hR : ∀ st w ce sl, Rt st w ce sl → X.2.2.1 st w ce sl) : ∀ q ∈ is_X7_unitAt Rt, np_S X q.1 q.2 :=
  List.forall_mem_cons.mpr ⟨np_s_iload_n hX dX7_unitAt_0 rfl, List.forall_mem_cons.mpr ⟨np_S.mono (op := np_if (fun x => x < 0) 30) (np_s_if_lt hX dX7_unitAt_1 (by decide)) nq_if_le, List.forall_mem_cons.mpr ⟨np_s_iload_n hX dX7_unitAt_4 rfl, List.forall_mem_cons.mpr ⟨np_s_aload_n hX dX7_unitAt_5 rfl, List.forall_mem_cons.mpr ⟨np_S.mono (op := np_getf 7 1) (np_s_getf hX dX7_unitAt_6 (C := RX7) (T := TX7) (N := 3) rfl guX7 (by decide) gw210) nw_getf_le, List.forall_mem_cons.mpr ⟨np_S.mono (op := np_ic (fun x y => y ≤ x) 30) (np_s_icmp_ge hX dX7_unitAt_9 (by decide)) nq_ic_le, List.forall_mem_cons.mpr ⟨np_s_iload_n hX dX7_unitAt_12 rfl, List.forall_mem_cons.mpr ⟨np_s_aload_n hX dX7_unitAt_13 rfl, List.forall_mem_cons.mpr ⟨np_S.mono (op := np_getf 7 0) (np_s_getf hX dX7_unitAt_14 (C := RX7) (T := TX7) (N := 3) rfl guX7 (by decide) gw209) nw_getf_le, List.forall_mem_cons.mpr ⟨np_S.mono (op := np_alen) (np_s_alen hX dX7_unitAt_17) nw_alen_le, List.forall_mem_cons.mpr ⟨np_S.mono (op := np_ic (fun x y => y ≤ x) 30) (np_s_icmp_ge hX dX7_unitAt_18 (by decide)) nq_ic_le, List.forall_mem_cons.mpr ⟨np_s_aload_n hX dX7_unitAt_21 rfl, List.forall_mem_cons.mpr ⟨np_S.mono (op := np_getf 7 0) (np_s_getf hX dX7_unitAt_22 (C := RX7) (T := TX7) (N := 3) rfl guX7 (by decide) gw209) nw_getf_le, List.forall_mem_cons.mpr ⟨np_s_iload_n hX dX7_unitAt_25 rfl, List.forall_mem_cons.mpr ⟨np_S.mono (op := np_ialdT .char) (np_s_cald hX dX7_unitAt_26) nw_ialdT_le, List.forall_mem_cons.mpr ⟨np_s_goto hX dX7_unitAt_27 (by decide), List.forall_mem_cons.mpr ⟨np_s_iconst hX dX7_unitAt_30 (by decide), List.forall_mem_cons.mpr ⟨np_S.mono (op := np_ret X.2.2.1) (np_s_ret hX dX7_unitAt_31) (nq_ret_le hR), fun _ h => nomatch h⟩⟩⟩⟩⟩⟩⟩⟩⟩⟩⟩⟩⟩⟩⟩⟩⟩⟩
noncomputable def m_X7_unitAt (S : pw_S) (i0 : Nat) (x1 : Int32) : pw_R Int32 :=
 if x1 < 0 then
 (some (S, (-1)))
 else
 (if (S 53 i0 1) ≤ x1 then
 (some (S, (-1)))
 else
 (if 300 ≤ x1 then
 (some (S, (-1)))
 else
 (pw_c (np_inb x1 300) <|
 some (S, (S 11 i0 (x1 : Int32).toNatClampNeg)))))
def sp_X7_unitAt : np_Sp := fun vs w Q => ∃ (q : Nat) (S : pw_S) (i0 : Nat) (x1 : Int32), vs = [.ref (pw_pl 53 i0), .int x1] ∧ pw_ok q 53 i0 = true ∧ pw_W q w S ∧ pw_p (m_X7_unitAt S i0 x1) (fun S' r => ∀ f', pw_W q (w.1, f') S' → Q (some (.int r)) (w.1, f'))
set_option maxRecDepth 100000 in
set_option maxHeartbeats 8000000 in
theorem C_X7_unitAt : np_C yX7_unitAt cX7_unitAt 2 (some .int) 0 0 0 0 sp_X7_unitAt := by
  refine np_of (by decide) ?_
  intro X vs w Q hsp hX hmn hRt hlt
  obtain ⟨q, S, i0, x1, rfl, hi0, hW, h⟩ := hsp
  obtain ⟨n, f⟩ := w
  unfold m_X7_unitAt at h
  have hR : ∀ st w ce sl, np_rt (some .int) 0 0 Q st w ce sl → X.2.2.1 st w ce sl := fun _ _ _ _ h => by rw [hRt]; exact h
  refine np_soundW (so_X7_unitAt hX hR) [] 400 0 _ _ _ _ _ ?_
  conv => whnf
  refine pw_br h (fun _ h => ?_) (fun _ h => ?_)
  · conv => whnf
    exact ⟨Nat.le_of_ble_eq_true rfl, Nat.le_of_ble_eq_true rfl, ⟨_, rfl⟩, _, fun _ _ h9 => h9, pw_ps h _ hW⟩
  · conv => whnf
    refine np_rd_i (hW.g hi0) ?_
    conv => whnf
    refine pw_br h (fun _ h => ?_) (fun _ h => ?_)
    · conv => whnf
      exact ⟨Nat.le_of_ble_eq_true rfl, Nat.le_of_ble_eq_true rfl, ⟨_, rfl⟩, _, fun _ _ h9 => h9, pw_ps h _ hW⟩
    · conv => whnf
      refine np_rd_i (hW.g hi0) ?_
      conv => whnf
      refine np_rd_i (hW.g hi0) ?_
      conv => whnf
      refine pw_br h (fun _ h => ?_) (fun _ h => ?_)
      · conv => whnf
        exact ⟨Nat.le_of_ble_eq_true rfl, Nat.le_of_ble_eq_true rfl, ⟨_, rfl⟩, _, fun _ _ h9 => h9, pw_ps h _ hW⟩
      · conv => whnf
        refine np_rd_i (hW.g hi0) ?_
        conv => whnf
        refine np_rd_i (hW.g hi0) ?_
        conv => whnf
        refine pw_ck h (fun _ h => ?_)
        conv => whnf
        exact ⟨Nat.le_of_ble_eq_true rfl, Nat.le_of_ble_eq_true rfl, ⟨_, rfl⟩, _, fun _ _ h9 => h9, pw_ps h _ hW⟩
theorem dX4_ahead_0 : decode cX4_ahead 0 = .ok (.aload_n 0, 1) := by decide +kernel
theorem dX4_ahead_1 : decode cX4_ahead 1 = .ok (.getfield 42, 3) := by decide +kernel
theorem dX4_ahead_4 : decode cX4_ahead 4 = .ok (.aload_n 0, 1) := by decide +kernel
theorem dX4_ahead_5 : decode cX4_ahead 5 = .ok (.getfield 46, 3) := by decide +kernel
theorem dX4_ahead_8 : decode cX4_ahead 8 = .ok (.aload_n 0, 1) := by decide +kernel
theorem dX4_ahead_9 : decode cX4_ahead 9 = .ok (.getfield 18, 3) := by decide +kernel
theorem dX4_ahead_12 : decode cX4_ahead 12 = .ok (.getfield 123, 3) := by decide +kernel
theorem dX4_ahead_15 : decode cX4_ahead 15 = .ok (.iadd, 1) := by decide +kernel
theorem dX4_ahead_16 : decode cX4_ahead 16 = .ok (.iload_n 1, 1) := by decide +kernel
theorem dX4_ahead_17 : decode cX4_ahead 17 = .ok (.iadd, 1) := by decide +kernel
theorem dX4_ahead_18 : decode cX4_ahead 18 = .ok (.invokevirtual 126, 3) := by decide +kernel
theorem dX4_ahead_21 : decode cX4_ahead 21 = .ok (.ireturn, 1) := by decide +kernel
def is_X4_ahead (Rt : np_Rt) : List (Nat × np_Op) := [(0, np_ald 1 0), (1, nw_getf 4 6), (4, np_ald 1 0), (5, nw_getf 4 7), (8, np_ald 1 0), (9, nw_getf 4 1), (12, nw_getf 8 6), (15, np_ib (fun x y => x + y)), (16, np_ild 1 1), (17, np_ib (fun x y => x + y)), (18, nw_callV 7 2 sp_X7_unitAt 2 0 0 0 0), (21, np_ret Rt)]
set_option maxRecDepth 20000 in
theorem so_X4_ahead {X : np_Ctx} {Rt : np_Rt} (hX : np_ok RX4 cX4_ahead 2 1 21 0 0 .ireturn X) (hR : ∀ st w ce sl, Rt st w ce sl → X.2.2.1 st w ce sl) : ∀ q ∈ is_X4_ahead Rt, np_S X q.1 q.2 :=
  List.forall_mem_cons.mpr ⟨np_s_aload_n hX dX4_ahead_0 rfl, List.forall_mem_cons.mpr ⟨np_S.mono (op := np_getf 4 6) (np_s_getf hX dX4_ahead_1 (C := RX4) (T := TX4) (N := 11) rfl guX4 (by decide) gw229) nw_getf_le, List.forall_mem_cons.mpr ⟨np_s_aload_n hX dX4_ahead_4 rfl, List.forall_mem_cons.mpr ⟨np_S.mono (op := np_getf 4 7) (np_s_getf hX dX4_ahead_5 (C := RX4) (T := TX4) (N := 11) rfl guX4 (by decide) gw230) nw_getf_le, List.forall_mem_cons.mpr ⟨np_s_aload_n hX dX4_ahead_8 rfl, List.forall_mem_cons.mpr ⟨np_S.mono (op := np_getf 4 1) (np_s_getf hX dX4_ahead_9 (C := RX4) (T := TX4) (N := 11) rfl guX4 (by decide) gw223) nw_getf_le, List.forall_mem_cons.mpr ⟨np_S.mono (op := np_getf 8 6) (np_s_getN hX dX4_ahead_12 (C := RX8) (T := TX8) (N := 9) rfl guX8 (by decide) gw159) nw_getf_le, List.forall_mem_cons.mpr ⟨np_s_iadd hX dX4_ahead_15, List.forall_mem_cons.mpr ⟨np_s_iload_n hX dX4_ahead_16 rfl, List.forall_mem_cons.mpr ⟨np_s_iadd hX dX4_ahead_17, List.forall_mem_cons.mpr ⟨np_S.mono (op := np_callV 7 2 sp_X7_unitAt 2 0 0 0 0) (np_s_callV hX C_X7_unitAt dX4_ahead_18 (q := (RX7, TX7, 3)) rfl rfl gw989 gw68 gw1028 gw987 gw988 ⟨by decide, by decide, by decide⟩ (by decide) (by decide)) nw_callV_le, List.forall_mem_cons.mpr ⟨np_S.mono (op := np_ret X.2.2.1) (np_s_ret hX dX4_ahead_21) (nq_ret_le hR), fun _ h => nomatch h⟩⟩⟩⟩⟩⟩⟩⟩⟩⟩⟩⟩
noncomputable def m_X4_ahead (S : pw_S) (i0 : Nat) (x1 : Int32) : pw_R Int32 :=
 pw_b (m_X7_unitAt S (pw_dn 3 (S 59 i0 6)) (((S 59 i0 7) + (S 50 407 6)) + x1)) fun S1 r4 =>
 some (S1, r4)
def sp_X4_ahead : np_Sp := fun vs w Q => ∃ (q : Nat) (S : pw_S) (i0 : Nat) (x1 : Int32), vs = [.ref (pw_pl 59 i0), .int x1] ∧ pw_ok q 59 i0 = true ∧ pw_W q w S ∧ pw_p (m_X4_ahead S i0 x1) (fun S' r => ∀ f', pw_W q (w.1, f') S' → Q (some (.int r)) (w.1, f'))
set_option maxRecDepth 100000 in
set_option maxHeartbeats 8000000 in
theorem C_X4_ahead : np_C yX4_ahead cX4_ahead 2 (some .int) 1 21 0 0 sp_X4_ahead := by
  refine np_of (by decide) ?_
  intro X vs w Q hsp hX hmn hRt hlt
  obtain ⟨q, S, i0, x1, rfl, hi0, hW, h⟩ := hsp
  obtain ⟨n, f⟩ := w
  unfold m_X4_ahead at h
  have hR : ∀ st w ce sl, np_rt (some .int) 0 0 Q st w ce sl → X.2.2.1 st w ce sl := fun _ _ _ _ h => by rw [hRt]; exact h
  refine np_soundW (so_X4_ahead hX hR) [] 400 0 _ _ _ _ _ ?_
  conv => whnf
  refine np_rd_i (hW.g hi0) ?_
  conv => whnf
  refine np_rd_i (hW.g hi0) ?_
  conv => whnf
  refine np_rd_i (hW.g hi0) ?_
  conv => whnf
  refine np_rd_i (hW.g rfl) ?_
  conv => whnf
  refine np_rd_i (hW.g (pw_okd (a := 53) (n := 3) rfl rfl rfl)) ?_
  conv => whnf
  refine ⟨q, S, (pw_dn 3 (S 59 i0 6)), (((S 59 i0 7) + (S 50 407 6)) + x1), rfl, (pw_okd (a := 53) (n := 3) rfl rfl rfl), hW, pw_bd h (fun S1 r4 h f2 hW3 => ?_)⟩
  conv => whnf
  exact ⟨Nat.le_of_ble_eq_true rfl, Nat.le_of_ble_eq_true rfl, ⟨_, rfl⟩, _, fun _ _ h9 => h9, pw_ps h _ hW3⟩
theorem dX4_keepWay_0 : decode cX4_keepWay 0 = .ok (.aload_n 0, 1) := by decide +kernel
theorem dX4_keepWay_1 : decode cX4_keepWay 1 = .ok (.aload_n 0, 1) := by decide +kernel
theorem dX4_keepWay_2 : decode cX4_keepWay 2 = .ok (.getfield 64, 3) := by decide +kernel
theorem dX4_keepWay_5 : decode cX4_keepWay 5 = .ok (.invokevirtual 57, 3) := by decide +kernel
theorem dX4_keepWay_8 : decode cX4_keepWay 8 = .ok (.astore 4, 2) := by decide +kernel
theorem dX4_keepWay_10 : decode cX4_keepWay 10 = .ok (.aload 4, 2) := by decide +kernel
theorem dX4_keepWay_12 : decode cX4_keepWay 12 = .ok (.ifnull 17, 3) := by decide +kernel
theorem dX4_keepWay_15 : decode cX4_keepWay 15 = .ok (.aload_n 0, 1) := by decide +kernel
theorem dX4_keepWay_16 : decode cX4_keepWay 16 = .ok (.getfield 18, 3) := by decide +kernel
theorem dX4_keepWay_19 : decode cX4_keepWay 19 = .ok (.getfield 123, 3) := by decide +kernel
theorem dX4_keepWay_22 : decode cX4_keepWay 22 = .ok (.iload_n 3, 1) := by decide +kernel
theorem dX4_keepWay_23 : decode cX4_keepWay 23 = .ok (.iadd, 1) := by decide +kernel
theorem dX4_keepWay_24 : decode cX4_keepWay 24 = .ok (.bipush 60, 2) := by decide +kernel
theorem dX4_keepWay_26 : decode cX4_keepWay 26 = .ok (.if_icmp .le 4, 3) := by decide +kernel
theorem dX4_keepWay_29 : decode cX4_keepWay 29 = .ok (.return_, 1) := by decide +kernel
theorem dX4_keepWay_30 : decode cX4_keepWay 30 = .ok (.aload 4, 2) := by decide +kernel
theorem dX4_keepWay_32 : decode cX4_keepWay 32 = .ok (.aload_n 0, 1) := by decide +kernel
theorem dX4_keepWay_33 : decode cX4_keepWay 33 = .ok (.getfield 18, 3) := by decide +kernel
theorem dX4_keepWay_36 : decode cX4_keepWay 36 = .ok (.invokevirtual 67, 3) := by decide +kernel
theorem dX4_keepWay_39 : decode cX4_keepWay 39 = .ok (.iload_n 1, 1) := by decide +kernel
theorem dX4_keepWay_40 : decode cX4_keepWay 40 = .ok (.iconst (-1), 1) := by decide +kernel
theorem dX4_keepWay_41 : decode cX4_keepWay 41 = .ok (.if_icmp .eq 16, 3) := by decide +kernel
theorem dX4_keepWay_44 : decode cX4_keepWay 44 = .ok (.aload 4, 2) := by decide +kernel
theorem dX4_keepWay_46 : decode cX4_keepWay 46 = .ok (.iload_n 1, 1) := by decide +kernel
theorem dX4_keepWay_47 : decode cX4_keepWay 47 = .ok (.invokevirtual 129, 3) := by decide +kernel
theorem dX4_keepWay_50 : decode cX4_keepWay 50 = .ok (.aload 4, 2) := by decide +kernel
theorem dX4_keepWay_52 : decode cX4_keepWay 52 = .ok (.iload_n 1, 1) := by decide +kernel
theorem dX4_keepWay_53 : decode cX4_keepWay 53 = .ok (.iload_n 2, 1) := by decide +kernel
theorem dX4_keepWay_54 : decode cX4_keepWay 54 = .ok (.invokevirtual 132, 3) := by decide +kernel
theorem dX4_keepWay_57 : decode cX4_keepWay 57 = .ok (.iconst 0, 1) := by decide +kernel
theorem dX4_keepWay_58 : decode cX4_keepWay 58 = .ok (.istore 5, 2) := by decide +kernel
theorem dX4_keepWay_60 : decode cX4_keepWay 60 = .ok (.iload 5, 2) := by decide +kernel
theorem dX4_keepWay_62 : decode cX4_keepWay 62 = .ok (.iload_n 3, 1) := by decide +kernel
theorem dX4_keepWay_63 : decode cX4_keepWay 63 = .ok (.if_icmp .ge 20, 3) := by decide +kernel
theorem dX4_keepWay_66 : decode cX4_keepWay 66 = .ok (.aload 4, 2) := by decide +kernel
theorem dX4_keepWay_68 : decode cX4_keepWay 68 = .ok (.aload_n 0, 1) := by decide +kernel
theorem dX4_keepWay_69 : decode cX4_keepWay 69 = .ok (.iload 5, 2) := by decide +kernel
theorem dX4_keepWay_71 : decode cX4_keepWay 71 = .ok (.invokevirtual 136, 3) := by decide +kernel
theorem dX4_keepWay_74 : decode cX4_keepWay 74 = .ok (.invokevirtual 139, 3) := by decide +kernel
theorem dX4_keepWay_77 : decode cX4_keepWay 77 = .ok (.iinc 5 1, 3) := by decide +kernel
theorem dX4_keepWay_80 : decode cX4_keepWay 80 = .ok (.goto (-20), 3) := by decide +kernel
theorem dX4_keepWay_83 : decode cX4_keepWay 83 = .ok (.aload 4, 2) := by decide +kernel
theorem dX4_keepWay_85 : decode cX4_keepWay 85 = .ok (.aload_n 0, 1) := by decide +kernel
theorem dX4_keepWay_86 : decode cX4_keepWay 86 = .ok (.getfield 35, 3) := by decide +kernel
theorem dX4_keepWay_89 : decode cX4_keepWay 89 = .ok (.invokevirtual 142, 3) := by decide +kernel
theorem dX4_keepWay_92 : decode cX4_keepWay 92 = .ok (.aload_n 0, 1) := by decide +kernel
theorem dX4_keepWay_93 : decode cX4_keepWay 93 = .ok (.dup, 1) := by decide +kernel
theorem dX4_keepWay_94 : decode cX4_keepWay 94 = .ok (.getfield 64, 3) := by decide +kernel
theorem dX4_keepWay_97 : decode cX4_keepWay 97 = .ok (.iconst 1, 1) := by decide +kernel
theorem dX4_keepWay_98 : decode cX4_keepWay 98 = .ok (.iadd, 1) := by decide +kernel
theorem dX4_keepWay_99 : decode cX4_keepWay 99 = .ok (.putfield 64, 3) := by decide +kernel
theorem dX4_keepWay_102 : decode cX4_keepWay 102 = .ok (.return_, 1) := by decide +kernel
def is_X4_keepWay (Rt : np_Rt) : List (Nat × np_Op) := [(0, np_ald 1 0), (1, np_ald 1 0), (2, nw_getf 4 8), (5, nw_callV 4 2 sp_X4_beginningAt 2 0 0 0 0), (8, np_ast 2 4), (10, np_ald 2 4), (12, np_ifnull 29), (15, np_ald 1 0), (16, nw_getf 4 1), (19, nw_getf 8 6), (22, np_ild 1 3), (23, np_ib (fun x y => x + y)), (24, np_push 2 (.int 60)), (26, nq_ic (fun x y => x ≤ y) 30), (29, np_ret Rt), (30, np_ald 2 4), (32, np_ald 1 0), (33, nw_getf 4 1), (36, nw_callV 8 2 sp_X8_copyFrom 2 0 0 0 0), (39, np_ild 1 1), (40, np_push 1 (.int (-1))), (41, nq_ic (fun x y => x = y) 57), (44, np_ald 2 4), (46, np_ild 1 1), (47, nw_callV 8 2 sp_X8_begin 2 0 0 0 0), (50, np_ald 2 4), (52, np_ild 1 1), (53, np_ild 1 2), (54, nw_callV 8 3 sp_X8_keep 3 0 0 0 0), (57, np_push 1 (.int 0)), (58, nw_ist 2 5), (60, np_ild 2 5), (62, np_ild 1 3), (63, nq_ic (fun x y => y ≤ x) 83), (66, np_ald 2 4), (68, np_ald 1 0), (69, np_ild 2 5), (71, nw_callV 4 2 sp_X4_ahead 2 0 0 0 0), (74, nw_callV 8 2 sp_X8_append 2 0 0 0 0), (77, nw_iinc 5 1), (80, np_goto 60), (83, np_ald 2 4), (85, np_ald 1 0), (86, nw_getf 4 5), (89, nw_callV 8 2 sp_X8_finish 2 0 0 0 0), (92, np_ald 1 0), (93, nq_dup), (94, nw_getf 4 8), (97, np_push 1 (.int 1)), (98, np_ib (fun x y => x + y)), (99, nw_putf 4 8 (.int)), (102, np_ret Rt)]
set_option maxRecDepth 20000 in
theorem so_X4_keepWay {X : np_Ctx} {Rt : np_Rt} (hX : np_ok RX4 cX4_keepWay 6 3 105 0 0 .return_ X) (hR : ∀ st w ce sl, Rt st w ce sl → X.2.2.1 st w ce sl) : ∀ q ∈ is_X4_keepWay Rt, np_S X q.1 q.2 :=
  List.forall_mem_cons.mpr ⟨np_s_aload_n hX dX4_keepWay_0 rfl, List.forall_mem_cons.mpr ⟨np_s_aload_n hX dX4_keepWay_1 rfl, List.forall_mem_cons.mpr ⟨np_S.mono (op := np_getf 4 8) (np_s_getf hX dX4_keepWay_2 (C := RX4) (T := TX4) (N := 11) rfl guX4 (by decide) gw231) nw_getf_le, List.forall_mem_cons.mpr ⟨np_S.mono (op := np_callV 4 2 sp_X4_beginningAt 2 0 0 0 0) (np_s_callV hX C_X4_beginningAt dX4_keepWay_5 (q := (RX4, TX4, 11)) rfl rfl gw1006 gw67 gw1003 gw1005 gw19 ⟨by decide, by decide, by decide⟩ (by decide) (by decide)) nw_callV_le, List.forall_mem_cons.mpr ⟨np_s_astore hX dX4_keepWay_8 (by decide), List.forall_mem_cons.mpr ⟨np_s_aload hX dX4_keepWay_10, List.forall_mem_cons.mpr ⟨np_s_ifnull hX dX4_keepWay_12 (by decide), List.forall_mem_cons.mpr ⟨np_s_aload_n hX dX4_keepWay_15 rfl, List.forall_mem_cons.mpr ⟨np_S.mono (op := np_getf 4 1) (np_s_getf hX dX4_keepWay_16 (C := RX4) (T := TX4) (N := 11) rfl guX4 (by decide) gw223) nw_getf_le, List.forall_mem_cons.mpr ⟨np_S.mono (op := np_getf 8 6) (np_s_getN hX dX4_keepWay_19 (C := RX8) (T := TX8) (N := 9) rfl guX8 (by decide) gw159) nw_getf_le, List.forall_mem_cons.mpr ⟨np_s_iload_n hX dX4_keepWay_22 rfl, List.forall_mem_cons.mpr ⟨np_s_iadd hX dX4_keepWay_23, List.forall_mem_cons.mpr ⟨np_s_bipush hX dX4_keepWay_24 (by decide), List.forall_mem_cons.mpr ⟨np_S.mono (op := np_ic (fun x y => x ≤ y) 30) (np_s_icmp_le hX dX4_keepWay_26 (by decide)) nq_ic_le, List.forall_mem_cons.mpr ⟨np_S.mono (op := np_ret X.2.2.1) (np_s_ret hX dX4_keepWay_29) (nq_ret_le hR), List.forall_mem_cons.mpr ⟨np_s_aload hX dX4_keepWay_30, List.forall_mem_cons.mpr ⟨np_s_aload_n hX dX4_keepWay_32 rfl, List.forall_mem_cons.mpr ⟨np_S.mono (op := np_getf 4 1) (np_s_getf hX dX4_keepWay_33 (C := RX4) (T := TX4) (N := 11) rfl guX4 (by decide) gw223) nw_getf_le, List.forall_mem_cons.mpr ⟨np_S.mono (op := np_callV 8 2 sp_X8_copyFrom 2 0 0 0 0) (np_s_callV hX C_X8_copyFrom dX4_keepWay_36 (q := (RX8, TX8, 9)) rfl rfl gw890 gw66 gw1012 gw888 gw889 ⟨by decide, by decide, by decide⟩ (by decide) (by decide)) nw_callV_le, List.forall_mem_cons.mpr ⟨np_s_iload_n hX dX4_keepWay_39 rfl, List.forall_mem_cons.mpr ⟨np_s_iconst hX dX4_keepWay_40 (by decide), List.forall_mem_cons.mpr ⟨np_S.mono (op := np_ic (fun x y => x = y) 57) (np_s_icmp_eq hX dX4_keepWay_41 (by decide)) nq_ic_le, List.forall_mem_cons.mpr ⟨np_s_aload hX dX4_keepWay_44, List.forall_mem_cons.mpr ⟨np_s_iload_n hX dX4_keepWay_46 rfl, List.forall_mem_cons.mpr ⟨np_S.mono (op := np_callV 8 2 sp_X8_begin 2 0 0 0 0) (np_s_callV hX C_X8_begin dX4_keepWay_47 (q := (RX8, TX8, 9)) rfl rfl gw809 gw66 gw1038 gw807 gw808 ⟨by decide, by decide, by decide⟩ (by decide) (by decide)) nw_callV_le, List.forall_mem_cons.mpr ⟨np_s_aload hX dX4_keepWay_50, List.forall_mem_cons.mpr ⟨np_s_iload_n hX dX4_keepWay_52 rfl, List.forall_mem_cons.mpr ⟨np_s_iload_n hX dX4_keepWay_53 rfl, List.forall_mem_cons.mpr ⟨np_S.mono (op := np_callV 8 3 sp_X8_keep 3 0 0 0 0) (np_s_callV hX C_X8_keep dX4_keepWay_54 (q := (RX8, TX8, 9)) rfl rfl gw818 gw66 gw1039 gw816 gw817 ⟨by decide, by decide, by decide⟩ (by decide) (by decide)) nw_callV_le, List.forall_mem_cons.mpr ⟨np_s_iconst hX dX4_keepWay_57 (by decide), List.forall_mem_cons.mpr ⟨np_S.mono (op := np_ist 2 5) (np_s_istore hX dX4_keepWay_58 (by decide)) nw_ist_le, List.forall_mem_cons.mpr ⟨np_s_iload hX dX4_keepWay_60, List.forall_mem_cons.mpr ⟨np_s_iload_n hX dX4_keepWay_62 rfl, List.forall_mem_cons.mpr ⟨np_S.mono (op := np_ic (fun x y => y ≤ x) 83) (np_s_icmp_ge hX dX4_keepWay_63 (by decide)) nq_ic_le, List.forall_mem_cons.mpr ⟨np_s_aload hX dX4_keepWay_66, List.forall_mem_cons.mpr ⟨np_s_aload_n hX dX4_keepWay_68 rfl, List.forall_mem_cons.mpr ⟨np_s_iload hX dX4_keepWay_69, List.forall_mem_cons.mpr ⟨np_S.mono (op := np_callV 4 2 sp_X4_ahead 2 0 0 0 0) (np_s_callV hX C_X4_ahead dX4_keepWay_71 (q := (RX4, TX4, 11)) rfl rfl gw1027 gw67 gw1024 gw1026 gw22 ⟨by decide, by decide, by decide⟩ (by decide) (by decide)) nw_callV_le, List.forall_mem_cons.mpr ⟨np_S.mono (op := np_callV 8 2 sp_X8_append 2 0 0 0 0) (np_s_callV hX C_X8_append dX4_keepWay_74 (q := (RX8, TX8, 9)) rfl rfl gw840 gw66 gw1040 gw838 gw839 ⟨by decide, by decide, by decide⟩ (by decide) (by decide)) nw_callV_le, List.forall_mem_cons.mpr ⟨np_S.mono (op := np_iinc 5 1) (np_s_iinc hX dX4_keepWay_77 (by decide)) nw_iinc_le, List.forall_mem_cons.mpr ⟨np_s_goto hX dX4_keepWay_80 (by decide), List.forall_mem_cons.mpr ⟨np_s_aload hX dX4_keepWay_83, List.forall_mem_cons.mpr ⟨np_s_aload_n hX dX4_keepWay_85 rfl, List.forall_mem_cons.mpr ⟨np_S.mono (op := np_getf 4 5) (np_s_getf hX dX4_keepWay_86 (C := RX4) (T := TX4) (N := 11) rfl guX4 (by decide) gw228) nw_getf_le, List.forall_mem_cons.mpr ⟨np_S.mono (op := np_callV 8 2 sp_X8_finish 2 0 0 0 0) (np_s_callV hX C_X8_finish dX4_keepWay_89 (q := (RX8, TX8, 9)) rfl rfl gw775 gw66 gw1041 gw773 gw774 ⟨by decide, by decide, by decide⟩ (by decide) (by decide)) nw_callV_le, List.forall_mem_cons.mpr ⟨np_s_aload_n hX dX4_keepWay_92 rfl, List.forall_mem_cons.mpr ⟨np_S.mono (op := np_dup) (np_s_dup hX dX4_keepWay_93) nq_dup_le, List.forall_mem_cons.mpr ⟨np_S.mono (op := np_getf 4 8) (np_s_getf hX dX4_keepWay_94 (C := RX4) (T := TX4) (N := 11) rfl guX4 (by decide) gw231) nw_getf_le, List.forall_mem_cons.mpr ⟨np_s_iconst hX dX4_keepWay_97 (by decide), List.forall_mem_cons.mpr ⟨np_s_iadd hX dX4_keepWay_98, List.forall_mem_cons.mpr ⟨np_S.mono (op := np_putf 4 8 (.int)) (np_s_putf hX dX4_keepWay_99 (C := RX4) (T := TX4) (N := 11) (ty0 := tyX4) rfl guX4 tyX4_ok nmX4 (by decide) gw231 rfl rfl) nw_putf_le, List.forall_mem_cons.mpr ⟨np_S.mono (op := np_ret X.2.2.1) (np_s_ret hX dX4_keepWay_102) (nq_ret_le hR), fun _ h => nomatch h⟩⟩⟩⟩⟩⟩⟩⟩⟩⟩⟩⟩⟩⟩⟩⟩⟩⟩⟩⟩⟩⟩⟩⟩⟩⟩⟩⟩⟩⟩⟩⟩⟩⟩⟩⟩⟩⟩⟩⟩⟩⟩⟩⟩⟩⟩⟩⟩⟩⟩⟩⟩
noncomputable def m_X4_keepWay_60 : Nat → pw_S → Nat → Int32 → Nat → Int32 → pw_R Unit
| 0, _, _, _, _, _ => none
| N + 1, S, v0, v3, v4, v5 =>
 if v3 ≤ v5 then
 (pw_b (m_X8_finish S v4 (pw_dn 8 (S 59 v0 5))) fun S1 r4 =>
 pw_l (pw_up S1 59 v0 (upd (S1 59 v0) 8 ((S1 59 v0 8) + 1))) fun S6 =>
 some (S6, ()))
 else
 (pw_b (m_X4_ahead S v0 v5) fun S9 r12 =>
 pw_b (m_X8_append S9 v4 r12) fun S14 r17 =>
 pw_l (v5 + 1 : Int32) fun z19 =>
 m_X4_keepWay_60 N S14 v0 v3 v4 z19)
set_option maxRecDepth 100000 in
set_option maxHeartbeats 8000000 in
theorem L_X4_keepWay_60 {X : np_Ctx} (hX : np_ok RX4 cX4_keepWay 6 3 105 0 0 .return_ X) {Q : Option Value → np_W → Prop} {q n : Nat} (hR : ∀ st w ce sl, np_rt none 0 0 Q st w ce sl → X.2.2.1 st w ce sl) : ∀ (N : Nat) (S : pw_S) (v0 : Nat) (v3 : Int32) (v4 : Nat) (v5 : Int32) (f : Nat → Option np_E) (hv0 : pw_ok q 59 v0 = true) (hv4 : pw_ok q 50 v4 = true), pw_W q (n, f) S → pw_p (m_X4_keepWay_60 N S v0 v3 v4 v5) (fun S' r => ∀ f', pw_W q (n, f') S' → Q none (n, f')) → np_G X 60 [(0, .ref (pw_pl 59 v0)), (3, .int v3), (4, .ref (pw_pl 50 v4)), (5, .int v5)] [] (n, f) 0 0 := by
  intro N
  induction N with
  | zero =>
    intro S v0 v3 v4 v5 f hv0 hv4 hW h
    exact (pw_pn h).elim
  | succ N ih =>
    intro S v0 v3 v4 v5 f hv0 hv4 hW h
    unfold m_X4_keepWay_60 at h
    refine np_soundW (so_X4_keepWay hX hR) [60] 400 60 _ _ _ _ _ ?_
    conv => whnf
    refine pw_br h (fun _ h => ?_) (fun _ h => ?_)
    · conv => whnf
      refine np_rd_i (hW.g hv0) ?_
      conv => whnf
      refine np_rd_i (hW.g hv4) ?_
      conv => whnf
      refine ⟨q, S, v4, (pw_dn 8 (S 59 v0 5)), rfl, hv4, (pw_okd (a := 51) (n := 8) rfl rfl rfl), hW, pw_bd h (fun S1 r4 h f2 hW3 => ?_)⟩
      conv => whnf
      refine np_rd_i (hW3.g hv0) ?_
      conv => whnf
      refine np_rd_i (hW3.g hv0) ?_
      conv => whnf
      refine pw_wr (a := 59) (i := v0) (d := upd (S1 59 v0) 8 ((S1 59 v0 8) + 1)) hW3 hv0 rfl h (fun S6 f7 hW8 h => ?_)
      conv => whnf
      exact ⟨Nat.le_of_ble_eq_true rfl, Nat.le_of_ble_eq_true rfl, rfl, _, fun _ _ h9 => h9, pw_ps h _ hW8⟩
    · conv => whnf
      refine np_rd_i (hW.g hv0) ?_
      conv => whnf
      refine ⟨q, S, v0, v5, rfl, hv0, hW, pw_bd h (fun S9 r12 h f10 hW11 => ?_)⟩
      conv => whnf
      refine np_rd_i (hW11.g hv4) ?_
      conv => whnf
      refine ⟨q, S9, v4, r12, rfl, hv4, hW11, pw_bd h (fun S14 r17 h f15 hW16 => ?_)⟩
      conv => whnf
      refine pw_st h (fun z19 h => ?_)
      conv => whnf
      exact np_gl (ih S14 v0 v3 v4 z19 f15 hv0 hv4 hW16 h) ⟨rfl, rfl, rfl, rfl, trivial⟩
noncomputable def m_X4_keepWay (S : pw_S) (i0 : Nat) (x1 : Int32) (x2 : Int32) (x3 : Int32) : pw_R Unit :=
 pw_b (m_X4_beginningAt S i0 (S 59 i0 8)) fun S20 r23 =>
 pw_o r23 (
 (some (S20, ()))) (fun j25 =>
 (if ((S20 50 407 6) + x3) ≤ 60 then
 (pw_b (m_X8_copyFrom S20 j25 407) fun S26 r29 =>
 if x1 = (-1) then
 (pw_l (0 : Int32) fun z31 =>
 m_X4_keepWay_60 (pw_F 20000) S26 i0 x3 j25 z31)
 else
 (pw_b (m_X8_begin S26 j25 x1) fun S32 r35 =>
 pw_b (m_X8_keep S32 j25 x1 x2) fun S37 r40 =>
 pw_l (0 : Int32) fun z42 =>
 m_X4_keepWay_60 (pw_F 20000) S37 i0 x3 j25 z42))
 else
 (some (S20, ()))))
def sp_X4_keepWay : np_Sp := fun vs w Q => ∃ (q : Nat) (S : pw_S) (i0 : Nat) (x1 : Int32) (x2 : Int32) (x3 : Int32), vs = [.ref (pw_pl 59 i0), .int x1, .int x2, .int x3] ∧ pw_ok q 59 i0 = true ∧ pw_W q w S ∧ pw_p (m_X4_keepWay S i0 x1 x2 x3) (fun S' r => ∀ f', pw_W q (w.1, f') S' → Q none (w.1, f'))
set_option maxRecDepth 100000 in
set_option maxHeartbeats 8000000 in
theorem C_X4_keepWay : np_C yX4_keepWay cX4_keepWay 6 none 3 105 0 0 sp_X4_keepWay := by
  refine np_of (by decide) ?_
  intro X vs w Q hsp hX hmn hRt hlt
  obtain ⟨q, S, i0, x1, x2, x3, rfl, hi0, hW, h⟩ := hsp
  obtain ⟨n, f⟩ := w
  unfold m_X4_keepWay at h
  have hR : ∀ st w ce sl, np_rt none 0 0 Q st w ce sl → X.2.2.1 st w ce sl := fun _ _ _ _ h => by rw [hRt]; exact h
  refine np_soundW (so_X4_keepWay hX hR) [60] 400 0 _ _ _ _ _ ?_
  conv => whnf
  refine np_rd_i (hW.g hi0) ?_
  conv => whnf
  refine np_rd_i (hW.g hi0) ?_
  conv => whnf
  refine ⟨q, S, i0, (S 59 i0 8), rfl, hi0, hW, pw_bd h (fun S20 r23 h f21 hW22 ho24 => ?_)⟩
  rcases r23 with _ | j25
  · replace h := pw_on h
    conv => whnf
    exact ⟨Nat.le_of_ble_eq_true rfl, Nat.le_of_ble_eq_true rfl, rfl, _, fun _ _ h9 => h9, pw_ps h _ hW22⟩
  · replace h := pw_os h
    replace ho24 : pw_ok q 50 j25 = true := ho24
    conv => whnf
    refine np_rd_i (hW22.g hi0) ?_
    conv => whnf
    refine np_rd_i (hW22.g rfl) ?_
    conv => whnf
    refine pw_br h (fun _ h => ?_) (fun _ h => ?_)
    · conv => whnf
      refine np_rd_i (hW22.g hi0) ?_
      conv => whnf
      refine np_rd_i (hW22.g ho24) ?_
      conv => whnf
      refine ⟨q, S20, j25, 407, rfl, ho24, rfl, hW22, pw_bd h (fun S26 r29 h f27 hW28 => ?_)⟩
      conv => whnf
      refine pw_br h (fun _ h => ?_) (fun _ h => ?_)
      · conv => whnf
        refine pw_st h (fun z31 h => ?_)
        conv => whnf
        exact np_gl (L_X4_keepWay_60 hX hR (pw_F 20000) S26 i0 x3 j25 z31 f27 hi0 ho24 hW28 h) ⟨rfl, rfl, rfl, rfl, trivial⟩
      · conv => whnf
        refine np_rd_i (hW28.g ho24) ?_
        conv => whnf
        refine ⟨q, S26, j25, x1, rfl, ho24, hW28, pw_bd h (fun S32 r35 h f33 hW34 => ?_)⟩
        conv => whnf
        refine np_rd_i (hW34.g ho24) ?_
        conv => whnf
        refine ⟨q, S32, j25, x1, x2, rfl, ho24, hW34, pw_bd h (fun S37 r40 h f38 hW39 => ?_)⟩
        conv => whnf
        refine pw_st h (fun z42 h => ?_)
        conv => whnf
        exact np_gl (L_X4_keepWay_60 hX hR (pw_F 20000) S37 i0 x3 j25 z42 f38 hi0 ho24 hW39 h) ⟨rfl, rfl, rfl, rfl, trivial⟩
    · conv => whnf
      exact ⟨Nat.le_of_ble_eq_true rfl, Nat.le_of_ble_eq_true rfl, rfl, _, fun _ _ h9 => h9, pw_ps h _ hW22⟩
theorem dX4_readNumber_0 : decode cX4_readNumber 0 = .ok (.aload_n 0, 1) := by decide +kernel
theorem dX4_readNumber_1 : decode cX4_readNumber 1 = .ok (.getfield 35, 3) := by decide +kernel
theorem dX4_readNumber_4 : decode cX4_readNumber 4 = .ok (.aload_n 0, 1) := by decide +kernel
theorem dX4_readNumber_5 : decode cX4_readNumber 5 = .ok (.getfield 18, 3) := by decide +kernel
theorem dX4_readNumber_8 : decode cX4_readNumber 8 = .ok (.getfield 78, 3) := by decide +kernel
theorem dX4_readNumber_11 : decode cX4_readNumber 11 = .ok (.invokevirtual 145, 3) := by decide +kernel
theorem dX4_readNumber_14 : decode cX4_readNumber 14 = .ok (.istore_n 1, 1) := by decide +kernel
theorem dX4_readNumber_15 : decode cX4_readNumber 15 = .ok (.iconst 0, 1) := by decide +kernel
theorem dX4_readNumber_16 : decode cX4_readNumber 16 = .ok (.istore_n 2, 1) := by decide +kernel
theorem dX4_readNumber_17 : decode cX4_readNumber 17 = .ok (.iconst 0, 1) := by decide +kernel
theorem dX4_readNumber_18 : decode cX4_readNumber 18 = .ok (.istore_n 3, 1) := by decide +kernel
theorem dX4_readNumber_19 : decode cX4_readNumber 19 = .ok (.iload_n 3, 1) := by decide +kernel
theorem dX4_readNumber_20 : decode cX4_readNumber 20 = .ok (.iload_n 1, 1) := by decide +kernel
theorem dX4_readNumber_21 : decode cX4_readNumber 21 = .ok (.if_icmp .ge 34, 3) := by decide +kernel
theorem dX4_readNumber_24 : decode cX4_readNumber 24 = .ok (.aload_n 0, 1) := by decide +kernel
theorem dX4_readNumber_25 : decode cX4_readNumber 25 = .ok (.iload_n 3, 1) := by decide +kernel
theorem dX4_readNumber_26 : decode cX4_readNumber 26 = .ok (.invokevirtual 136, 3) := by decide +kernel
theorem dX4_readNumber_29 : decode cX4_readNumber 29 = .ok (.invokestatic 148, 3) := by decide +kernel
theorem dX4_readNumber_32 : decode cX4_readNumber 32 = .ok (.ifCond .eq 17, 3) := by decide +kernel
theorem dX4_readNumber_35 : decode cX4_readNumber 35 = .ok (.bipush 10, 2) := by decide +kernel
theorem dX4_readNumber_37 : decode cX4_readNumber 37 = .ok (.iload_n 2, 1) := by decide +kernel
theorem dX4_readNumber_38 : decode cX4_readNumber 38 = .ok (.imul, 1) := by decide +kernel
theorem dX4_readNumber_39 : decode cX4_readNumber 39 = .ok (.aload_n 0, 1) := by decide +kernel
theorem dX4_readNumber_40 : decode cX4_readNumber 40 = .ok (.iload_n 3, 1) := by decide +kernel
theorem dX4_readNumber_41 : decode cX4_readNumber 41 = .ok (.invokevirtual 136, 3) := by decide +kernel
theorem dX4_readNumber_44 : decode cX4_readNumber 44 = .ok (.iadd, 1) := by decide +kernel
theorem dX4_readNumber_45 : decode cX4_readNumber 45 = .ok (.bipush 48, 2) := by decide +kernel
theorem dX4_readNumber_47 : decode cX4_readNumber 47 = .ok (.isub, 1) := by decide +kernel
theorem dX4_readNumber_48 : decode cX4_readNumber 48 = .ok (.istore_n 2, 1) := by decide +kernel
theorem dX4_readNumber_49 : decode cX4_readNumber 49 = .ok (.iinc 3 1, 3) := by decide +kernel
theorem dX4_readNumber_52 : decode cX4_readNumber 52 = .ok (.goto (-33), 3) := by decide +kernel
theorem dX4_readNumber_55 : decode cX4_readNumber 55 = .ok (.iload_n 2, 1) := by decide +kernel
theorem dX4_readNumber_56 : decode cX4_readNumber 56 = .ok (.iload_n 1, 1) := by decide +kernel
theorem dX4_readNumber_57 : decode cX4_readNumber 57 = .ok (.aload_n 0, 1) := by decide +kernel
theorem dX4_readNumber_58 : decode cX4_readNumber 58 = .ok (.getfield 35, 3) := by decide +kernel
theorem dX4_readNumber_61 : decode cX4_readNumber 61 = .ok (.aload_n 0, 1) := by decide +kernel
theorem dX4_readNumber_62 : decode cX4_readNumber 62 = .ok (.getfield 18, 3) := by decide +kernel
theorem dX4_readNumber_65 : decode cX4_readNumber 65 = .ok (.getfield 78, 3) := by decide +kernel
theorem dX4_readNumber_68 : decode cX4_readNumber 68 = .ok (.invokevirtual 152, 3) := by decide +kernel
theorem dX4_readNumber_71 : decode cX4_readNumber 71 = .ok (.aload_n 0, 1) := by decide +kernel
theorem dX4_readNumber_72 : decode cX4_readNumber 72 = .ok (.getfield 22, 3) := by decide +kernel
theorem dX4_readNumber_75 : decode cX4_readNumber 75 = .ok (.invokestatic 155, 3) := by decide +kernel
theorem dX4_readNumber_78 : decode cX4_readNumber 78 = .ok (.ifCond .ne 4, 3) := by decide +kernel
theorem dX4_readNumber_81 : decode cX4_readNumber 81 = .ok (.return_, 1) := by decide +kernel
theorem dX4_readNumber_82 : decode cX4_readNumber 82 = .ok (.iconst 0, 1) := by decide +kernel
theorem dX4_readNumber_83 : decode cX4_readNumber 83 = .ok (.istore_n 3, 1) := by decide +kernel
theorem dX4_readNumber_84 : decode cX4_readNumber 84 = .ok (.iload_n 3, 1) := by decide +kernel
theorem dX4_readNumber_85 : decode cX4_readNumber 85 = .ok (.iload_n 1, 1) := by decide +kernel
theorem dX4_readNumber_86 : decode cX4_readNumber 86 = .ok (.if_icmp .ge 27, 3) := by decide +kernel
theorem dX4_readNumber_89 : decode cX4_readNumber 89 = .ok (.aload_n 0, 1) := by decide +kernel
theorem dX4_readNumber_90 : decode cX4_readNumber 90 = .ok (.iload_n 3, 1) := by decide +kernel
theorem dX4_readNumber_91 : decode cX4_readNumber 91 = .ok (.invokevirtual 136, 3) := by decide +kernel
theorem dX4_readNumber_94 : decode cX4_readNumber 94 = .ok (.aload_n 0, 1) := by decide +kernel
theorem dX4_readNumber_95 : decode cX4_readNumber 95 = .ok (.getfield 22, 3) := by decide +kernel
theorem dX4_readNumber_98 : decode cX4_readNumber 98 = .ok (.iload_n 3, 1) := by decide +kernel
theorem dX4_readNumber_99 : decode cX4_readNumber 99 = .ok (.iconst 0, 1) := by decide +kernel
theorem dX4_readNumber_100 : decode cX4_readNumber 100 = .ok (.invokestatic 159, 3) := by decide +kernel
theorem dX4_readNumber_103 : decode cX4_readNumber 103 = .ok (.if_icmp .eq 4, 3) := by decide +kernel
theorem dX4_readNumber_106 : decode cX4_readNumber 106 = .ok (.return_, 1) := by decide +kernel
theorem dX4_readNumber_107 : decode cX4_readNumber 107 = .ok (.iinc 3 1, 3) := by decide +kernel
theorem dX4_readNumber_110 : decode cX4_readNumber 110 = .ok (.goto (-26), 3) := by decide +kernel
theorem dX4_readNumber_113 : decode cX4_readNumber 113 = .ok (.aload_n 0, 1) := by decide +kernel
theorem dX4_readNumber_114 : decode cX4_readNumber 114 = .ok (.aload_n 0, 1) := by decide +kernel
theorem dX4_readNumber_115 : decode cX4_readNumber 115 = .ok (.getfield 35, 3) := by decide +kernel
theorem dX4_readNumber_118 : decode cX4_readNumber 118 = .ok (.aload_n 0, 1) := by decide +kernel
theorem dX4_readNumber_119 : decode cX4_readNumber 119 = .ok (.getfield 18, 3) := by decide +kernel
theorem dX4_readNumber_122 : decode cX4_readNumber 122 = .ok (.getfield 78, 3) := by decide +kernel
theorem dX4_readNumber_125 : decode cX4_readNumber 125 = .ok (.invokevirtual 100, 3) := by decide +kernel
theorem dX4_readNumber_128 : decode cX4_readNumber 128 = .ok (.iload_n 2, 1) := by decide +kernel
theorem dX4_readNumber_129 : decode cX4_readNumber 129 = .ok (.iload_n 1, 1) := by decide +kernel
theorem dX4_readNumber_130 : decode cX4_readNumber 130 = .ok (.invokevirtual 163, 3) := by decide +kernel
theorem dX4_readNumber_133 : decode cX4_readNumber 133 = .ok (.return_, 1) := by decide +kernel
def is_X4_readNumber (Rt : np_Rt) : List (Nat × np_Op) := [(0, np_ald 1 0), (1, nw_getf 4 5), (4, np_ald 1 0), (5, nw_getf 4 1), (8, nw_getf 8 2), (11, nw_callV 2 2 sp_X2_b 2 0 0 0 0), (14, nw_ist 1 1), (15, np_push 1 (.int 0)), (16, nw_ist 1 2), (17, np_push 1 (.int 0)), (18, nw_ist 1 3), (19, np_ild 1 3), (20, np_ild 1 1), (21, nq_ic (fun x y => y ≤ x) 55), (24, np_ald 1 0), (25, np_ild 1 3), (26, nw_callV 4 2 sp_X4_ahead 2 0 0 0 0), (29, nq_call 1 sp_X11_isDigit 1 0 0 0 0), (32, nq_if (fun x => x = 0) 49), (35, np_push 2 (.int 10)), (37, np_ild 1 2), (38, np_ib (fun x y => x * y)), (39, np_ald 1 0), (40, np_ild 1 3), (41, nw_callV 4 2 sp_X4_ahead 2 0 0 0 0), (44, np_ib (fun x y => x + y)), (45, np_push 2 (.int 48)), (47, np_ib (fun x y => x - y)), (48, nw_ist 1 2), (49, nw_iinc 3 1), (52, np_goto 19), (55, np_ild 1 2), (56, np_ild 1 1), (57, np_ald 1 0), (58, nw_getf 4 5), (61, np_ald 1 0), (62, nw_getf 4 1), (65, nw_getf 8 2), (68, nw_callV 2 2 sp_X2_c 2 0 0 0 0), (71, np_ald 1 0), (72, nw_getf 4 2), (75, nq_call 4 sp_X11_layOutNumber 8 0 0 0 0), (78, nq_ifne 82), (81, np_ret Rt), (82, np_push 1 (.int 0)), (83, nw_ist 1 3), (84, np_ild 1 3), (85, np_ild 1 1), (86, nq_ic (fun x y => y ≤ x) 113), (89, np_ald 1 0), (90, np_ild 1 3), (91, nw_callV 4 2 sp_X4_ahead 2 0 0 0 0), (94, np_ald 1 0), (95, nw_getf 4 2), (98, np_ild 1 3), (99, np_push 1 (.int 0)), (100, nq_call 3 sp_X11_at 3 0 0 0 0), (103, nq_ic (fun x y => x = y) 107), (106, np_ret Rt), (107, nw_iinc 3 1), (110, np_goto 84), (113, np_ald 1 0), (114, np_ald 1 0), (115, nw_getf 4 5), (118, np_ald 1 0), (119, nw_getf 4 1), (122, nw_getf 8 2), (125, nw_callV 2 2 sp_X2_a 2 0 0 0 0), (128, np_ild 1 2), (129, np_ild 1 1), (130, nw_callV 4 4 sp_X4_keepWay 6 0 0 0 0), (133, np_ret Rt)]
set_option maxRecDepth 20000 in
theorem so_X4_readNumber {X : np_Ctx} {Rt : np_Rt} (hX : np_ok RX4 cX4_readNumber 4 4 130 0 0 .return_ X) (hR : ∀ st w ce sl, Rt st w ce sl → X.2.2.1 st w ce sl) : ∀ q ∈ is_X4_readNumber Rt, np_S X q.1 q.2 :=
  List.forall_mem_cons.mpr ⟨np_s_aload_n hX dX4_readNumber_0 rfl, List.forall_mem_cons.mpr ⟨np_S.mono (op := np_getf 4 5) (np_s_getf hX dX4_readNumber_1 (C := RX4) (T := TX4) (N := 11) rfl guX4 (by decide) gw228) nw_getf_le, List.forall_mem_cons.mpr ⟨np_s_aload_n hX dX4_readNumber_4 rfl, List.forall_mem_cons.mpr ⟨np_S.mono (op := np_getf 4 1) (np_s_getf hX dX4_readNumber_5 (C := RX4) (T := TX4) (N := 11) rfl guX4 (by decide) gw223) nw_getf_le, List.forall_mem_cons.mpr ⟨np_S.mono (op := np_getf 8 2) (np_s_getN hX dX4_readNumber_8 (C := RX8) (T := TX8) (N := 9) rfl guX8 (by decide) gw152) nw_getf_le, List.forall_mem_cons.mpr ⟨np_S.mono (op := np_callV 2 2 sp_X2_b 2 0 0 0 0) (np_s_callV hX C_X2_b dX4_readNumber_11 (q := (RX2, TX2, 5)) rfl rfl gw673 gw64 gw1023 gw671 gw672 ⟨by decide, by decide, by decide⟩ (by decide) (by decide)) nw_callV_le, List.forall_mem_cons.mpr ⟨np_S.mono (op := np_ist 1 1) (np_s_istore_n hX dX4_readNumber_14 rfl (by decide)) nw_ist_le, List.forall_mem_cons.mpr ⟨np_s_iconst hX dX4_readNumber_15 (by decide), List.forall_mem_cons.mpr ⟨np_S.mono (op := np_ist 1 2) (np_s_istore_n hX dX4_readNumber_16 rfl (by decide)) nw_ist_le, List.forall_mem_cons.mpr ⟨np_s_iconst hX dX4_readNumber_17 (by decide), List.forall_mem_cons.mpr ⟨np_S.mono (op := np_ist 1 3) (np_s_istore_n hX dX4_readNumber_18 rfl (by decide)) nw_ist_le, List.forall_mem_cons.mpr ⟨np_s_iload_n hX dX4_readNumber_19 rfl, List.forall_mem_cons.mpr ⟨np_s_iload_n hX dX4_readNumber_20 rfl, List.forall_mem_cons.mpr ⟨np_S.mono (op := np_ic (fun x y => y ≤ x) 55) (np_s_icmp_ge hX dX4_readNumber_21 (by decide)) nq_ic_le, List.forall_mem_cons.mpr ⟨np_s_aload_n hX dX4_readNumber_24 rfl, List.forall_mem_cons.mpr ⟨np_s_iload_n hX dX4_readNumber_25 rfl, List.forall_mem_cons.mpr ⟨np_S.mono (op := np_callV 4 2 sp_X4_ahead 2 0 0 0 0) (np_s_callV hX C_X4_ahead dX4_readNumber_26 (q := (RX4, TX4, 11)) rfl rfl gw1027 gw67 gw1024 gw1026 gw22 ⟨by decide, by decide, by decide⟩ (by decide) (by decide)) nw_callV_le, List.forall_mem_cons.mpr ⟨np_S.mono (op := np_call 1 sp_X11_isDigit 1 0 0 0 0) (np_s_callSN hX C_X11_isDigit dX4_readNumber_29 gw843 gw63 gw1029 gw842 ⟨by decide, by decide, by decide⟩ (by decide) (by decide)) nq_call_le, List.forall_mem_cons.mpr ⟨np_S.mono (op := np_if (fun x => x = 0) 49) (np_s_if_eq hX dX4_readNumber_32 (by decide)) nq_if_le, List.forall_mem_cons.mpr ⟨np_s_bipush hX dX4_readNumber_35 (by decide), List.forall_mem_cons.mpr ⟨np_s_iload_n hX dX4_readNumber_37 rfl, List.forall_mem_cons.mpr ⟨np_s_imul hX dX4_readNumber_38, List.forall_mem_cons.mpr ⟨np_s_aload_n hX dX4_readNumber_39 rfl, List.forall_mem_cons.mpr ⟨np_s_iload_n hX dX4_readNumber_40 rfl, List.forall_mem_cons.mpr ⟨np_S.mono (op := np_callV 4 2 sp_X4_ahead 2 0 0 0 0) (np_s_callV hX C_X4_ahead dX4_readNumber_41 (q := (RX4, TX4, 11)) rfl rfl gw1027 gw67 gw1024 gw1026 gw22 ⟨by decide, by decide, by decide⟩ (by decide) (by decide)) nw_callV_le, List.forall_mem_cons.mpr ⟨np_s_iadd hX dX4_readNumber_44, List.forall_mem_cons.mpr ⟨np_s_bipush hX dX4_readNumber_45 (by decide), List.forall_mem_cons.mpr ⟨np_s_isub hX dX4_readNumber_47, List.forall_mem_cons.mpr ⟨np_S.mono (op := np_ist 1 2) (np_s_istore_n hX dX4_readNumber_48 rfl (by decide)) nw_ist_le, List.forall_mem_cons.mpr ⟨np_S.mono (op := np_iinc 3 1) (np_s_iinc hX dX4_readNumber_49 (by decide)) nw_iinc_le, List.forall_mem_cons.mpr ⟨np_s_goto hX dX4_readNumber_52 (by decide), List.forall_mem_cons.mpr ⟨np_s_iload_n hX dX4_readNumber_55 rfl, List.forall_mem_cons.mpr ⟨np_s_iload_n hX dX4_readNumber_56 rfl, List.forall_mem_cons.mpr ⟨np_s_aload_n hX dX4_readNumber_57 rfl, List.forall_mem_cons.mpr ⟨np_S.mono (op := np_getf 4 5) (np_s_getf hX dX4_readNumber_58 (C := RX4) (T := TX4) (N := 11) rfl guX4 (by decide) gw228) nw_getf_le, List.forall_mem_cons.mpr ⟨np_s_aload_n hX dX4_readNumber_61 rfl, List.forall_mem_cons.mpr ⟨np_S.mono (op := np_getf 4 1) (np_s_getf hX dX4_readNumber_62 (C := RX4) (T := TX4) (N := 11) rfl guX4 (by decide) gw223) nw_getf_le, List.forall_mem_cons.mpr ⟨np_S.mono (op := np_getf 8 2) (np_s_getN hX dX4_readNumber_65 (C := RX8) (T := TX8) (N := 9) rfl guX8 (by decide) gw152) nw_getf_le, List.forall_mem_cons.mpr ⟨np_S.mono (op := np_callV 2 2 sp_X2_c 2 0 0 0 0) (np_s_callV hX C_X2_c dX4_readNumber_68 (q := (RX2, TX2, 5)) rfl rfl gw690 gw64 gw1030 gw688 gw689 ⟨by decide, by decide, by decide⟩ (by decide) (by decide)) nw_callV_le, List.forall_mem_cons.mpr ⟨np_s_aload_n hX dX4_readNumber_71 rfl, List.forall_mem_cons.mpr ⟨np_S.mono (op := np_getf 4 2) (np_s_getf hX dX4_readNumber_72 (C := RX4) (T := TX4) (N := 11) rfl guX4 (by decide) gw225) nw_getf_le, List.forall_mem_cons.mpr ⟨np_S.mono (op := np_call 4 sp_X11_layOutNumber 8 0 0 0 0) (np_s_callSN hX C_X11_layOutNumber dX4_readNumber_75 gw829 gw63 gw1031 gw828 ⟨by decide, by decide, by decide⟩ (by decide) (by decide)) nq_call_le, List.forall_mem_cons.mpr ⟨np_S.mono (op := np_ifne 82) (np_s_if_ne hX dX4_readNumber_78 (by decide)) nq_ifne_le, List.forall_mem_cons.mpr ⟨np_S.mono (op := np_ret X.2.2.1) (np_s_ret hX dX4_readNumber_81) (nq_ret_le hR), List.forall_mem_cons.mpr ⟨np_s_iconst hX dX4_readNumber_82 (by decide), List.forall_mem_cons.mpr ⟨np_S.mono (op := np_ist 1 3) (np_s_istore_n hX dX4_readNumber_83 rfl (by decide)) nw_ist_le, List.forall_mem_cons.mpr ⟨np_s_iload_n hX dX4_readNumber_84 rfl, List.forall_mem_cons.mpr ⟨np_s_iload_n hX dX4_readNumber_85 rfl, List.forall_mem_cons.mpr ⟨np_S.mono (op := np_ic (fun x y => y ≤ x) 113) (np_s_icmp_ge hX dX4_readNumber_86 (by decide)) nq_ic_le, List.forall_mem_cons.mpr ⟨np_s_aload_n hX dX4_readNumber_89 rfl, List.forall_mem_cons.mpr ⟨np_s_iload_n hX dX4_readNumber_90 rfl, List.forall_mem_cons.mpr ⟨np_S.mono (op := np_callV 4 2 sp_X4_ahead 2 0 0 0 0) (np_s_callV hX C_X4_ahead dX4_readNumber_91 (q := (RX4, TX4, 11)) rfl rfl gw1027 gw67 gw1024 gw1026 gw22 ⟨by decide, by decide, by decide⟩ (by decide) (by decide)) nw_callV_le, List.forall_mem_cons.mpr ⟨np_s_aload_n hX dX4_readNumber_94 rfl, List.forall_mem_cons.mpr ⟨np_S.mono (op := np_getf 4 2) (np_s_getf hX dX4_readNumber_95 (C := RX4) (T := TX4) (N := 11) rfl guX4 (by decide) gw225) nw_getf_le, List.forall_mem_cons.mpr ⟨np_s_iload_n hX dX4_readNumber_98 rfl, List.forall_mem_cons.mpr ⟨np_s_iconst hX dX4_readNumber_99 (by decide), List.forall_mem_cons.mpr ⟨np_S.mono (op := np_call 3 sp_X11_at 3 0 0 0 0) (np_s_callSN hX C_X11_at dX4_readNumber_100 gw653 gw63 gw1032 gw652 ⟨by decide, by decide, by decide⟩ (by decide) (by decide)) nq_call_le, List.forall_mem_cons.mpr ⟨np_S.mono (op := np_ic (fun x y => x = y) 107) (np_s_icmp_eq hX dX4_readNumber_103 (by decide)) nq_ic_le, List.forall_mem_cons.mpr ⟨np_S.mono (op := np_ret X.2.2.1) (np_s_ret hX dX4_readNumber_106) (nq_ret_le hR), List.forall_mem_cons.mpr ⟨np_S.mono (op := np_iinc 3 1) (np_s_iinc hX dX4_readNumber_107 (by decide)) nw_iinc_le, List.forall_mem_cons.mpr ⟨np_s_goto hX dX4_readNumber_110 (by decide), List.forall_mem_cons.mpr ⟨np_s_aload_n hX dX4_readNumber_113 rfl, List.forall_mem_cons.mpr ⟨np_s_aload_n hX dX4_readNumber_114 rfl, List.forall_mem_cons.mpr ⟨np_S.mono (op := np_getf 4 5) (np_s_getf hX dX4_readNumber_115 (C := RX4) (T := TX4) (N := 11) rfl guX4 (by decide) gw228) nw_getf_le, List.forall_mem_cons.mpr ⟨np_s_aload_n hX dX4_readNumber_118 rfl, List.forall_mem_cons.mpr ⟨np_S.mono (op := np_getf 4 1) (np_s_getf hX dX4_readNumber_119 (C := RX4) (T := TX4) (N := 11) rfl guX4 (by decide) gw223) nw_getf_le, List.forall_mem_cons.mpr ⟨np_S.mono (op := np_getf 8 2) (np_s_getN hX dX4_readNumber_122 (C := RX8) (T := TX8) (N := 9) rfl guX8 (by decide) gw152) nw_getf_le, List.forall_mem_cons.mpr ⟨np_S.mono (op := np_callV 2 2 sp_X2_a 2 0 0 0 0) (np_s_callV hX C_X2_a dX4_readNumber_125 (q := (RX2, TX2, 5)) rfl rfl gw657 gw64 gw1033 gw655 gw656 ⟨by decide, by decide, by decide⟩ (by decide) (by decide)) nw_callV_le, List.forall_mem_cons.mpr ⟨np_s_iload_n hX dX4_readNumber_128 rfl, List.forall_mem_cons.mpr ⟨np_s_iload_n hX dX4_readNumber_129 rfl, List.forall_mem_cons.mpr ⟨np_S.mono (op := np_callV 4 4 sp_X4_keepWay 6 0 0 0 0) (np_s_callV hX C_X4_keepWay dX4_readNumber_130 (q := (RX4, TX4, 11)) rfl rfl gw1037 gw67 gw1034 gw1036 gw23 ⟨by decide, by decide, by decide⟩ (by decide) (by decide)) nw_callV_le, List.forall_mem_cons.mpr ⟨np_S.mono (op := np_ret X.2.2.1) (np_s_ret hX dX4_readNumber_133) (nq_ret_le hR), fun _ h => nomatch h⟩⟩⟩⟩⟩⟩⟩⟩⟩⟩⟩⟩⟩⟩⟩⟩⟩⟩⟩⟩⟩⟩⟩⟩⟩⟩⟩⟩⟩⟩⟩⟩⟩⟩⟩⟩⟩⟩⟩⟩⟩⟩⟩⟩⟩⟩⟩⟩⟩⟩⟩⟩⟩⟩⟩⟩⟩⟩⟩⟩⟩⟩⟩⟩⟩⟩⟩⟩⟩⟩⟩⟩
noncomputable def m_X4_readNumber_84 : Nat → pw_S → Nat → Int32 → Int32 → Int32 → pw_R Unit
| 0, _, _, _, _, _ => none
| N + 1, S, v0, v1, v2, v3 =>
 if v1 ≤ v3 then
 (pw_b (m_X2_a S (pw_dn 8 (S 59 v0 5)) (S 50 407 2)) fun S1 r4 =>
 pw_b (m_X4_keepWay S1 v0 r4 v2 v1) fun S6 r9 =>
 some (S6, ()))
 else
 (pw_b (m_X4_ahead S v0 v3) fun S11 r14 =>
 pw_b (m_X11_at S11 30 0 v3 0) fun S16 r19 =>
 if r14 = r19 then
 (pw_l (v3 + 1 : Int32) fun z21 =>
 m_X4_readNumber_84 N S16 v0 v1 v2 z21)
 else
 (some (S16, ())))
set_option maxRecDepth 100000 in
set_option maxHeartbeats 8000000 in
theorem L_X4_readNumber_84 {X : np_Ctx} (hX : np_ok RX4 cX4_readNumber 4 4 130 0 0 .return_ X) {Q : Option Value → np_W → Prop} {q n : Nat} (hR : ∀ st w ce sl, np_rt none 0 0 Q st w ce sl → X.2.2.1 st w ce sl) : ∀ (N : Nat) (S : pw_S) (v0 : Nat) (v1 : Int32) (v2 : Int32) (v3 : Int32) (f : Nat → Option np_E) (hv0 : pw_ok q 59 v0 = true), pw_W q (n, f) S → pw_p (m_X4_readNumber_84 N S v0 v1 v2 v3) (fun S' r => ∀ f', pw_W q (n, f') S' → Q none (n, f')) → np_G X 84 [(0, .ref (pw_pl 59 v0)), (1, .int v1), (2, .int v2), (3, .int v3)] [] (n, f) 0 0 := by
  intro N
  induction N with
  | zero =>
    intro S v0 v1 v2 v3 f hv0 hW h
    exact (pw_pn h).elim
  | succ N ih =>
    intro S v0 v1 v2 v3 f hv0 hW h
    unfold m_X4_readNumber_84 at h
    refine np_soundW (so_X4_readNumber hX hR) [19, 84] 400 84 _ _ _ _ _ ?_
    conv => whnf
    refine pw_br h (fun _ h => ?_) (fun _ h => ?_)
    · conv => whnf
      refine np_rd_i (hW.g hv0) ?_
      conv => whnf
      refine np_rd_i (hW.g hv0) ?_
      conv => whnf
      refine np_rd_i (hW.g rfl) ?_
      conv => whnf
      refine np_rd_i (hW.g (pw_okd (a := 51) (n := 8) rfl rfl rfl)) ?_
      conv => whnf
      refine ⟨q, S, (pw_dn 8 (S 59 v0 5)), (S 50 407 2), rfl, (pw_okd (a := 51) (n := 8) rfl rfl rfl), hW, pw_bd h (fun S1 r4 h f2 hW3 => ?_)⟩
      conv => whnf
      refine np_rd_i (hW3.g hv0) ?_
      conv => whnf
      refine ⟨q, S1, v0, r4, v2, v1, rfl, hv0, hW3, pw_bd h (fun S6 r9 h f7 hW8 => ?_)⟩
      conv => whnf
      exact ⟨Nat.le_of_ble_eq_true rfl, Nat.le_of_ble_eq_true rfl, rfl, _, fun _ _ h9 => h9, pw_ps h _ hW8⟩
    · conv => whnf
      refine np_rd_i (hW.g hv0) ?_
      conv => whnf
      refine ⟨q, S, v0, v3, rfl, hv0, hW, pw_bd h (fun S11 r14 h f12 hW13 => ?_)⟩
      conv => whnf
      refine np_rd_i (hW13.g hv0) ?_
      conv => whnf
      refine ⟨q, S11, 30, 0, v3, 0, rfl, rfl, rfl, hW13, pw_bd h (fun S16 r19 h f17 hW18 => ?_)⟩
      conv => whnf
      refine pw_br h (fun _ h => ?_) (fun _ h => ?_)
      · conv => whnf
        refine pw_st h (fun z21 h => ?_)
        conv => whnf
        exact np_gl (ih S16 v0 v1 v2 z21 f17 hv0 hW18 h) ⟨rfl, rfl, rfl, rfl, trivial⟩
      · conv => whnf
        exact ⟨Nat.le_of_ble_eq_true rfl, Nat.le_of_ble_eq_true rfl, rfl, _, fun _ _ h9 => h9, pw_ps h _ hW18⟩
noncomputable def m_X4_readNumber_19 (k55 : pw_S → Nat → Int32 → Int32 → pw_R Unit) : Nat → pw_S → Nat → Int32 → Int32 → Int32 → pw_R Unit
| 0, _, _, _, _, _ => none
| N + 1, S, v0, v1, v2, v3 =>
 if v1 ≤ v3 then
 (k55 S v0 v1 v2)
 else
 (pw_b (m_X4_ahead S v0 v3) fun S22 r25 =>
 pw_b (m_X11_isDigit S22 r25) fun S27 r30 =>
 if r30 = 0 then
 (pw_l (v3 + 1 : Int32) fun z32 =>
 m_X4_readNumber_19 k55 N S27 v0 v1 v2 z32)
 else
 (pw_b (m_X4_ahead S27 v0 v3) fun S33 r36 =>
 pw_l ((((10 * v2) + r36) - 48) : Int32) fun z38 =>
 pw_l (v3 + 1 : Int32) fun z39 =>
 m_X4_readNumber_19 k55 N S33 v0 v1 z38 z39))
set_option maxRecDepth 100000 in
set_option maxHeartbeats 8000000 in
theorem L_X4_readNumber_19 {X : np_Ctx} (hX : np_ok RX4 cX4_readNumber 4 4 130 0 0 .return_ X) {Q : Option Value → np_W → Prop} {q n : Nat} (hR : ∀ st w ce sl, np_rt none 0 0 Q st w ce sl → X.2.2.1 st w ce sl) {k55 : pw_S → Nat → Int32 → Int32 → pw_R Unit} (hk55 : ∀ (S : pw_S) (v0 : Nat) (v1 : Int32) (v2 : Int32) (f : Nat → Option np_E) (hv0 : pw_ok q 59 v0 = true), pw_W q (n, f) S → pw_p (k55 S v0 v1 v2) (fun S' r => ∀ f', pw_W q (n, f') S' → Q none (n, f')) → np_G X 55 [(0, .ref (pw_pl 59 v0)), (1, .int v1), (2, .int v2)] [] (n, f) 0 0) : ∀ (N : Nat) (S : pw_S) (v0 : Nat) (v1 : Int32) (v2 : Int32) (v3 : Int32) (f : Nat → Option np_E) (hv0 : pw_ok q 59 v0 = true), pw_W q (n, f) S → pw_p (m_X4_readNumber_19 k55 N S v0 v1 v2 v3) (fun S' r => ∀ f', pw_W q (n, f') S' → Q none (n, f')) → np_G X 19 [(0, .ref (pw_pl 59 v0)), (1, .int v1), (2, .int v2), (3, .int v3)] [] (n, f) 0 0 := by
  intro N
  induction N with
  | zero =>
    intro S v0 v1 v2 v3 f hv0 hW h
    exact (pw_pn h).elim
  | succ N ih =>
    intro S v0 v1 v2 v3 f hv0 hW h
    unfold m_X4_readNumber_19 at h
    refine np_soundW (so_X4_readNumber hX hR) [19, 55, 84] 400 19 _ _ _ _ _ ?_
    conv => whnf
    refine pw_br h (fun _ h => ?_) (fun _ h => ?_)
    · conv => whnf
      exact np_gl (hk55 S v0 v1 v2 f hv0 hW h) ⟨rfl, rfl, rfl, trivial⟩
    · conv => whnf
      refine np_rd_i (hW.g hv0) ?_
      conv => whnf
      refine ⟨q, S, v0, v3, rfl, hv0, hW, pw_bd h (fun S22 r25 h f23 hW24 => ?_)⟩
      conv => whnf
      refine ⟨q, S22, r25, rfl, hW24, pw_bd h (fun S27 r30 h f28 hW29 => ?_)⟩
      conv => whnf
      refine pw_br h (fun _ h => ?_) (fun _ h => ?_)
      · conv => whnf
        refine pw_st h (fun z32 h => ?_)
        conv => whnf
        exact np_gl (ih S27 v0 v1 v2 z32 f28 hv0 hW29 h) ⟨rfl, rfl, rfl, rfl, trivial⟩
      · conv => whnf
        refine np_rd_i (hW29.g hv0) ?_
        conv => whnf
        refine ⟨q, S27, v0, v3, rfl, hv0, hW29, pw_bd h (fun S33 r36 h f34 hW35 => ?_)⟩
        conv => whnf
        refine pw_st h (fun z38 h => ?_)
        conv => whnf
        refine pw_st h (fun z39 h => ?_)
        conv => whnf
        exact np_gl (ih S33 v0 v1 z38 z39 f34 hv0 hW35 h) ⟨rfl, rfl, rfl, rfl, trivial⟩
noncomputable def m_X4_readNumber (S : pw_S) (i0 : Nat) : pw_R Unit :=
 pw_b (m_X2_b S (pw_dn 8 (S 59 i0 5)) (S 50 407 2)) fun S40 r43 =>
 pw_l (r43 : Int32) fun z45 =>
 pw_l (0 : Int32) fun z46 =>
 pw_l (0 : Int32) fun z47 =>
 m_X4_readNumber_19
 (fun S52 u48 u50 u51 =>
 (pw_b (m_X2_c S52 (pw_dn 8 (S52 59 u48 5)) (S52 50 407 2)) fun S55 r58 =>
 pw_b (m_X11_layOutNumber S55 u51 u50 r58 30 0) fun S60 r63 =>
 if r63 = 0 then
 (some (S60, ()))
 else
 (pw_l (0 : Int32) fun z65 =>
 m_X4_readNumber_84 (pw_F 20000) S60 u48 u50 u51 z65))) (pw_F 20000) S40 i0 z45 z46 z47
def sp_X4_readNumber : np_Sp := fun vs w Q => ∃ (q : Nat) (S : pw_S) (i0 : Nat), vs = [.ref (pw_pl 59 i0)] ∧ pw_ok q 59 i0 = true ∧ pw_W q w S ∧ pw_p (m_X4_readNumber S i0) (fun S' r => ∀ f', pw_W q (w.1, f') S' → Q none (w.1, f'))
set_option maxRecDepth 100000 in
set_option maxHeartbeats 8000000 in
theorem C_X4_readNumber : np_C yX4_readNumber cX4_readNumber 4 none 4 130 0 0 sp_X4_readNumber := by
  refine np_of (by decide) ?_
  intro X vs w Q hsp hX hmn hRt hlt
  obtain ⟨q, S, i0, rfl, hi0, hW, h⟩ := hsp
  obtain ⟨n, f⟩ := w
  unfold m_X4_readNumber at h
  have hR : ∀ st w ce sl, np_rt none 0 0 Q st w ce sl → X.2.2.1 st w ce sl := fun _ _ _ _ h => by rw [hRt]; exact h
  refine np_soundW (so_X4_readNumber hX hR) [19, 84] 400 0 _ _ _ _ _ ?_
  conv => whnf
  refine np_rd_i (hW.g hi0) ?_
  conv => whnf
  refine np_rd_i (hW.g hi0) ?_
  conv => whnf
  refine np_rd_i (hW.g rfl) ?_
  conv => whnf
  refine np_rd_i (hW.g (pw_okd (a := 51) (n := 8) rfl rfl rfl)) ?_
  conv => whnf
  refine ⟨q, S, (pw_dn 8 (S 59 i0 5)), (S 50 407 2), rfl, (pw_okd (a := 51) (n := 8) rfl rfl rfl), hW, pw_bd h (fun S40 r43 h f41 hW42 => ?_)⟩
  conv => whnf
  refine pw_st h (fun z45 h => ?_)
  conv => whnf
  refine pw_st h (fun z46 h => ?_)
  conv => whnf
  refine pw_st h (fun z47 h => ?_)
  conv => whnf
  refine np_gl (L_X4_readNumber_19 hX hR (fun S52 u48 u50 u51 f53 ho49 hW54 h => ?_) (pw_F 20000) S40 i0 z45 z46 z47 f41 hi0 hW42 h) ⟨rfl, rfl, rfl, rfl, trivial⟩
  · refine np_soundW (so_X4_readNumber hX hR) [19, 84] 400 55 _ _ _ _ _ ?_
    conv => whnf
    refine np_rd_i (hW54.g ho49) ?_
    conv => whnf
    refine np_rd_i (hW54.g ho49) ?_
    conv => whnf
    refine np_rd_i (hW54.g rfl) ?_
    conv => whnf
    refine np_rd_i (hW54.g (pw_okd (a := 51) (n := 8) rfl rfl rfl)) ?_
    conv => whnf
    refine ⟨q, S52, (pw_dn 8 (S52 59 u48 5)), (S52 50 407 2), rfl, (pw_okd (a := 51) (n := 8) rfl rfl rfl), hW54, pw_bd h (fun S55 r58 h f56 hW57 => ?_)⟩
    conv => whnf
    refine np_rd_i (hW57.g ho49) ?_
    conv => whnf
    refine ⟨q, S55, u51, u50, r58, 30, 0, rfl, rfl, rfl, hW57, pw_bd h (fun S60 r63 h f61 hW62 => ?_)⟩
    conv => whnf
    refine pw_br h (fun _ h => ?_) (fun _ h => ?_)
    · conv => whnf
      exact ⟨Nat.le_of_ble_eq_true rfl, Nat.le_of_ble_eq_true rfl, rfl, _, fun _ _ h9 => h9, pw_ps h _ hW62⟩
    · conv => whnf
      refine pw_st h (fun z65 h => ?_)
      conv => whnf
      exact np_gl (L_X4_readNumber_84 hX hR (pw_F 20000) S60 u48 u50 u51 z65 f61 ho49 hW62 h) ⟨rfl, rfl, rfl, rfl, trivial⟩
