theorem gw69 : (Jvm.Cond.selects "NotationPressModel" ({ cls := "NotationPressModel", name := "recorded", desc := "(II)I" } : Jvm.MethodName) ({ cls := "NotationPressModel", name := "recorded", desc := "(II)I" } : Jvm.MethodName)) ∈ np_gw := np_gwi 69 (by decide +kernel) rfl
theorem gw90 : (Jvm.Cond.selects "NotationPressModel" ({ cls := "NotationPressModel", name := "types", desc := "(II)V" } : Jvm.MethodName) ({ cls := "NotationPressModel", name := "types", desc := "(II)V" } : Jvm.MethodName)) ∈ np_gw := np_gwi 90 (by decide +kernel) rfl
theorem gw92 : (Jvm.Cond.selects "NotationPressModel" ({ cls := "NotationPressModel", name := "isPlace", desc := "(III)Z" } : Jvm.MethodName) ({ cls := "NotationPressModel", name := "isPlace", desc := "(III)Z" } : Jvm.MethodName)) ∈ np_gw := np_gwi 92 (by decide +kernel) rfl
theorem gw112 : (Jvm.Cond.selects "NotationPressModel" ({ cls := "NotationPressModel", name := "isDerived", desc := "(II)Z" } : Jvm.MethodName) ({ cls := "NotationPressModel", name := "isDerived", desc := "(II)Z" } : Jvm.MethodName)) ∈ np_gw := np_gwi 112 (by decide +kernel) rfl
theorem gw115 : (Jvm.Cond.selects "NotationPressModel" ({ cls := "NotationPressModel", name := "clearsCodes", desc := "()V" } : Jvm.MethodName) ({ cls := "NotationPressModel", name := "clearsCodes", desc := "()V" } : Jvm.MethodName)) ∈ np_gw := np_gwi 115 (by decide +kernel) rfl
theorem gw117 : (Jvm.Cond.selects "NotationPressModel" ({ cls := "NotationPressModel", name := "isUpgrade", desc := "(I)Z" } : Jvm.MethodName) ({ cls := "NotationPressModel", name := "isUpgrade", desc := "(I)Z" } : Jvm.MethodName)) ∈ np_gw := np_gwi 117 (by decide +kernel) rfl
theorem gw127 : (Jvm.Cond.selects "NotationPressModel" ({ cls := "NotationPressModel", name := "isFound", desc := "(III)Z" } : Jvm.MethodName) ({ cls := "NotationPressModel", name := "isFound", desc := "(III)Z" } : Jvm.MethodName)) ∈ np_gw := np_gwi 127 (by decide +kernel) rfl
theorem gw128 : (Jvm.Cond.selects "NotationPressModel" ({ cls := "NotationPressModel", name := "findsRow", desc := "(IIII)I" } : Jvm.MethodName) ({ cls := "NotationPressModel", name := "findsRow", desc := "(IIII)I" } : Jvm.MethodName)) ∈ np_gw := np_gwi 128 (by decide +kernel) rfl
theorem gw1636 : (Jvm.Cond.fieldLink "NotationPressModel" (199 : Nat) "NotationPressModel" "drafted" "I") ∈ np_gw := np_gwi 1636 (by decide +kernel) rfl
theorem gw1688 : (Jvm.Cond.fieldLink "NotationPressModel" (226 : Nat) "NotationPressModel" "valueHas" "I") ∈ np_gw := np_gwi 1688 (by decide +kernel) rfl
theorem gw1694 : (Jvm.Cond.fieldLink "NotationPressModel" (413 : Nat) "NotationPressModel" "end" "I") ∈ np_gw := np_gwi 1694 (by decide +kernel) rfl
theorem gw1706 : (Jvm.Cond.fieldLink "NotationPressModel" (260 : Nat) "NotationPressModel" "printed" "I") ∈ np_gw := np_gwi 1706 (by decide +kernel) rfl
theorem gw1710 : (Jvm.Cond.fieldLink "NotationPressModel" (309 : Nat) "NotationPressModel" "seed" "J") ∈ np_gw := np_gwi 1710 (by decide +kernel) rfl
theorem gw1884 : (Jvm.Cond.methodLink "NotationPressModel" (195 : Nat) ({ cls := "NotationPressModel", name := "isRight", desc := "(IIII)Z" } : Jvm.MethodName)) ∈ np_gw := np_gwi 1884 (by decide +kernel) rfl
theorem gw1885 : (Jvm.Cond.static ({ cls := "NotationPressModel", name := "isRight", desc := "(IIII)Z" } : Jvm.MethodName)) ∈ np_gw := np_gwi 1885 (by decide +kernel) rfl
theorem gw1886 : (Jvm.Cond.code ({ cls := "NotationPressModel", name := "isRight", desc := "(IIII)Z" } : Jvm.MethodName) prog_14_method_10_code (4 : Nat) (Option.some Jvm.ClassFile.FieldType.boolean)) ∈ np_gw := np_gwi 1886 (by decide +kernel) rfl
theorem gw1934 : (Jvm.Cond.methodLink "NotationPressModel" (239 : Nat) ({ cls := "NotationPressModel", name := "isValue", desc := "(II)Z" } : Jvm.MethodName)) ∈ np_gw := np_gwi 1934 (by decide +kernel) rfl
theorem gw1935 : (Jvm.Cond.static ({ cls := "NotationPressModel", name := "isValue", desc := "(II)Z" } : Jvm.MethodName)) ∈ np_gw := np_gwi 1935 (by decide +kernel) rfl
theorem gw1936 : (Jvm.Cond.code ({ cls := "NotationPressModel", name := "isValue", desc := "(II)Z" } : Jvm.MethodName) prog_14_method_22_code (2 : Nat) (Option.some Jvm.ClassFile.FieldType.boolean)) ∈ np_gw := np_gwi 1936 (by decide +kernel) rfl
theorem gw1937 : (Jvm.Cond.methodLink "NotationPressModel" (242 : Nat) ({ cls := "NotationPressModel", name := "recorded", desc := "(II)I" } : Jvm.MethodName)) ∈ np_gw := np_gwi 1937 (by decide +kernel) rfl
theorem gw1939 : (Jvm.Cond.instanceMethod ({ cls := "NotationPressModel", name := "recorded", desc := "(II)I" } : Jvm.MethodName)) ∈ np_gw := np_gwi 1939 (by decide +kernel) rfl
theorem gw1940 : (Jvm.Cond.code ({ cls := "NotationPressModel", name := "recorded", desc := "(II)I" } : Jvm.MethodName) prog_14_method_23_code (4 : Nat) (Option.some Jvm.ClassFile.FieldType.int)) ∈ np_gw := np_gwi 1940 (by decide +kernel) rfl
theorem gw1965 : (Jvm.Cond.constant "NotationPressModel" (346 : Nat) (1000000 : Int32)) ∈ np_gw := np_gwi 1965 (by decide +kernel) rfl
theorem gw2063 : (Jvm.Cond.methodLink "NotationPressModel" (359 : Nat) ({ cls := "NotationPressModel", name := "areChars", desc := "(I)Z" } : Jvm.MethodName)) ∈ np_gw := np_gwi 2063 (by decide +kernel) rfl
theorem gw2064 : (Jvm.Cond.static ({ cls := "NotationPressModel", name := "areChars", desc := "(I)Z" } : Jvm.MethodName)) ∈ np_gw := np_gwi 2064 (by decide +kernel) rfl
theorem gw2065 : (Jvm.Cond.code ({ cls := "NotationPressModel", name := "areChars", desc := "(I)Z" } : Jvm.MethodName) prog_14_method_51_code (4 : Nat) (Option.some Jvm.ClassFile.FieldType.boolean)) ∈ np_gw := np_gwi 2065 (by decide +kernel) rfl
theorem gw2066 : (Jvm.Cond.methodLink "NotationPressModel" (362 : Nat) ({ cls := "NotationPressModel", name := "types", desc := "(II)V" } : Jvm.MethodName)) ∈ np_gw := np_gwi 2066 (by decide +kernel) rfl
theorem gw2068 : (Jvm.Cond.instanceMethod ({ cls := "NotationPressModel", name := "types", desc := "(II)V" } : Jvm.MethodName)) ∈ np_gw := np_gwi 2068 (by decide +kernel) rfl
theorem gw2069 : (Jvm.Cond.code ({ cls := "NotationPressModel", name := "types", desc := "(II)V" } : Jvm.MethodName) prog_14_method_52_code (3 : Nat) (Option.none : Option Jvm.ClassFile.FieldType)) ∈ np_gw := np_gwi 2069 (by decide +kernel) rfl
theorem gw2090 : (Jvm.Cond.methodLink "NotationPressModel" (422 : Nat) ({ cls := "NotationPressModel", name := "isPlace", desc := "(III)Z" } : Jvm.MethodName)) ∈ np_gw := np_gwi 2090 (by decide +kernel) rfl
theorem gw2092 : (Jvm.Cond.instanceMethod ({ cls := "NotationPressModel", name := "isPlace", desc := "(III)Z" } : Jvm.MethodName)) ∈ np_gw := np_gwi 2092 (by decide +kernel) rfl
theorem gw2093 : (Jvm.Cond.code ({ cls := "NotationPressModel", name := "isPlace", desc := "(III)Z" } : Jvm.MethodName) prog_14_method_69_code (4 : Nat) (Option.some Jvm.ClassFile.FieldType.boolean)) ∈ np_gw := np_gwi 2093 (by decide +kernel) rfl
theorem gw2210 : (Jvm.Cond.methodLink "NotationPressModel" (453 : Nat) ({ cls := "NotationPressModel", name := "isDerived", desc := "(II)Z" } : Jvm.MethodName)) ∈ np_gw := np_gwi 2210 (by decide +kernel) rfl
theorem gw2212 : (Jvm.Cond.instanceMethod ({ cls := "NotationPressModel", name := "isDerived", desc := "(II)Z" } : Jvm.MethodName)) ∈ np_gw := np_gwi 2212 (by decide +kernel) rfl
theorem gw2213 : (Jvm.Cond.code ({ cls := "NotationPressModel", name := "isDerived", desc := "(II)Z" } : Jvm.MethodName) prog_14_method_89_code (3 : Nat) (Option.some Jvm.ClassFile.FieldType.boolean)) ∈ np_gw := np_gwi 2213 (by decide +kernel) rfl
theorem gw2234 : (Jvm.Cond.methodLink "NotationPressModel" (465 : Nat) ({ cls := "NotationPressModel", name := "clearsCodes", desc := "()V" } : Jvm.MethodName)) ∈ np_gw := np_gwi 2234 (by decide +kernel) rfl
theorem gw2236 : (Jvm.Cond.instanceMethod ({ cls := "NotationPressModel", name := "clearsCodes", desc := "()V" } : Jvm.MethodName)) ∈ np_gw := np_gwi 2236 (by decide +kernel) rfl
theorem gw2237 : (Jvm.Cond.code ({ cls := "NotationPressModel", name := "clearsCodes", desc := "()V" } : Jvm.MethodName) prog_14_method_95_code (2 : Nat) (Option.none : Option Jvm.ClassFile.FieldType)) ∈ np_gw := np_gwi 2237 (by decide +kernel) rfl
theorem gw2246 : (Jvm.Cond.methodLink "NotationPressModel" (471 : Nat) ({ cls := "NotationPressModel", name := "isUpgrade", desc := "(I)Z" } : Jvm.MethodName)) ∈ np_gw := np_gwi 2246 (by decide +kernel) rfl
theorem gw2248 : (Jvm.Cond.instanceMethod ({ cls := "NotationPressModel", name := "isUpgrade", desc := "(I)Z" } : Jvm.MethodName)) ∈ np_gw := np_gwi 2248 (by decide +kernel) rfl
theorem gw2249 : (Jvm.Cond.code ({ cls := "NotationPressModel", name := "isUpgrade", desc := "(I)Z" } : Jvm.MethodName) prog_14_method_97_code (2 : Nat) (Option.some Jvm.ClassFile.FieldType.boolean)) ∈ np_gw := np_gwi 2249 (by decide +kernel) rfl
theorem gw2286 : (Jvm.Cond.constantLong "NotationPressModel" (495 : Nat) (100 : Int64)) ∈ np_gw := np_gwi 2286 (by decide +kernel) rfl
theorem gw2290 : (Jvm.Cond.constantLong "NotationPressModel" (501 : Nat) (-2147483648 : Int64)) ∈ np_gw := np_gwi 2290 (by decide +kernel) rfl
theorem gw2311 : (Jvm.Cond.methodLink "NotationPressModel" (509 : Nat) ({ cls := "NotationPressModel", name := "isFound", desc := "(III)Z" } : Jvm.MethodName)) ∈ np_gw := np_gwi 2311 (by decide +kernel) rfl
theorem gw2313 : (Jvm.Cond.instanceMethod ({ cls := "NotationPressModel", name := "isFound", desc := "(III)Z" } : Jvm.MethodName)) ∈ np_gw := np_gwi 2313 (by decide +kernel) rfl
theorem gw2314 : (Jvm.Cond.code ({ cls := "NotationPressModel", name := "isFound", desc := "(III)Z" } : Jvm.MethodName) prog_14_method_114_code (4 : Nat) (Option.some Jvm.ClassFile.FieldType.boolean)) ∈ np_gw := np_gwi 2314 (by decide +kernel) rfl
theorem gw2315 : (Jvm.Cond.methodLink "NotationPressModel" (512 : Nat) ({ cls := "NotationPressModel", name := "findsRow", desc := "(IIII)I" } : Jvm.MethodName)) ∈ np_gw := np_gwi 2315 (by decide +kernel) rfl
theorem gw2317 : (Jvm.Cond.instanceMethod ({ cls := "NotationPressModel", name := "findsRow", desc := "(IIII)I" } : Jvm.MethodName)) ∈ np_gw := np_gwi 2317 (by decide +kernel) rfl
theorem gw2318 : (Jvm.Cond.code ({ cls := "NotationPressModel", name := "findsRow", desc := "(IIII)I" } : Jvm.MethodName) prog_14_method_113_code (9 : Nat) (Option.some Jvm.ClassFile.FieldType.int)) ∈ np_gw := np_gwi 2318 (by decide +kernel) rfl
theorem dX12_item_0 : decode cX12_item 0 = .ok (.iload_n 1, 1) := by decide +kernel
theorem dX12_item_1 : decode cX12_item 1 = .ok (.iconst 0, 1) := by decide +kernel
theorem dX12_item_2 : decode cX12_item 2 = .ok (.bipush 9, 2) := by decide +kernel
theorem dX12_item_4 : decode cX12_item 4 = .ok (.invokestatic 184, 3) := by decide +kernel
theorem dX12_item_7 : decode cX12_item 7 = .ok (.ifCond .eq 17, 3) := by decide +kernel
theorem dX12_item_10 : decode cX12_item 10 = .ok (.iload_n 1, 1) := by decide +kernel
theorem dX12_item_11 : decode cX12_item 11 = .ok (.iconst 4, 1) := by decide +kernel
theorem dX12_item_12 : decode cX12_item 12 = .ok (.if_icmp .eq 12, 3) := by decide +kernel
theorem dX12_item_15 : decode cX12_item 15 = .ok (.iload_n 1, 1) := by decide +kernel
theorem dX12_item_16 : decode cX12_item 16 = .ok (.iconst 5, 1) := by decide +kernel
theorem dX12_item_17 : decode cX12_item 17 = .ok (.if_icmp .eq 7, 3) := by decide +kernel
theorem dX12_item_20 : decode cX12_item 20 = .ok (.iconst 1, 1) := by decide +kernel
theorem dX12_item_21 : decode cX12_item 21 = .ok (.goto 4, 3) := by decide +kernel
theorem dX12_item_24 : decode cX12_item 24 = .ok (.iconst 0, 1) := by decide +kernel
theorem dX12_item_25 : decode cX12_item 25 = .ok (.istore 5, 2) := by decide +kernel
theorem dX12_item_27 : decode cX12_item 27 = .ok (.aload_n 0, 1) := by decide +kernel
theorem dX12_item_28 : decode cX12_item 28 = .ok (.iload 5, 2) := by decide +kernel
theorem dX12_item_30 : decode cX12_item 30 = .ok (.ifCond .eq 14, 3) := by decide +kernel
theorem dX12_item_33 : decode cX12_item 33 = .ok (.iload_n 2, 1) := by decide +kernel
theorem dX12_item_34 : decode cX12_item 34 = .ok (.invokestatic 191, 3) := by decide +kernel
theorem dX12_item_37 : decode cX12_item 37 = .ok (.ifCond .ne 7, 3) := by decide +kernel
theorem dX12_item_40 : decode cX12_item 40 = .ok (.iconst 1, 1) := by decide +kernel
theorem dX12_item_41 : decode cX12_item 41 = .ok (.goto 42, 3) := by decide +kernel
theorem dX12_item_44 : decode cX12_item 44 = .ok (.iload_n 1, 1) := by decide +kernel
theorem dX12_item_45 : decode cX12_item 45 = .ok (.iconst 0, 1) := by decide +kernel
theorem dX12_item_46 : decode cX12_item 46 = .ok (.bipush 9, 2) := by decide +kernel
theorem dX12_item_48 : decode cX12_item 48 = .ok (.invokestatic 184, 3) := by decide +kernel
theorem dX12_item_51 : decode cX12_item 51 = .ok (.ifCond .eq 14, 3) := by decide +kernel
theorem dX12_item_54 : decode cX12_item 54 = .ok (.iload_n 1, 1) := by decide +kernel
theorem dX12_item_55 : decode cX12_item 55 = .ok (.iload_n 2, 1) := by decide +kernel
theorem dX12_item_56 : decode cX12_item 56 = .ok (.iload_n 3, 1) := by decide +kernel
theorem dX12_item_57 : decode cX12_item 57 = .ok (.iload 4, 2) := by decide +kernel
theorem dX12_item_59 : decode cX12_item 59 = .ok (.invokestatic 195, 3) := by decide +kernel
theorem dX12_item_62 : decode cX12_item 62 = .ok (.ifCond .ne 7, 3) := by decide +kernel
theorem dX12_item_65 : decode cX12_item 65 = .ok (.iconst 2, 1) := by decide +kernel
theorem dX12_item_66 : decode cX12_item 66 = .ok (.goto 17, 3) := by decide +kernel
theorem dX12_item_69 : decode cX12_item 69 = .ok (.aload_n 0, 1) := by decide +kernel
theorem dX12_item_70 : decode cX12_item 70 = .ok (.getfield 199, 3) := by decide +kernel
theorem dX12_item_73 : decode cX12_item 73 = .ok (.bipush 14, 2) := by decide +kernel
theorem dX12_item_75 : decode cX12_item 75 = .ok (.if_icmp .ne 7, 3) := by decide +kernel
theorem dX12_item_78 : decode cX12_item 78 = .ok (.iconst 3, 1) := by decide +kernel
theorem dX12_item_79 : decode cX12_item 79 = .ok (.goto 4, 3) := by decide +kernel
theorem dX12_item_82 : decode cX12_item 82 = .ok (.iconst 0, 1) := by decide +kernel
theorem dX12_item_83 : decode cX12_item 83 = .ok (.invokevirtual 202, 3) := by decide +kernel
theorem dX12_item_86 : decode cX12_item 86 = .ok (.ifCond .ne 5, 3) := by decide +kernel
theorem dX12_item_89 : decode cX12_item 89 = .ok (.iconst 0, 1) := by decide +kernel
theorem dX12_item_90 : decode cX12_item 90 = .ok (.ireturn, 1) := by decide +kernel
theorem dX12_item_91 : decode cX12_item 91 = .ok (.aload_n 0, 1) := by decide +kernel
theorem dX12_item_92 : decode cX12_item 92 = .ok (.getfield 7, 3) := by decide +kernel
theorem dX12_item_95 : decode cX12_item 95 = .ok (.aload_n 0, 1) := by decide +kernel
theorem dX12_item_96 : decode cX12_item 96 = .ok (.getfield 199, 3) := by decide +kernel
theorem dX12_item_99 : decode cX12_item 99 = .ok (.iload_n 1, 1) := by decide +kernel
theorem dX12_item_100 : decode cX12_item 100 = .ok (.iastore, 1) := by decide +kernel
theorem dX12_item_101 : decode cX12_item 101 = .ok (.aload_n 0, 1) := by decide +kernel
theorem dX12_item_102 : decode cX12_item 102 = .ok (.getfield 13, 3) := by decide +kernel
theorem dX12_item_105 : decode cX12_item 105 = .ok (.aload_n 0, 1) := by decide +kernel
theorem dX12_item_106 : decode cX12_item 106 = .ok (.getfield 199, 3) := by decide +kernel
theorem dX12_item_109 : decode cX12_item 109 = .ok (.iload_n 2, 1) := by decide +kernel
theorem dX12_item_110 : decode cX12_item 110 = .ok (.iastore, 1) := by decide +kernel
theorem dX12_item_111 : decode cX12_item 111 = .ok (.aload_n 0, 1) := by decide +kernel
theorem dX12_item_112 : decode cX12_item 112 = .ok (.getfield 16, 3) := by decide +kernel
theorem dX12_item_115 : decode cX12_item 115 = .ok (.aload_n 0, 1) := by decide +kernel
theorem dX12_item_116 : decode cX12_item 116 = .ok (.getfield 199, 3) := by decide +kernel
theorem dX12_item_119 : decode cX12_item 119 = .ok (.iload_n 3, 1) := by decide +kernel
theorem dX12_item_120 : decode cX12_item 120 = .ok (.iastore, 1) := by decide +kernel
theorem dX12_item_121 : decode cX12_item 121 = .ok (.aload_n 0, 1) := by decide +kernel
theorem dX12_item_122 : decode cX12_item 122 = .ok (.getfield 19, 3) := by decide +kernel
theorem dX12_item_125 : decode cX12_item 125 = .ok (.aload_n 0, 1) := by decide +kernel
theorem dX12_item_126 : decode cX12_item 126 = .ok (.getfield 199, 3) := by decide +kernel
theorem dX12_item_129 : decode cX12_item 129 = .ok (.iload 4, 2) := by decide +kernel
theorem dX12_item_131 : decode cX12_item 131 = .ok (.iastore, 1) := by decide +kernel
theorem dX12_item_132 : decode cX12_item 132 = .ok (.aload_n 0, 1) := by decide +kernel
theorem dX12_item_133 : decode cX12_item 133 = .ok (.dup, 1) := by decide +kernel
theorem dX12_item_134 : decode cX12_item 134 = .ok (.getfield 199, 3) := by decide +kernel
theorem dX12_item_137 : decode cX12_item 137 = .ok (.iconst 1, 1) := by decide +kernel
theorem dX12_item_138 : decode cX12_item 138 = .ok (.iadd, 1) := by decide +kernel
theorem dX12_item_139 : decode cX12_item 139 = .ok (.putfield 199, 3) := by decide +kernel
theorem dX12_item_142 : decode cX12_item 142 = .ok (.aload_n 0, 1) := by decide +kernel
theorem dX12_item_143 : decode cX12_item 143 = .ok (.getfield 199, 3) := by decide +kernel
theorem dX12_item_146 : decode cX12_item 146 = .ok (.ireturn, 1) := by decide +kernel
def is_X12_item (Rt : np_Rt) : List (Nat × np_Op) := [(0, np_ild 1 1), (1, np_push 1 (.int 0)), (2, np_push 2 (.int 9)), (4, nq_call 3 sp_X12_isIn 3 0 0 0 0), (7, nq_if (fun x => x = 0) 24), (10, np_ild 1 1), (11, np_push 1 (.int 4)), (12, nq_ic (fun x y => x = y) 24), (15, np_ild 1 1), (16, np_push 1 (.int 5)), (17, nq_ic (fun x y => x = y) 24), (20, np_push 1 (.int 1)), (21, np_goto 25), (24, np_push 1 (.int 0)), (25, np_ist 2 5), (27, np_ald 1 0), (28, np_ild 2 5), (30, nq_if (fun x => x = 0) 44), (33, np_ild 1 2), (34, nq_call 1 sp_X12_isSlot 1 0 0 0 0), (37, nq_ifne 44), (40, np_push 1 (.int 1)), (41, np_goto 83), (44, np_ild 1 1), (45, np_push 1 (.int 0)), (46, np_push 2 (.int 9)), (48, nq_call 3 sp_X12_isIn 3 0 0 0 0), (51, nq_if (fun x => x = 0) 65), (54, np_ild 1 1), (55, np_ild 1 2), (56, np_ild 1 3), (57, np_ild 2 4), (59, nq_call 4 sp_X12_isRight 4 0 0 0 0), (62, nq_ifne 69), (65, np_push 1 (.int 2)), (66, np_goto 83), (69, np_ald 1 0), (70, nq_getf 12 0), (73, np_push 2 (.int 14)), (75, nq_icne 82), (78, np_push 1 (.int 3)), (79, np_goto 83), (82, np_push 1 (.int 0)), (83, nq_callV 12 2 sp_X12_can 2 0 0 0 0), (86, nq_ifne 91), (89, np_push 1 (.int 0)), (90, np_ret Rt), (91, np_ald 1 0), (92, nq_getf 12 1), (95, np_ald 1 0), (96, nq_getf 12 0), (99, np_ild 1 1), (100, nq_iastT .int), (101, np_ald 1 0), (102, nq_getf 12 2), (105, np_ald 1 0), (106, nq_getf 12 0), (109, np_ild 1 2), (110, nq_iastT .int), (111, np_ald 1 0), (112, nq_getf 12 3), (115, np_ald 1 0), (116, nq_getf 12 0), (119, np_ild 1 3), (120, nq_iastT .int), (121, np_ald 1 0), (122, nq_getf 12 4), (125, np_ald 1 0), (126, nq_getf 12 0), (129, np_ild 2 4), (131, nq_iastT .int), (132, np_ald 1 0), (133, nq_dup), (134, nq_getf 12 0), (137, np_push 1 (.int 1)), (138, np_ib (fun x y => x + y)), (139, nq_putf 12 0 (.int)), (142, np_ald 1 0), (143, nq_getf 12 0), (146, np_ret Rt)]
set_option maxRecDepth 20000 in
theorem so_X12_item {X : np_Ctx} {Rt : np_Rt} (hX : np_ok RX12 cX12_item 6 2 45 0 0 .ireturn X) (hR : ∀ st w ce sl, Rt st w ce sl → X.2.2.1 st w ce sl) : ∀ q ∈ is_X12_item Rt, np_S X q.1 q.2 :=
  List.forall_mem_cons.mpr ⟨np_s_iload_n hX dX12_item_0 rfl, List.forall_mem_cons.mpr ⟨np_s_iconst hX dX12_item_1 (by decide), List.forall_mem_cons.mpr ⟨np_s_bipush hX dX12_item_2 (by decide), List.forall_mem_cons.mpr ⟨np_S.mono (op := np_call 3 sp_X12_isIn 3 0 0 0 0) (np_s_callS hX C_X12_isIn dX12_item_4 gw1880 gw142 gw1878 gw1879 ⟨by decide, by decide, by decide⟩ (by decide) (by decide)) nq_call_le, List.forall_mem_cons.mpr ⟨np_S.mono (op := np_if (fun x => x = 0) 24) (np_s_if_eq hX dX12_item_7 (by decide)) nq_if_le, List.forall_mem_cons.mpr ⟨np_s_iload_n hX dX12_item_10 rfl, List.forall_mem_cons.mpr ⟨np_s_iconst hX dX12_item_11 (by decide), List.forall_mem_cons.mpr ⟨np_S.mono (op := np_ic (fun x y => x = y) 24) (np_s_icmp_eq hX dX12_item_12 (by decide)) nq_ic_le, List.forall_mem_cons.mpr ⟨np_s_iload_n hX dX12_item_15 rfl, List.forall_mem_cons.mpr ⟨np_s_iconst hX dX12_item_16 (by decide), List.forall_mem_cons.mpr ⟨np_S.mono (op := np_ic (fun x y => x = y) 24) (np_s_icmp_eq hX dX12_item_17 (by decide)) nq_ic_le, List.forall_mem_cons.mpr ⟨np_s_iconst hX dX12_item_20 (by decide), List.forall_mem_cons.mpr ⟨np_s_goto hX dX12_item_21 (by decide), List.forall_mem_cons.mpr ⟨np_s_iconst hX dX12_item_24 (by decide), List.forall_mem_cons.mpr ⟨np_s_istore hX dX12_item_25 (by decide), List.forall_mem_cons.mpr ⟨np_s_aload_n hX dX12_item_27 rfl, List.forall_mem_cons.mpr ⟨np_s_iload hX dX12_item_28, List.forall_mem_cons.mpr ⟨np_S.mono (op := np_if (fun x => x = 0) 44) (np_s_if_eq hX dX12_item_30 (by decide)) nq_if_le, List.forall_mem_cons.mpr ⟨np_s_iload_n hX dX12_item_33 rfl, List.forall_mem_cons.mpr ⟨np_S.mono (op := np_call 1 sp_X12_isSlot 1 0 0 0 0) (np_s_callS hX C_X12_isSlot dX12_item_34 gw1883 gw142 gw1881 gw1882 ⟨by decide, by decide, by decide⟩ (by decide) (by decide)) nq_call_le, List.forall_mem_cons.mpr ⟨np_S.mono (op := np_ifne 44) (np_s_if_ne hX dX12_item_37 (by decide)) nq_ifne_le, List.forall_mem_cons.mpr ⟨np_s_iconst hX dX12_item_40 (by decide), List.forall_mem_cons.mpr ⟨np_s_goto hX dX12_item_41 (by decide), List.forall_mem_cons.mpr ⟨np_s_iload_n hX dX12_item_44 rfl, List.forall_mem_cons.mpr ⟨np_s_iconst hX dX12_item_45 (by decide), List.forall_mem_cons.mpr ⟨np_s_bipush hX dX12_item_46 (by decide), List.forall_mem_cons.mpr ⟨np_S.mono (op := np_call 3 sp_X12_isIn 3 0 0 0 0) (np_s_callS hX C_X12_isIn dX12_item_48 gw1880 gw142 gw1878 gw1879 ⟨by decide, by decide, by decide⟩ (by decide) (by decide)) nq_call_le, List.forall_mem_cons.mpr ⟨np_S.mono (op := np_if (fun x => x = 0) 65) (np_s_if_eq hX dX12_item_51 (by decide)) nq_if_le, List.forall_mem_cons.mpr ⟨np_s_iload_n hX dX12_item_54 rfl, List.forall_mem_cons.mpr ⟨np_s_iload_n hX dX12_item_55 rfl, List.forall_mem_cons.mpr ⟨np_s_iload_n hX dX12_item_56 rfl, List.forall_mem_cons.mpr ⟨np_s_iload hX dX12_item_57, List.forall_mem_cons.mpr ⟨np_S.mono (op := np_call 4 sp_X12_isRight 4 0 0 0 0) (np_s_callS hX C_X12_isRight dX12_item_59 gw1886 gw142 gw1884 gw1885 ⟨by decide, by decide, by decide⟩ (by decide) (by decide)) nq_call_le, List.forall_mem_cons.mpr ⟨np_S.mono (op := np_ifne 69) (np_s_if_ne hX dX12_item_62 (by decide)) nq_ifne_le, List.forall_mem_cons.mpr ⟨np_s_iconst hX dX12_item_65 (by decide), List.forall_mem_cons.mpr ⟨np_s_goto hX dX12_item_66 (by decide), List.forall_mem_cons.mpr ⟨np_s_aload_n hX dX12_item_69 rfl, List.forall_mem_cons.mpr ⟨np_S.mono (op := np_getf 12 0) (np_s_getf hX dX12_item_70 (C := RX12) (T := TX12) (N := 77) rfl guX12 (by decide) gw1636) nq_getf_le, List.forall_mem_cons.mpr ⟨np_s_bipush hX dX12_item_73 (by decide), List.forall_mem_cons.mpr ⟨np_S.mono (op := np_icne 82) (np_s_icmp_ne hX dX12_item_75 (by decide)) nq_icne_le, List.forall_mem_cons.mpr ⟨np_s_iconst hX dX12_item_78 (by decide), List.forall_mem_cons.mpr ⟨np_s_goto hX dX12_item_79 (by decide), List.forall_mem_cons.mpr ⟨np_s_iconst hX dX12_item_82 (by decide), List.forall_mem_cons.mpr ⟨np_S.mono (op := np_callV 12 2 sp_X12_can 2 0 0 0 0) (np_s_callV hX C_X12_can dX12_item_83 (q := (RX12, TX12, 77)) rfl rfl gw1890 gw142 gw1887 gw1889 gw63 ⟨by decide, by decide, by decide⟩ (by decide) (by decide)) nq_callV_le, List.forall_mem_cons.mpr ⟨np_S.mono (op := np_ifne 91) (np_s_if_ne hX dX12_item_86 (by decide)) nq_ifne_le, List.forall_mem_cons.mpr ⟨np_s_iconst hX dX12_item_89 (by decide), List.forall_mem_cons.mpr ⟨np_S.mono (op := np_ret X.2.2.1) (np_s_ret hX dX12_item_90) (nq_ret_le hR), List.forall_mem_cons.mpr ⟨np_s_aload_n hX dX12_item_91 rfl, List.forall_mem_cons.mpr ⟨np_S.mono (op := np_getf 12 1) (np_s_getf hX dX12_item_92 (C := RX12) (T := TX12) (N := 77) rfl guX12 (by decide) gw1637) nq_getf_le, List.forall_mem_cons.mpr ⟨np_s_aload_n hX dX12_item_95 rfl, List.forall_mem_cons.mpr ⟨np_S.mono (op := np_getf 12 0) (np_s_getf hX dX12_item_96 (C := RX12) (T := TX12) (N := 77) rfl guX12 (by decide) gw1636) nq_getf_le, List.forall_mem_cons.mpr ⟨np_s_iload_n hX dX12_item_99 rfl, List.forall_mem_cons.mpr ⟨np_S.mono (op := np_iastT .int) (np_s_iast hX dX12_item_100) nq_iastT_le, List.forall_mem_cons.mpr ⟨np_s_aload_n hX dX12_item_101 rfl, List.forall_mem_cons.mpr ⟨np_S.mono (op := np_getf 12 2) (np_s_getf hX dX12_item_102 (C := RX12) (T := TX12) (N := 77) rfl guX12 (by decide) gw1638) nq_getf_le, List.forall_mem_cons.mpr ⟨np_s_aload_n hX dX12_item_105 rfl, List.forall_mem_cons.mpr ⟨np_S.mono (op := np_getf 12 0) (np_s_getf hX dX12_item_106 (C := RX12) (T := TX12) (N := 77) rfl guX12 (by decide) gw1636) nq_getf_le, List.forall_mem_cons.mpr ⟨np_s_iload_n hX dX12_item_109 rfl, List.forall_mem_cons.mpr ⟨np_S.mono (op := np_iastT .int) (np_s_iast hX dX12_item_110) nq_iastT_le, List.forall_mem_cons.mpr ⟨np_s_aload_n hX dX12_item_111 rfl, List.forall_mem_cons.mpr ⟨np_S.mono (op := np_getf 12 3) (np_s_getf hX dX12_item_112 (C := RX12) (T := TX12) (N := 77) rfl guX12 (by decide) gw1639) nq_getf_le, List.forall_mem_cons.mpr ⟨np_s_aload_n hX dX12_item_115 rfl, List.forall_mem_cons.mpr ⟨np_S.mono (op := np_getf 12 0) (np_s_getf hX dX12_item_116 (C := RX12) (T := TX12) (N := 77) rfl guX12 (by decide) gw1636) nq_getf_le, List.forall_mem_cons.mpr ⟨np_s_iload_n hX dX12_item_119 rfl, List.forall_mem_cons.mpr ⟨np_S.mono (op := np_iastT .int) (np_s_iast hX dX12_item_120) nq_iastT_le, List.forall_mem_cons.mpr ⟨np_s_aload_n hX dX12_item_121 rfl, List.forall_mem_cons.mpr ⟨np_S.mono (op := np_getf 12 4) (np_s_getf hX dX12_item_122 (C := RX12) (T := TX12) (N := 77) rfl guX12 (by decide) gw1640) nq_getf_le, List.forall_mem_cons.mpr ⟨np_s_aload_n hX dX12_item_125 rfl, List.forall_mem_cons.mpr ⟨np_S.mono (op := np_getf 12 0) (np_s_getf hX dX12_item_126 (C := RX12) (T := TX12) (N := 77) rfl guX12 (by decide) gw1636) nq_getf_le, List.forall_mem_cons.mpr ⟨np_s_iload hX dX12_item_129, List.forall_mem_cons.mpr ⟨np_S.mono (op := np_iastT .int) (np_s_iast hX dX12_item_131) nq_iastT_le, List.forall_mem_cons.mpr ⟨np_s_aload_n hX dX12_item_132 rfl, List.forall_mem_cons.mpr ⟨np_S.mono (op := np_dup) (np_s_dup hX dX12_item_133) nq_dup_le, List.forall_mem_cons.mpr ⟨np_S.mono (op := np_getf 12 0) (np_s_getf hX dX12_item_134 (C := RX12) (T := TX12) (N := 77) rfl guX12 (by decide) gw1636) nq_getf_le, List.forall_mem_cons.mpr ⟨np_s_iconst hX dX12_item_137 (by decide), List.forall_mem_cons.mpr ⟨np_s_iadd hX dX12_item_138, List.forall_mem_cons.mpr ⟨np_S.mono (op := np_putf 12 0 (.int)) (np_s_putf hX dX12_item_139 (C := RX12) (T := TX12) (N := 77) (ty0 := tyX12) rfl guX12 tyX12_ok nmX12 (by decide) gw1636 rfl rfl) nq_putf_le, List.forall_mem_cons.mpr ⟨np_s_aload_n hX dX12_item_142 rfl, List.forall_mem_cons.mpr ⟨np_S.mono (op := np_getf 12 0) (np_s_getf hX dX12_item_143 (C := RX12) (T := TX12) (N := 77) rfl guX12 (by decide) gw1636) nq_getf_le, List.forall_mem_cons.mpr ⟨np_S.mono (op := np_ret X.2.2.1) (np_s_ret hX dX12_item_146) (nq_ret_le hR), fun _ h => nomatch h⟩⟩⟩⟩⟩⟩⟩⟩⟩⟩⟩⟩⟩⟩⟩⟩⟩⟩⟩⟩⟩⟩⟩⟩⟩⟩⟩⟩⟩⟩⟩⟩⟩⟩⟩⟩⟩⟩⟩⟩⟩⟩⟩⟩⟩⟩⟩⟩⟩⟩⟩⟩⟩⟩⟩⟩⟩⟩⟩⟩⟩⟩⟩⟩⟩⟩⟩⟩⟩⟩⟩⟩⟩⟩⟩⟩⟩⟩⟩⟩
abbrev sp_X12_item : np_Sp := nq_in is_X12_item (some .int) 0 0 400
theorem C_X12_item : np_C yX12_item cX12_item 6 (some .int) 2 45 0 0 sp_X12_item := nq_inC 400 (by decide) (fun X Rt hX hmn hR => so_X12_item hX hR)
theorem dX12_dropItems_0 : decode cX12_dropItems 0 = .ok (.aload_n 0, 1) := by decide +kernel
theorem dX12_dropItems_1 : decode cX12_dropItems 1 = .ok (.iconst 0, 1) := by decide +kernel
theorem dX12_dropItems_2 : decode cX12_dropItems 2 = .ok (.putfield 180, 3) := by decide +kernel
theorem dX12_dropItems_5 : decode cX12_dropItems 5 = .ok (.aload_n 0, 1) := by decide +kernel
theorem dX12_dropItems_6 : decode cX12_dropItems 6 = .ok (.getfield 199, 3) := by decide +kernel
theorem dX12_dropItems_9 : decode cX12_dropItems 9 = .ok (.istore_n 1, 1) := by decide +kernel
theorem dX12_dropItems_10 : decode cX12_dropItems 10 = .ok (.aload_n 0, 1) := by decide +kernel
theorem dX12_dropItems_11 : decode cX12_dropItems 11 = .ok (.iconst 0, 1) := by decide +kernel
theorem dX12_dropItems_12 : decode cX12_dropItems 12 = .ok (.putfield 199, 3) := by decide +kernel
theorem dX12_dropItems_15 : decode cX12_dropItems 15 = .ok (.iload_n 1, 1) := by decide +kernel
theorem dX12_dropItems_16 : decode cX12_dropItems 16 = .ok (.ireturn, 1) := by decide +kernel
def is_X12_dropItems (Rt : np_Rt) : List (Nat × np_Op) := [(0, np_ald 1 0), (1, np_push 1 (.int 0)), (2, nq_putf 12 76 (.int)), (5, np_ald 1 0), (6, nq_getf 12 0), (9, np_ist 1 1), (10, np_ald 1 0), (11, np_push 1 (.int 0)), (12, nq_putf 12 0 (.int)), (15, np_ild 1 1), (16, np_ret Rt)]
set_option maxRecDepth 20000 in
theorem so_X12_dropItems {X : np_Ctx} {Rt : np_Rt} (hX : np_ok RX12 cX12_dropItems 2 0 0 0 0 .ireturn X) (hR : ∀ st w ce sl, Rt st w ce sl → X.2.2.1 st w ce sl) : ∀ q ∈ is_X12_dropItems Rt, np_S X q.1 q.2 :=
  List.forall_mem_cons.mpr ⟨np_s_aload_n hX dX12_dropItems_0 rfl, List.forall_mem_cons.mpr ⟨np_s_iconst hX dX12_dropItems_1 (by decide), List.forall_mem_cons.mpr ⟨np_S.mono (op := np_putf 12 76 (.int)) (np_s_putf hX dX12_dropItems_2 (C := RX12) (T := TX12) (N := 77) (ty0 := tyX12) rfl guX12 tyX12_ok nmX12 (by decide) gw1712 rfl rfl) nq_putf_le, List.forall_mem_cons.mpr ⟨np_s_aload_n hX dX12_dropItems_5 rfl, List.forall_mem_cons.mpr ⟨np_S.mono (op := np_getf 12 0) (np_s_getf hX dX12_dropItems_6 (C := RX12) (T := TX12) (N := 77) rfl guX12 (by decide) gw1636) nq_getf_le, List.forall_mem_cons.mpr ⟨np_s_istore_n hX dX12_dropItems_9 rfl (by decide), List.forall_mem_cons.mpr ⟨np_s_aload_n hX dX12_dropItems_10 rfl, List.forall_mem_cons.mpr ⟨np_s_iconst hX dX12_dropItems_11 (by decide), List.forall_mem_cons.mpr ⟨np_S.mono (op := np_putf 12 0 (.int)) (np_s_putf hX dX12_dropItems_12 (C := RX12) (T := TX12) (N := 77) (ty0 := tyX12) rfl guX12 tyX12_ok nmX12 (by decide) gw1636 rfl rfl) nq_putf_le, List.forall_mem_cons.mpr ⟨np_s_iload_n hX dX12_dropItems_15 rfl, List.forall_mem_cons.mpr ⟨np_S.mono (op := np_ret X.2.2.1) (np_s_ret hX dX12_dropItems_16) (nq_ret_le hR), fun _ h => nomatch h⟩⟩⟩⟩⟩⟩⟩⟩⟩⟩⟩
abbrev sp_X12_dropItems : np_Sp := nq_in is_X12_dropItems (some .int) 0 0 400
theorem C_X12_dropItems : np_C yX12_dropItems cX12_dropItems 2 (some .int) 0 0 0 0 sp_X12_dropItems := nq_inC 400 (by decide) (fun X Rt hX hmn hR => so_X12_dropItems hX hR)
theorem dX12_description_0 : decode cX12_description 0 = .ok (.aload_n 0, 1) := by decide +kernel
theorem dX12_description_1 : decode cX12_description 1 = .ok (.aload_n 0, 1) := by decide +kernel
theorem dX12_description_2 : decode cX12_description 2 = .ok (.getfield 188, 3) := by decide +kernel
theorem dX12_description_5 : decode cX12_description 5 = .ok (.bipush 6, 2) := by decide +kernel
theorem dX12_description_7 : decode cX12_description 7 = .ok (.if_icmp .ne 7, 3) := by decide +kernel
theorem dX12_description_10 : decode cX12_description 10 = .ok (.iconst 1, 1) := by decide +kernel
theorem dX12_description_11 : decode cX12_description 11 = .ok (.goto 4, 3) := by decide +kernel
theorem dX12_description_14 : decode cX12_description 14 = .ok (.iconst 0, 1) := by decide +kernel
theorem dX12_description_15 : decode cX12_description 15 = .ok (.invokevirtual 202, 3) := by decide +kernel
theorem dX12_description_18 : decode cX12_description 18 = .ok (.ifCond .ne 5, 3) := by decide +kernel
theorem dX12_description_21 : decode cX12_description 21 = .ok (.iconst 0, 1) := by decide +kernel
theorem dX12_description_22 : decode cX12_description 22 = .ok (.ireturn, 1) := by decide +kernel
theorem dX12_description_23 : decode cX12_description 23 = .ok (.aload_n 0, 1) := by decide +kernel
theorem dX12_description_24 : decode cX12_description 24 = .ok (.getfield 199, 3) := by decide +kernel
theorem dX12_description_27 : decode cX12_description 27 = .ok (.ifCond .le 7, 3) := by decide +kernel
theorem dX12_description_30 : decode cX12_description 30 = .ok (.iconst 1, 1) := by decide +kernel
theorem dX12_description_31 : decode cX12_description 31 = .ok (.goto 4, 3) := by decide +kernel
theorem dX12_description_34 : decode cX12_description 34 = .ok (.iconst 0, 1) := by decide +kernel
theorem dX12_description_35 : decode cX12_description 35 = .ok (.istore_n 1, 1) := by decide +kernel
theorem dX12_description_36 : decode cX12_description 36 = .ok (.iconst 0, 1) := by decide +kernel
theorem dX12_description_37 : decode cX12_description 37 = .ok (.istore_n 2, 1) := by decide +kernel
theorem dX12_description_38 : decode cX12_description 38 = .ok (.iload_n 2, 1) := by decide +kernel
theorem dX12_description_39 : decode cX12_description 39 = .ok (.aload_n 0, 1) := by decide +kernel
theorem dX12_description_40 : decode cX12_description 40 = .ok (.getfield 199, 3) := by decide +kernel
theorem dX12_description_43 : decode cX12_description 43 = .ok (.if_icmp .ge 27, 3) := by decide +kernel
theorem dX12_description_46 : decode cX12_description 46 = .ok (.iload_n 1, 1) := by decide +kernel
theorem dX12_description_47 : decode cX12_description 47 = .ok (.ifCond .eq 15, 3) := by decide +kernel
theorem dX12_description_50 : decode cX12_description 50 = .ok (.aload_n 0, 1) := by decide +kernel
theorem dX12_description_51 : decode cX12_description 51 = .ok (.iload_n 2, 1) := by decide +kernel
theorem dX12_description_52 : decode cX12_description 52 = .ok (.invokevirtual 216, 3) := by decide +kernel
theorem dX12_description_55 : decode cX12_description 55 = .ok (.ifCond .eq 7, 3) := by decide +kernel
theorem dX12_description_58 : decode cX12_description 58 = .ok (.iconst 1, 1) := by decide +kernel
theorem dX12_description_59 : decode cX12_description 59 = .ok (.goto 4, 3) := by decide +kernel
theorem dX12_description_62 : decode cX12_description 62 = .ok (.iconst 0, 1) := by decide +kernel
theorem dX12_description_63 : decode cX12_description 63 = .ok (.istore_n 1, 1) := by decide +kernel
theorem dX12_description_64 : decode cX12_description 64 = .ok (.iinc 2 1, 3) := by decide +kernel
theorem dX12_description_67 : decode cX12_description 67 = .ok (.goto (-29), 3) := by decide +kernel
theorem dX12_description_70 : decode cX12_description 70 = .ok (.iload_n 1, 1) := by decide +kernel
theorem dX12_description_71 : decode cX12_description 71 = .ok (.ifCond .ne 5, 3) := by decide +kernel
theorem dX12_description_74 : decode cX12_description 74 = .ok (.iconst (-1), 1) := by decide +kernel
theorem dX12_description_75 : decode cX12_description 75 = .ok (.ireturn, 1) := by decide +kernel
theorem dX12_description_76 : decode cX12_description 76 = .ok (.aload_n 0, 1) := by decide +kernel
theorem dX12_description_77 : decode cX12_description 77 = .ok (.getfield 22, 3) := by decide +kernel
theorem dX12_description_80 : decode cX12_description 80 = .ok (.aload_n 0, 1) := by decide +kernel
theorem dX12_description_81 : decode cX12_description 81 = .ok (.getfield 188, 3) := by decide +kernel
theorem dX12_description_84 : decode cX12_description 84 = .ok (.aload_n 0, 1) := by decide +kernel
theorem dX12_description_85 : decode cX12_description 85 = .ok (.getfield 199, 3) := by decide +kernel
theorem dX12_description_88 : decode cX12_description 88 = .ok (.iastore, 1) := by decide +kernel
theorem dX12_description_89 : decode cX12_description 89 = .ok (.iconst 0, 1) := by decide +kernel
theorem dX12_description_90 : decode cX12_description 90 = .ok (.istore_n 2, 1) := by decide +kernel
theorem dX12_description_91 : decode cX12_description 91 = .ok (.iload_n 2, 1) := by decide +kernel
theorem dX12_description_92 : decode cX12_description 92 = .ok (.aload_n 0, 1) := by decide +kernel
theorem dX12_description_93 : decode cX12_description 93 = .ok (.getfield 199, 3) := by decide +kernel
theorem dX12_description_96 : decode cX12_description 96 = .ok (.if_icmp .ge 78, 3) := by decide +kernel
theorem dX12_description_99 : decode cX12_description 99 = .ok (.bipush 14, 2) := by decide +kernel
theorem dX12_description_101 : decode cX12_description 101 = .ok (.aload_n 0, 1) := by decide +kernel
theorem dX12_description_102 : decode cX12_description 102 = .ok (.getfield 188, 3) := by decide +kernel
theorem dX12_description_105 : decode cX12_description 105 = .ok (.imul, 1) := by decide +kernel
theorem dX12_description_106 : decode cX12_description 106 = .ok (.iload_n 2, 1) := by decide +kernel
theorem dX12_description_107 : decode cX12_description 107 = .ok (.iadd, 1) := by decide +kernel
theorem dX12_description_108 : decode cX12_description 108 = .ok (.istore_n 3, 1) := by decide +kernel
theorem dX12_description_109 : decode cX12_description 109 = .ok (.aload_n 0, 1) := by decide +kernel
theorem dX12_description_110 : decode cX12_description 110 = .ok (.getfield 25, 3) := by decide +kernel
theorem dX12_description_113 : decode cX12_description 113 = .ok (.iload_n 3, 1) := by decide +kernel
theorem dX12_description_114 : decode cX12_description 114 = .ok (.aload_n 0, 1) := by decide +kernel
theorem dX12_description_115 : decode cX12_description 115 = .ok (.getfield 7, 3) := by decide +kernel
theorem dX12_description_118 : decode cX12_description 118 = .ok (.iload_n 2, 1) := by decide +kernel
theorem dX12_description_119 : decode cX12_description 119 = .ok (.iaload, 1) := by decide +kernel
theorem dX12_description_120 : decode cX12_description 120 = .ok (.iastore, 1) := by decide +kernel
theorem dX12_description_121 : decode cX12_description 121 = .ok (.aload_n 0, 1) := by decide +kernel
theorem dX12_description_122 : decode cX12_description 122 = .ok (.getfield 28, 3) := by decide +kernel
theorem dX12_description_125 : decode cX12_description 125 = .ok (.iload_n 3, 1) := by decide +kernel
theorem dX12_description_126 : decode cX12_description 126 = .ok (.aload_n 0, 1) := by decide +kernel
theorem dX12_description_127 : decode cX12_description 127 = .ok (.getfield 13, 3) := by decide +kernel
theorem dX12_description_130 : decode cX12_description 130 = .ok (.iload_n 2, 1) := by decide +kernel
theorem dX12_description_131 : decode cX12_description 131 = .ok (.iaload, 1) := by decide +kernel
theorem dX12_description_132 : decode cX12_description 132 = .ok (.iastore, 1) := by decide +kernel
theorem dX12_description_133 : decode cX12_description 133 = .ok (.aload_n 0, 1) := by decide +kernel
theorem dX12_description_134 : decode cX12_description 134 = .ok (.getfield 31, 3) := by decide +kernel
theorem dX12_description_137 : decode cX12_description 137 = .ok (.iload_n 3, 1) := by decide +kernel
theorem dX12_description_138 : decode cX12_description 138 = .ok (.aload_n 0, 1) := by decide +kernel
theorem dX12_description_139 : decode cX12_description 139 = .ok (.getfield 16, 3) := by decide +kernel
theorem dX12_description_142 : decode cX12_description 142 = .ok (.iload_n 2, 1) := by decide +kernel
theorem dX12_description_143 : decode cX12_description 143 = .ok (.iaload, 1) := by decide +kernel
theorem dX12_description_144 : decode cX12_description 144 = .ok (.iastore, 1) := by decide +kernel
theorem dX12_description_145 : decode cX12_description 145 = .ok (.aload_n 0, 1) := by decide +kernel
theorem dX12_description_146 : decode cX12_description 146 = .ok (.getfield 34, 3) := by decide +kernel
theorem dX12_description_149 : decode cX12_description 149 = .ok (.iload_n 3, 1) := by decide +kernel
theorem dX12_description_150 : decode cX12_description 150 = .ok (.aload_n 0, 1) := by decide +kernel
theorem dX12_description_151 : decode cX12_description 151 = .ok (.getfield 19, 3) := by decide +kernel
theorem dX12_description_154 : decode cX12_description 154 = .ok (.iload_n 2, 1) := by decide +kernel
theorem dX12_description_155 : decode cX12_description 155 = .ok (.iaload, 1) := by decide +kernel
theorem dX12_description_156 : decode cX12_description 156 = .ok (.iastore, 1) := by decide +kernel
theorem dX12_description_157 : decode cX12_description 157 = .ok (.aload_n 0, 1) := by decide +kernel
theorem dX12_description_158 : decode cX12_description 158 = .ok (.getfield 37, 3) := by decide +kernel
theorem dX12_description_161 : decode cX12_description 161 = .ok (.iload_n 3, 1) := by decide +kernel
theorem dX12_description_162 : decode cX12_description 162 = .ok (.aload_n 0, 1) := by decide +kernel
theorem dX12_description_163 : decode cX12_description 163 = .ok (.iload_n 2, 1) := by decide +kernel
theorem dX12_description_164 : decode cX12_description 164 = .ok (.invokevirtual 212, 3) := by decide +kernel
theorem dX12_description_167 : decode cX12_description 167 = .ok (.iastore, 1) := by decide +kernel
theorem dX12_description_168 : decode cX12_description 168 = .ok (.iinc 2 1, 3) := by decide +kernel
theorem dX12_description_171 : decode cX12_description 171 = .ok (.goto (-80), 3) := by decide +kernel
theorem dX12_description_174 : decode cX12_description 174 = .ok (.aload_n 0, 1) := by decide +kernel
theorem dX12_description_175 : decode cX12_description 175 = .ok (.iconst 0, 1) := by decide +kernel
theorem dX12_description_176 : decode cX12_description 176 = .ok (.putfield 199, 3) := by decide +kernel
theorem dX12_description_179 : decode cX12_description 179 = .ok (.aload_n 0, 1) := by decide +kernel
theorem dX12_description_180 : decode cX12_description 180 = .ok (.dup, 1) := by decide +kernel
theorem dX12_description_181 : decode cX12_description 181 = .ok (.getfield 188, 3) := by decide +kernel
theorem dX12_description_184 : decode cX12_description 184 = .ok (.iconst 1, 1) := by decide +kernel
theorem dX12_description_185 : decode cX12_description 185 = .ok (.iadd, 1) := by decide +kernel
theorem dX12_description_186 : decode cX12_description 186 = .ok (.putfield 188, 3) := by decide +kernel
theorem dX12_description_189 : decode cX12_description 189 = .ok (.aload_n 0, 1) := by decide +kernel
theorem dX12_description_190 : decode cX12_description 190 = .ok (.getfield 188, 3) := by decide +kernel
theorem dX12_description_193 : decode cX12_description 193 = .ok (.iconst 1, 1) := by decide +kernel
theorem dX12_description_194 : decode cX12_description 194 = .ok (.isub, 1) := by decide +kernel
theorem dX12_description_195 : decode cX12_description 195 = .ok (.ireturn, 1) := by decide +kernel
def is_X12_description (Rt : np_Rt) : List (Nat × np_Op) := [(0, np_ald 1 0), (1, np_ald 1 0), (2, nq_getf 12 5), (5, np_push 2 (.int 6)), (7, nq_icne 14), (10, np_push 1 (.int 1)), (11, np_goto 15), (14, np_push 1 (.int 0)), (15, nq_callV 12 2 sp_X12_can 2 0 0 0 0), (18, nq_ifne 23), (21, np_push 1 (.int 0)), (22, np_ret Rt), (23, np_ald 1 0), (24, nq_getf 12 0), (27, nq_if (fun x => x ≤ 0) 34), (30, np_push 1 (.int 1)), (31, np_goto 35), (34, np_push 1 (.int 0)), (35, np_ist 1 1), (36, np_push 1 (.int 0)), (37, np_ist 1 2), (38, np_ild 1 2), (39, np_ald 1 0), (40, nq_getf 12 0), (43, nq_ic (fun x y => y ≤ x) 70), (46, np_ild 1 1), (47, nq_if (fun x => x = 0) 62), (50, np_ald 1 0), (51, np_ild 1 2), (55, nq_if (fun x => x = 0) 62), (58, np_push 1 (.int 1)), (59, np_goto 63), (62, np_push 1 (.int 0)), (63, np_ist 1 1), (64, np_iinc 2 1), (67, np_goto 38), (70, np_ild 1 1), (71, nq_ifne 76), (74, np_push 1 (.int (-1))), (75, np_ret Rt), (76, np_ald 1 0), (77, nq_getf 12 6), (80, np_ald 1 0), (81, nq_getf 12 5), (84, np_ald 1 0), (85, nq_getf 12 0), (88, nq_iastT .int), (89, np_push 1 (.int 0)), (90, np_ist 1 2), (91, np_ild 1 2), (92, np_ald 1 0), (93, nq_getf 12 0), (96, nq_ic (fun x y => y ≤ x) 174), (99, np_push 2 (.int 14)), (101, np_ald 1 0), (102, nq_getf 12 5), (105, np_ib (fun x y => x * y)), (106, np_ild 1 2), (107, np_ib (fun x y => x + y)), (108, np_ist 1 3), (109, np_ald 1 0), (110, nq_getf 12 7), (113, np_ild 1 3), (114, np_ald 1 0), (115, nq_getf 12 1), (118, np_ild 1 2), (119, nq_ialdT .int), (120, nq_iastT .int), (121, np_ald 1 0), (122, nq_getf 12 8), (125, np_ild 1 3), (126, np_ald 1 0), (127, nq_getf 12 2), (130, np_ild 1 2), (131, nq_ialdT .int), (132, nq_iastT .int), (133, np_ald 1 0), (134, nq_getf 12 9), (137, np_ild 1 3), (138, np_ald 1 0), (139, nq_getf 12 3), (142, np_ild 1 2), (143, nq_ialdT .int), (144, nq_iastT .int), (145, np_ald 1 0), (146, nq_getf 12 10), (149, np_ild 1 3), (150, np_ald 1 0), (151, nq_getf 12 4), (154, np_ild 1 2), (155, nq_ialdT .int), (156, nq_iastT .int), (157, np_ald 1 0), (158, nq_getf 12 11), (161, np_ild 1 3), (162, np_ald 1 0), (163, np_ild 1 2), (167, nq_iastT .int), (168, np_iinc 2 1), (171, np_goto 91), (174, np_ald 1 0), (175, np_push 1 (.int 0)), (176, nq_putf 12 0 (.int)), (179, np_ald 1 0), (180, nq_dup), (181, nq_getf 12 5), (184, np_push 1 (.int 1)), (185, np_ib (fun x y => x + y)), (186, nq_putf 12 5 (.int)), (189, np_ald 1 0), (190, nq_getf 12 5), (193, np_push 1 (.int 1)), (194, np_ib (fun x y => x - y)), (195, np_ret Rt)]
set_option maxRecDepth 20000 in
theorem so_X12_description {X : np_Ctx} {Rt : np_Rt} (hX : np_ok RX12 cX12_description 4 1 21 0 0 .ireturn X) (hR : ∀ st w ce sl, Rt st w ce sl → X.2.2.1 st w ce sl) : ∀ q ∈ is_X12_description Rt, np_S X q.1 q.2 :=
  List.forall_mem_cons.mpr ⟨np_s_aload_n hX dX12_description_0 rfl, List.forall_mem_cons.mpr ⟨np_s_aload_n hX dX12_description_1 rfl, List.forall_mem_cons.mpr ⟨np_S.mono (op := np_getf 12 5) (np_s_getf hX dX12_description_2 (C := RX12) (T := TX12) (N := 77) rfl guX12 (by decide) gw1641) nq_getf_le, List.forall_mem_cons.mpr ⟨np_s_bipush hX dX12_description_5 (by decide), List.forall_mem_cons.mpr ⟨np_S.mono (op := np_icne 14) (np_s_icmp_ne hX dX12_description_7 (by decide)) nq_icne_le, List.forall_mem_cons.mpr ⟨np_s_iconst hX dX12_description_10 (by decide), List.forall_mem_cons.mpr ⟨np_s_goto hX dX12_description_11 (by decide), List.forall_mem_cons.mpr ⟨np_s_iconst hX dX12_description_14 (by decide), List.forall_mem_cons.mpr ⟨np_S.mono (op := np_callV 12 2 sp_X12_can 2 0 0 0 0) (np_s_callV hX C_X12_can dX12_description_15 (q := (RX12, TX12, 77)) rfl rfl gw1890 gw142 gw1887 gw1889 gw63 ⟨by decide, by decide, by decide⟩ (by decide) (by decide)) nq_callV_le, List.forall_mem_cons.mpr ⟨np_S.mono (op := np_ifne 23) (np_s_if_ne hX dX12_description_18 (by decide)) nq_ifne_le, List.forall_mem_cons.mpr ⟨np_s_iconst hX dX12_description_21 (by decide), List.forall_mem_cons.mpr ⟨np_S.mono (op := np_ret X.2.2.1) (np_s_ret hX dX12_description_22) (nq_ret_le hR), List.forall_mem_cons.mpr ⟨np_s_aload_n hX dX12_description_23 rfl, List.forall_mem_cons.mpr ⟨np_S.mono (op := np_getf 12 0) (np_s_getf hX dX12_description_24 (C := RX12) (T := TX12) (N := 77) rfl guX12 (by decide) gw1636) nq_getf_le, List.forall_mem_cons.mpr ⟨np_S.mono (op := np_if (fun x => x ≤ 0) 34) (np_s_if_le hX dX12_description_27 (by decide)) nq_if_le, List.forall_mem_cons.mpr ⟨np_s_iconst hX dX12_description_30 (by decide), List.forall_mem_cons.mpr ⟨np_s_goto hX dX12_description_31 (by decide), List.forall_mem_cons.mpr ⟨np_s_iconst hX dX12_description_34 (by decide), List.forall_mem_cons.mpr ⟨np_s_istore_n hX dX12_description_35 rfl (by decide), List.forall_mem_cons.mpr ⟨np_s_iconst hX dX12_description_36 (by decide), List.forall_mem_cons.mpr ⟨np_s_istore_n hX dX12_description_37 rfl (by decide), List.forall_mem_cons.mpr ⟨np_s_iload_n hX dX12_description_38 rfl, List.forall_mem_cons.mpr ⟨np_s_aload_n hX dX12_description_39 rfl, List.forall_mem_cons.mpr ⟨np_S.mono (op := np_getf 12 0) (np_s_getf hX dX12_description_40 (C := RX12) (T := TX12) (N := 77) rfl guX12 (by decide) gw1636) nq_getf_le, List.forall_mem_cons.mpr ⟨np_S.mono (op := np_ic (fun x y => y ≤ x) 70) (np_s_icmp_ge hX dX12_description_43 (by decide)) nq_ic_le, List.forall_mem_cons.mpr ⟨np_s_iload_n hX dX12_description_46 rfl, List.forall_mem_cons.mpr ⟨np_S.mono (op := np_if (fun x => x = 0) 62) (np_s_if_eq hX dX12_description_47 (by decide)) nq_if_le, List.forall_mem_cons.mpr ⟨np_s_aload_n hX dX12_description_50 rfl, List.forall_mem_cons.mpr ⟨np_s_iload_n hX dX12_description_51 rfl, List.forall_mem_cons.mpr ⟨np_S.mono (op := np_if (fun x => x = 0) 62) (np_s_if_eq hX dX12_description_55 (by decide)) nq_if_le, List.forall_mem_cons.mpr ⟨np_s_iconst hX dX12_description_58 (by decide), List.forall_mem_cons.mpr ⟨np_s_goto hX dX12_description_59 (by decide), List.forall_mem_cons.mpr ⟨np_s_iconst hX dX12_description_62 (by decide), List.forall_mem_cons.mpr ⟨np_s_istore_n hX dX12_description_63 rfl (by decide), List.forall_mem_cons.mpr ⟨np_s_iinc hX dX12_description_64 (by decide), List.forall_mem_cons.mpr ⟨np_s_goto hX dX12_description_67 (by decide), List.forall_mem_cons.mpr ⟨np_s_iload_n hX dX12_description_70 rfl, List.forall_mem_cons.mpr ⟨np_S.mono (op := np_ifne 76) (np_s_if_ne hX dX12_description_71 (by decide)) nq_ifne_le, List.forall_mem_cons.mpr ⟨np_s_iconst hX dX12_description_74 (by decide), List.forall_mem_cons.mpr ⟨np_S.mono (op := np_ret X.2.2.1) (np_s_ret hX dX12_description_75) (nq_ret_le hR), List.forall_mem_cons.mpr ⟨np_s_aload_n hX dX12_description_76 rfl, List.forall_mem_cons.mpr ⟨np_S.mono (op := np_getf 12 6) (np_s_getf hX dX12_description_77 (C := RX12) (T := TX12) (N := 77) rfl guX12 (by decide) gw1642) nq_getf_le, List.forall_mem_cons.mpr ⟨np_s_aload_n hX dX12_description_80 rfl, List.forall_mem_cons.mpr ⟨np_S.mono (op := np_getf 12 5) (np_s_getf hX dX12_description_81 (C := RX12) (T := TX12) (N := 77) rfl guX12 (by decide) gw1641) nq_getf_le, List.forall_mem_cons.mpr ⟨np_s_aload_n hX dX12_description_84 rfl, List.forall_mem_cons.mpr ⟨np_S.mono (op := np_getf 12 0) (np_s_getf hX dX12_description_85 (C := RX12) (T := TX12) (N := 77) rfl guX12 (by decide) gw1636) nq_getf_le, List.forall_mem_cons.mpr ⟨np_S.mono (op := np_iastT .int) (np_s_iast hX dX12_description_88) nq_iastT_le, List.forall_mem_cons.mpr ⟨np_s_iconst hX dX12_description_89 (by decide), List.forall_mem_cons.mpr ⟨np_s_istore_n hX dX12_description_90 rfl (by decide), List.forall_mem_cons.mpr ⟨np_s_iload_n hX dX12_description_91 rfl, List.forall_mem_cons.mpr ⟨np_s_aload_n hX dX12_description_92 rfl, List.forall_mem_cons.mpr ⟨np_S.mono (op := np_getf 12 0) (np_s_getf hX dX12_description_93 (C := RX12) (T := TX12) (N := 77) rfl guX12 (by decide) gw1636) nq_getf_le, List.forall_mem_cons.mpr ⟨np_S.mono (op := np_ic (fun x y => y ≤ x) 174) (np_s_icmp_ge hX dX12_description_96 (by decide)) nq_ic_le, List.forall_mem_cons.mpr ⟨np_s_bipush hX dX12_description_99 (by decide), List.forall_mem_cons.mpr ⟨np_s_aload_n hX dX12_description_101 rfl, List.forall_mem_cons.mpr ⟨np_S.mono (op := np_getf 12 5) (np_s_getf hX dX12_description_102 (C := RX12) (T := TX12) (N := 77) rfl guX12 (by decide) gw1641) nq_getf_le, List.forall_mem_cons.mpr ⟨np_s_imul hX dX12_description_105, List.forall_mem_cons.mpr ⟨np_s_iload_n hX dX12_description_106 rfl, List.forall_mem_cons.mpr ⟨np_s_iadd hX dX12_description_107, List.forall_mem_cons.mpr ⟨np_s_istore_n hX dX12_description_108 rfl (by decide), List.forall_mem_cons.mpr ⟨np_s_aload_n hX dX12_description_109 rfl, List.forall_mem_cons.mpr ⟨np_S.mono (op := np_getf 12 7) (np_s_getf hX dX12_description_110 (C := RX12) (T := TX12) (N := 77) rfl guX12 (by decide) gw1643) nq_getf_le, List.forall_mem_cons.mpr ⟨np_s_iload_n hX dX12_description_113 rfl, List.forall_mem_cons.mpr ⟨np_s_aload_n hX dX12_description_114 rfl, List.forall_mem_cons.mpr ⟨np_S.mono (op := np_getf 12 1) (np_s_getf hX dX12_description_115 (C := RX12) (T := TX12) (N := 77) rfl guX12 (by decide) gw1637) nq_getf_le, List.forall_mem_cons.mpr ⟨np_s_iload_n hX dX12_description_118 rfl, List.forall_mem_cons.mpr ⟨np_S.mono (op := np_ialdT .int) (np_s_iald hX dX12_description_119) nq_ialdT_le, List.forall_mem_cons.mpr ⟨np_S.mono (op := np_iastT .int) (np_s_iast hX dX12_description_120) nq_iastT_le, List.forall_mem_cons.mpr ⟨np_s_aload_n hX dX12_description_121 rfl, List.forall_mem_cons.mpr ⟨np_S.mono (op := np_getf 12 8) (np_s_getf hX dX12_description_122 (C := RX12) (T := TX12) (N := 77) rfl guX12 (by decide) gw1644) nq_getf_le, List.forall_mem_cons.mpr ⟨np_s_iload_n hX dX12_description_125 rfl, List.forall_mem_cons.mpr ⟨np_s_aload_n hX dX12_description_126 rfl, List.forall_mem_cons.mpr ⟨np_S.mono (op := np_getf 12 2) (np_s_getf hX dX12_description_127 (C := RX12) (T := TX12) (N := 77) rfl guX12 (by decide) gw1638) nq_getf_le, List.forall_mem_cons.mpr ⟨np_s_iload_n hX dX12_description_130 rfl, List.forall_mem_cons.mpr ⟨np_S.mono (op := np_ialdT .int) (np_s_iald hX dX12_description_131) nq_ialdT_le, List.forall_mem_cons.mpr ⟨np_S.mono (op := np_iastT .int) (np_s_iast hX dX12_description_132) nq_iastT_le, List.forall_mem_cons.mpr ⟨np_s_aload_n hX dX12_description_133 rfl, List.forall_mem_cons.mpr ⟨np_S.mono (op := np_getf 12 9) (np_s_getf hX dX12_description_134 (C := RX12) (T := TX12) (N := 77) rfl guX12 (by decide) gw1645) nq_getf_le, List.forall_mem_cons.mpr ⟨np_s_iload_n hX dX12_description_137 rfl, List.forall_mem_cons.mpr ⟨np_s_aload_n hX dX12_description_138 rfl, List.forall_mem_cons.mpr ⟨np_S.mono (op := np_getf 12 3) (np_s_getf hX dX12_description_139 (C := RX12) (T := TX12) (N := 77) rfl guX12 (by decide) gw1639) nq_getf_le, List.forall_mem_cons.mpr ⟨np_s_iload_n hX dX12_description_142 rfl, List.forall_mem_cons.mpr ⟨np_S.mono (op := np_ialdT .int) (np_s_iald hX dX12_description_143) nq_ialdT_le, List.forall_mem_cons.mpr ⟨np_S.mono (op := np_iastT .int) (np_s_iast hX dX12_description_144) nq_iastT_le, List.forall_mem_cons.mpr ⟨np_s_aload_n hX dX12_description_145 rfl, List.forall_mem_cons.mpr ⟨np_S.mono (op := np_getf 12 10) (np_s_getf hX dX12_description_146 (C := RX12) (T := TX12) (N := 77) rfl guX12 (by decide) gw1646) nq_getf_le, List.forall_mem_cons.mpr ⟨np_s_iload_n hX dX12_description_149 rfl, List.forall_mem_cons.mpr ⟨np_s_aload_n hX dX12_description_150 rfl, List.forall_mem_cons.mpr ⟨np_S.mono (op := np_getf 12 4) (np_s_getf hX dX12_description_151 (C := RX12) (T := TX12) (N := 77) rfl guX12 (by decide) gw1640) nq_getf_le, List.forall_mem_cons.mpr ⟨np_s_iload_n hX dX12_description_154 rfl, List.forall_mem_cons.mpr ⟨np_S.mono (op := np_ialdT .int) (np_s_iald hX dX12_description_155) nq_ialdT_le, List.forall_mem_cons.mpr ⟨np_S.mono (op := np_iastT .int) (np_s_iast hX dX12_description_156) nq_iastT_le, List.forall_mem_cons.mpr ⟨np_s_aload_n hX dX12_description_157 rfl, List.forall_mem_cons.mpr ⟨np_S.mono (op := np_getf 12 11) (np_s_getf hX dX12_description_158 (C := RX12) (T := TX12) (N := 77) rfl guX12 (by decide) gw1647) nq_getf_le, List.forall_mem_cons.mpr ⟨np_s_iload_n hX dX12_description_161 rfl, List.forall_mem_cons.mpr ⟨np_s_aload_n hX dX12_description_162 rfl, List.forall_mem_cons.mpr ⟨np_s_iload_n hX dX12_description_163 rfl, List.forall_mem_cons.mpr ⟨np_S.mono (op := np_iastT .int) (np_s_iast hX dX12_description_167) nq_iastT_le, List.forall_mem_cons.mpr ⟨np_s_iinc hX dX12_description_168 (by decide), List.forall_mem_cons.mpr ⟨np_s_goto hX dX12_description_171 (by decide), List.forall_mem_cons.mpr ⟨np_s_aload_n hX dX12_description_174 rfl, List.forall_mem_cons.mpr ⟨np_s_iconst hX dX12_description_175 (by decide), List.forall_mem_cons.mpr ⟨np_S.mono (op := np_putf 12 0 (.int)) (np_s_putf hX dX12_description_176 (C := RX12) (T := TX12) (N := 77) (ty0 := tyX12) rfl guX12 tyX12_ok nmX12 (by decide) gw1636 rfl rfl) nq_putf_le, List.forall_mem_cons.mpr ⟨np_s_aload_n hX dX12_description_179 rfl, List.forall_mem_cons.mpr ⟨np_S.mono (op := np_dup) (np_s_dup hX dX12_description_180) nq_dup_le, List.forall_mem_cons.mpr ⟨np_S.mono (op := np_getf 12 5) (np_s_getf hX dX12_description_181 (C := RX12) (T := TX12) (N := 77) rfl guX12 (by decide) gw1641) nq_getf_le, List.forall_mem_cons.mpr ⟨np_s_iconst hX dX12_description_184 (by decide), List.forall_mem_cons.mpr ⟨np_s_iadd hX dX12_description_185, List.forall_mem_cons.mpr ⟨np_S.mono (op := np_putf 12 5 (.int)) (np_s_putf hX dX12_description_186 (C := RX12) (T := TX12) (N := 77) (ty0 := tyX12) rfl guX12 tyX12_ok nmX12 (by decide) gw1641 rfl rfl) nq_putf_le, List.forall_mem_cons.mpr ⟨np_s_aload_n hX dX12_description_189 rfl, List.forall_mem_cons.mpr ⟨np_S.mono (op := np_getf 12 5) (np_s_getf hX dX12_description_190 (C := RX12) (T := TX12) (N := 77) rfl guX12 (by decide) gw1641) nq_getf_le, List.forall_mem_cons.mpr ⟨np_s_iconst hX dX12_description_193 (by decide), List.forall_mem_cons.mpr ⟨np_s_isub hX dX12_description_194, List.forall_mem_cons.mpr ⟨np_S.mono (op := np_ret X.2.2.1) (np_s_ret hX dX12_description_195) (nq_ret_le hR), fun _ h => nomatch h⟩⟩⟩⟩⟩⟩⟩⟩⟩⟩⟩⟩⟩⟩⟩⟩⟩⟩⟩⟩⟩⟩⟩⟩⟩⟩⟩⟩⟩⟩⟩⟩⟩⟩⟩⟩⟩⟩⟩⟩⟩⟩⟩⟩⟩⟩⟩⟩⟩⟩⟩⟩⟩⟩⟩⟩⟩⟩⟩⟩⟩⟩⟩⟩⟩⟩⟩⟩⟩⟩⟩⟩⟩⟩⟩⟩⟩⟩⟩⟩⟩⟩⟩⟩⟩⟩⟩⟩⟩⟩⟩⟩⟩⟩⟩⟩⟩⟩⟩⟩⟩⟩⟩⟩⟩⟩⟩⟩⟩⟩⟩⟩⟩⟩
abbrev sp_X12_description : np_Sp := nq_in is_X12_description (some .int) 0 0 400
theorem C_X12_description : np_C yX12_description cX12_description 4 (some .int) 1 21 0 0 sp_X12_description := nq_inC 400 (by decide) (fun X Rt hX hmn hR => so_X12_description hX hR)
theorem dX12_sure_0 : decode cX12_sure 0 = .ok (.aload_n 0, 1) := by decide +kernel
theorem dX12_sure_1 : decode cX12_sure 1 = .ok (.aload_n 0, 1) := by decide +kernel
theorem dX12_sure_2 : decode cX12_sure 2 = .ok (.iload_n 1, 1) := by decide +kernel
theorem dX12_sure_3 : decode cX12_sure 3 = .ok (.invokevirtual 219, 3) := by decide +kernel
theorem dX12_sure_6 : decode cX12_sure 6 = .ok (.ifCond .eq 7, 3) := by decide +kernel
theorem dX12_sure_9 : decode cX12_sure 9 = .ok (.iconst 0, 1) := by decide +kernel
theorem dX12_sure_10 : decode cX12_sure 10 = .ok (.goto 4, 3) := by decide +kernel
theorem dX12_sure_13 : decode cX12_sure 13 = .ok (.iconst 1, 1) := by decide +kernel
theorem dX12_sure_14 : decode cX12_sure 14 = .ok (.invokevirtual 202, 3) := by decide +kernel
theorem dX12_sure_17 : decode cX12_sure 17 = .ok (.ifCond .ne 5, 3) := by decide +kernel
theorem dX12_sure_20 : decode cX12_sure 20 = .ok (.iconst 0, 1) := by decide +kernel
theorem dX12_sure_21 : decode cX12_sure 21 = .ok (.ireturn, 1) := by decide +kernel
theorem dX12_sure_22 : decode cX12_sure 22 = .ok (.iconst 0, 1) := by decide +kernel
theorem dX12_sure_23 : decode cX12_sure 23 = .ok (.istore_n 2, 1) := by decide +kernel
theorem dX12_sure_24 : decode cX12_sure 24 = .ok (.iload_n 2, 1) := by decide +kernel
theorem dX12_sure_25 : decode cX12_sure 25 = .ok (.aload_n 0, 1) := by decide +kernel
theorem dX12_sure_26 : decode cX12_sure 26 = .ok (.getfield 22, 3) := by decide +kernel
theorem dX12_sure_29 : decode cX12_sure 29 = .ok (.iload_n 1, 1) := by decide +kernel
theorem dX12_sure_30 : decode cX12_sure 30 = .ok (.iaload, 1) := by decide +kernel
theorem dX12_sure_31 : decode cX12_sure 31 = .ok (.if_icmp .ge 64, 3) := by decide +kernel
theorem dX12_sure_34 : decode cX12_sure 34 = .ok (.bipush 14, 2) := by decide +kernel
theorem dX12_sure_36 : decode cX12_sure 36 = .ok (.iload_n 1, 1) := by decide +kernel
theorem dX12_sure_37 : decode cX12_sure 37 = .ok (.imul, 1) := by decide +kernel
theorem dX12_sure_38 : decode cX12_sure 38 = .ok (.iload_n 2, 1) := by decide +kernel
theorem dX12_sure_39 : decode cX12_sure 39 = .ok (.iadd, 1) := by decide +kernel
theorem dX12_sure_40 : decode cX12_sure 40 = .ok (.istore_n 3, 1) := by decide +kernel
theorem dX12_sure_41 : decode cX12_sure 41 = .ok (.aload_n 0, 1) := by decide +kernel
theorem dX12_sure_42 : decode cX12_sure 42 = .ok (.getfield 25, 3) := by decide +kernel
theorem dX12_sure_45 : decode cX12_sure 45 = .ok (.iload_n 3, 1) := by decide +kernel
theorem dX12_sure_46 : decode cX12_sure 46 = .ok (.iaload, 1) := by decide +kernel
theorem dX12_sure_47 : decode cX12_sure 47 = .ok (.iconst 1, 1) := by decide +kernel
theorem dX12_sure_48 : decode cX12_sure 48 = .ok (.if_icmp .ne 13, 3) := by decide +kernel
theorem dX12_sure_51 : decode cX12_sure 51 = .ok (.aload_n 0, 1) := by decide +kernel
theorem dX12_sure_52 : decode cX12_sure 52 = .ok (.getfield 34, 3) := by decide +kernel
theorem dX12_sure_55 : decode cX12_sure 55 = .ok (.iload_n 3, 1) := by decide +kernel
theorem dX12_sure_56 : decode cX12_sure 56 = .ok (.iaload, 1) := by decide +kernel
theorem dX12_sure_57 : decode cX12_sure 57 = .ok (.iconst 2, 1) := by decide +kernel
theorem dX12_sure_58 : decode cX12_sure 58 = .ok (.if_icmp .eq 29, 3) := by decide +kernel
theorem dX12_sure_61 : decode cX12_sure 61 = .ok (.aload_n 0, 1) := by decide +kernel
theorem dX12_sure_62 : decode cX12_sure 62 = .ok (.getfield 25, 3) := by decide +kernel
theorem dX12_sure_65 : decode cX12_sure 65 = .ok (.iload_n 3, 1) := by decide +kernel
theorem dX12_sure_66 : decode cX12_sure 66 = .ok (.iaload, 1) := by decide +kernel
theorem dX12_sure_67 : decode cX12_sure 67 = .ok (.iconst 2, 1) := by decide +kernel
theorem dX12_sure_68 : decode cX12_sure 68 = .ok (.if_icmp .ne 21, 3) := by decide +kernel
theorem dX12_sure_71 : decode cX12_sure 71 = .ok (.aload_n 0, 1) := by decide +kernel
theorem dX12_sure_72 : decode cX12_sure 72 = .ok (.getfield 31, 3) := by decide +kernel
theorem dX12_sure_75 : decode cX12_sure 75 = .ok (.iload_n 3, 1) := by decide +kernel
theorem dX12_sure_76 : decode cX12_sure 76 = .ok (.iaload, 1) := by decide +kernel
theorem dX12_sure_77 : decode cX12_sure 77 = .ok (.bipush 97, 2) := by decide +kernel
theorem dX12_sure_79 : decode cX12_sure 79 = .ok (.bipush 122, 2) := by decide +kernel
theorem dX12_sure_81 : decode cX12_sure 81 = .ok (.invokestatic 184, 3) := by decide +kernel
theorem dX12_sure_84 : decode cX12_sure 84 = .ok (.ifCond .eq 5, 3) := by decide +kernel
theorem dX12_sure_87 : decode cX12_sure 87 = .ok (.iload_n 2, 1) := by decide +kernel
theorem dX12_sure_88 : decode cX12_sure 88 = .ok (.ireturn, 1) := by decide +kernel
theorem dX12_sure_89 : decode cX12_sure 89 = .ok (.iinc 2 1, 3) := by decide +kernel
theorem dX12_sure_92 : decode cX12_sure 92 = .ok (.goto (-68), 3) := by decide +kernel
theorem dX12_sure_95 : decode cX12_sure 95 = .ok (.iconst (-1), 1) := by decide +kernel
theorem dX12_sure_96 : decode cX12_sure 96 = .ok (.ireturn, 1) := by decide +kernel
def is_X12_sure (Rt : np_Rt) : List (Nat × np_Op) := [(0, np_ald 1 0), (1, np_ald 1 0), (2, np_ild 1 1), (3, nq_callV 12 2 sp_X12_isDescription 2 0 0 0 0), (6, nq_if (fun x => x = 0) 13), (9, np_push 1 (.int 0)), (10, np_goto 14), (13, np_push 1 (.int 1)), (14, nq_callV 12 2 sp_X12_can 2 0 0 0 0), (17, nq_ifne 22), (20, np_push 1 (.int 0)), (21, np_ret Rt), (22, np_push 1 (.int 0)), (23, np_ist 1 2), (24, np_ild 1 2), (25, np_ald 1 0), (26, nq_getf 12 6), (29, np_ild 1 1), (30, nq_ialdT .int), (31, nq_ic (fun x y => y ≤ x) 95), (34, np_push 2 (.int 14)), (36, np_ild 1 1), (37, np_ib (fun x y => x * y)), (38, np_ild 1 2), (39, np_ib (fun x y => x + y)), (40, np_ist 1 3), (41, np_ald 1 0), (42, nq_getf 12 7), (45, np_ild 1 3), (46, nq_ialdT .int), (47, np_push 1 (.int 1)), (48, nq_icne 61), (51, np_ald 1 0), (52, nq_getf 12 10), (55, np_ild 1 3), (56, nq_ialdT .int), (57, np_push 1 (.int 2)), (58, nq_ic (fun x y => x = y) 87), (61, np_ald 1 0), (62, nq_getf 12 7), (65, np_ild 1 3), (66, nq_ialdT .int), (67, np_push 1 (.int 2)), (68, nq_icne 89), (71, np_ald 1 0), (72, nq_getf 12 9), (75, np_ild 1 3), (76, nq_ialdT .int), (77, np_push 2 (.int 97)), (79, np_push 2 (.int 122)), (81, nq_call 3 sp_X12_isIn 3 0 0 0 0), (84, nq_if (fun x => x = 0) 89), (87, np_ild 1 2), (88, np_ret Rt), (89, np_iinc 2 1), (92, np_goto 24), (95, np_push 1 (.int (-1))), (96, np_ret Rt)]
set_option maxRecDepth 20000 in
theorem so_X12_sure {X : np_Ctx} {Rt : np_Rt} (hX : np_ok RX12 cX12_sure 4 2 43 0 0 .ireturn X) (hR : ∀ st w ce sl, Rt st w ce sl → X.2.2.1 st w ce sl) : ∀ q ∈ is_X12_sure Rt, np_S X q.1 q.2 :=
  List.forall_mem_cons.mpr ⟨np_s_aload_n hX dX12_sure_0 rfl, List.forall_mem_cons.mpr ⟨np_s_aload_n hX dX12_sure_1 rfl, List.forall_mem_cons.mpr ⟨np_s_iload_n hX dX12_sure_2 rfl, List.forall_mem_cons.mpr ⟨np_S.mono (op := np_callV 12 2 sp_X12_isDescription 2 0 0 0 0) (np_s_callV hX C_X12_isDescription dX12_sure_3 (q := (RX12, TX12, 77)) rfl rfl gw1921 gw142 gw1918 gw1920 gw67 ⟨by decide, by decide, by decide⟩ (by decide) (by decide)) nq_callV_le, List.forall_mem_cons.mpr ⟨np_S.mono (op := np_if (fun x => x = 0) 13) (np_s_if_eq hX dX12_sure_6 (by decide)) nq_if_le, List.forall_mem_cons.mpr ⟨np_s_iconst hX dX12_sure_9 (by decide), List.forall_mem_cons.mpr ⟨np_s_goto hX dX12_sure_10 (by decide), List.forall_mem_cons.mpr ⟨np_s_iconst hX dX12_sure_13 (by decide), List.forall_mem_cons.mpr ⟨np_S.mono (op := np_callV 12 2 sp_X12_can 2 0 0 0 0) (np_s_callV hX C_X12_can dX12_sure_14 (q := (RX12, TX12, 77)) rfl rfl gw1890 gw142 gw1887 gw1889 gw63 ⟨by decide, by decide, by decide⟩ (by decide) (by decide)) nq_callV_le, List.forall_mem_cons.mpr ⟨np_S.mono (op := np_ifne 22) (np_s_if_ne hX dX12_sure_17 (by decide)) nq_ifne_le, List.forall_mem_cons.mpr ⟨np_s_iconst hX dX12_sure_20 (by decide), List.forall_mem_cons.mpr ⟨np_S.mono (op := np_ret X.2.2.1) (np_s_ret hX dX12_sure_21) (nq_ret_le hR), List.forall_mem_cons.mpr ⟨np_s_iconst hX dX12_sure_22 (by decide), List.forall_mem_cons.mpr ⟨np_s_istore_n hX dX12_sure_23 rfl (by decide), List.forall_mem_cons.mpr ⟨np_s_iload_n hX dX12_sure_24 rfl, List.forall_mem_cons.mpr ⟨np_s_aload_n hX dX12_sure_25 rfl, List.forall_mem_cons.mpr ⟨np_S.mono (op := np_getf 12 6) (np_s_getf hX dX12_sure_26 (C := RX12) (T := TX12) (N := 77) rfl guX12 (by decide) gw1642) nq_getf_le, List.forall_mem_cons.mpr ⟨np_s_iload_n hX dX12_sure_29 rfl, List.forall_mem_cons.mpr ⟨np_S.mono (op := np_ialdT .int) (np_s_iald hX dX12_sure_30) nq_ialdT_le, List.forall_mem_cons.mpr ⟨np_S.mono (op := np_ic (fun x y => y ≤ x) 95) (np_s_icmp_ge hX dX12_sure_31 (by decide)) nq_ic_le, List.forall_mem_cons.mpr ⟨np_s_bipush hX dX12_sure_34 (by decide), List.forall_mem_cons.mpr ⟨np_s_iload_n hX dX12_sure_36 rfl, List.forall_mem_cons.mpr ⟨np_s_imul hX dX12_sure_37, List.forall_mem_cons.mpr ⟨np_s_iload_n hX dX12_sure_38 rfl, List.forall_mem_cons.mpr ⟨np_s_iadd hX dX12_sure_39, List.forall_mem_cons.mpr ⟨np_s_istore_n hX dX12_sure_40 rfl (by decide), List.forall_mem_cons.mpr ⟨np_s_aload_n hX dX12_sure_41 rfl, List.forall_mem_cons.mpr ⟨np_S.mono (op := np_getf 12 7) (np_s_getf hX dX12_sure_42 (C := RX12) (T := TX12) (N := 77) rfl guX12 (by decide) gw1643) nq_getf_le, List.forall_mem_cons.mpr ⟨np_s_iload_n hX dX12_sure_45 rfl, List.forall_mem_cons.mpr ⟨np_S.mono (op := np_ialdT .int) (np_s_iald hX dX12_sure_46) nq_ialdT_le, List.forall_mem_cons.mpr ⟨np_s_iconst hX dX12_sure_47 (by decide), List.forall_mem_cons.mpr ⟨np_S.mono (op := np_icne 61) (np_s_icmp_ne hX dX12_sure_48 (by decide)) nq_icne_le, List.forall_mem_cons.mpr ⟨np_s_aload_n hX dX12_sure_51 rfl, List.forall_mem_cons.mpr ⟨np_S.mono (op := np_getf 12 10) (np_s_getf hX dX12_sure_52 (C := RX12) (T := TX12) (N := 77) rfl guX12 (by decide) gw1646) nq_getf_le, List.forall_mem_cons.mpr ⟨np_s_iload_n hX dX12_sure_55 rfl, List.forall_mem_cons.mpr ⟨np_S.mono (op := np_ialdT .int) (np_s_iald hX dX12_sure_56) nq_ialdT_le, List.forall_mem_cons.mpr ⟨np_s_iconst hX dX12_sure_57 (by decide), List.forall_mem_cons.mpr ⟨np_S.mono (op := np_ic (fun x y => x = y) 87) (np_s_icmp_eq hX dX12_sure_58 (by decide)) nq_ic_le, List.forall_mem_cons.mpr ⟨np_s_aload_n hX dX12_sure_61 rfl, List.forall_mem_cons.mpr ⟨np_S.mono (op := np_getf 12 7) (np_s_getf hX dX12_sure_62 (C := RX12) (T := TX12) (N := 77) rfl guX12 (by decide) gw1643) nq_getf_le, List.forall_mem_cons.mpr ⟨np_s_iload_n hX dX12_sure_65 rfl, List.forall_mem_cons.mpr ⟨np_S.mono (op := np_ialdT .int) (np_s_iald hX dX12_sure_66) nq_ialdT_le, List.forall_mem_cons.mpr ⟨np_s_iconst hX dX12_sure_67 (by decide), List.forall_mem_cons.mpr ⟨np_S.mono (op := np_icne 89) (np_s_icmp_ne hX dX12_sure_68 (by decide)) nq_icne_le, List.forall_mem_cons.mpr ⟨np_s_aload_n hX dX12_sure_71 rfl, List.forall_mem_cons.mpr ⟨np_S.mono (op := np_getf 12 9) (np_s_getf hX dX12_sure_72 (C := RX12) (T := TX12) (N := 77) rfl guX12 (by decide) gw1645) nq_getf_le, List.forall_mem_cons.mpr ⟨np_s_iload_n hX dX12_sure_75 rfl, List.forall_mem_cons.mpr ⟨np_S.mono (op := np_ialdT .int) (np_s_iald hX dX12_sure_76) nq_ialdT_le, List.forall_mem_cons.mpr ⟨np_s_bipush hX dX12_sure_77 (by decide), List.forall_mem_cons.mpr ⟨np_s_bipush hX dX12_sure_79 (by decide), List.forall_mem_cons.mpr ⟨np_S.mono (op := np_call 3 sp_X12_isIn 3 0 0 0 0) (np_s_callS hX C_X12_isIn dX12_sure_81 gw1880 gw142 gw1878 gw1879 ⟨by decide, by decide, by decide⟩ (by decide) (by decide)) nq_call_le, List.forall_mem_cons.mpr ⟨np_S.mono (op := np_if (fun x => x = 0) 89) (np_s_if_eq hX dX12_sure_84 (by decide)) nq_if_le, List.forall_mem_cons.mpr ⟨np_s_iload_n hX dX12_sure_87 rfl, List.forall_mem_cons.mpr ⟨np_S.mono (op := np_ret X.2.2.1) (np_s_ret hX dX12_sure_88) (nq_ret_le hR), List.forall_mem_cons.mpr ⟨np_s_iinc hX dX12_sure_89 (by decide), List.forall_mem_cons.mpr ⟨np_s_goto hX dX12_sure_92 (by decide), List.forall_mem_cons.mpr ⟨np_s_iconst hX dX12_sure_95 (by decide), List.forall_mem_cons.mpr ⟨np_S.mono (op := np_ret X.2.2.1) (np_s_ret hX dX12_sure_96) (nq_ret_le hR), fun _ h => nomatch h⟩⟩⟩⟩⟩⟩⟩⟩⟩⟩⟩⟩⟩⟩⟩⟩⟩⟩⟩⟩⟩⟩⟩⟩⟩⟩⟩⟩⟩⟩⟩⟩⟩⟩⟩⟩⟩⟩⟩⟩⟩⟩⟩⟩⟩⟩⟩⟩⟩⟩⟩⟩⟩⟩⟩⟩⟩⟩
abbrev sp_X12_sure : np_Sp := nq_in is_X12_sure (some .int) 0 0 400
theorem C_X12_sure : np_C yX12_sure cX12_sure 4 (some .int) 2 43 0 0 sp_X12_sure := nq_inC 400 (by decide) (fun X Rt hX hmn hR => so_X12_sure hX hR)
theorem dX12_constrain_0 : decode cX12_constrain 0 = .ok (.iload_n 2, 1) := by decide +kernel
theorem dX12_constrain_1 : decode cX12_constrain 1 = .ok (.ifCond .eq 8, 3) := by decide +kernel
theorem dX12_constrain_4 : decode cX12_constrain 4 = .ok (.iload_n 2, 1) := by decide +kernel
theorem dX12_constrain_5 : decode cX12_constrain 5 = .ok (.iconst 2, 1) := by decide +kernel
theorem dX12_constrain_6 : decode cX12_constrain 6 = .ok (.if_icmp .ne 7, 3) := by decide +kernel
theorem dX12_constrain_9 : decode cX12_constrain 9 = .ok (.iconst 1, 1) := by decide +kernel
theorem dX12_constrain_10 : decode cX12_constrain 10 = .ok (.goto 4, 3) := by decide +kernel
theorem dX12_constrain_13 : decode cX12_constrain 13 = .ok (.iconst 0, 1) := by decide +kernel
theorem dX12_constrain_14 : decode cX12_constrain 14 = .ok (.istore 7, 2) := by decide +kernel
theorem dX12_constrain_16 : decode cX12_constrain 16 = .ok (.aload_n 0, 1) := by decide +kernel
theorem dX12_constrain_17 : decode cX12_constrain 17 = .ok (.iload_n 1, 1) := by decide +kernel
theorem dX12_constrain_18 : decode cX12_constrain 18 = .ok (.invokevirtual 219, 3) := by decide +kernel
theorem dX12_constrain_21 : decode cX12_constrain 21 = .ok (.ifCond .eq 40, 3) := by decide +kernel
theorem dX12_constrain_24 : decode cX12_constrain 24 = .ok (.iload_n 3, 1) := by decide +kernel
theorem dX12_constrain_25 : decode cX12_constrain 25 = .ok (.invokestatic 191, 3) := by decide +kernel
theorem dX12_constrain_28 : decode cX12_constrain 28 = .ok (.ifCond .eq 33, 3) := by decide +kernel
theorem dX12_constrain_31 : decode cX12_constrain 31 = .ok (.iload 7, 2) := by decide +kernel
theorem dX12_constrain_33 : decode cX12_constrain 33 = .ok (.ifCond .eq 11, 3) := by decide +kernel
theorem dX12_constrain_36 : decode cX12_constrain 36 = .ok (.iload 4, 2) := by decide +kernel
theorem dX12_constrain_38 : decode cX12_constrain 38 = .ok (.invokestatic 191, 3) := by decide +kernel
theorem dX12_constrain_41 : decode cX12_constrain 41 = .ok (.ifCond .eq 20, 3) := by decide +kernel
theorem dX12_constrain_44 : decode cX12_constrain 44 = .ok (.iload_n 2, 1) := by decide +kernel
theorem dX12_constrain_45 : decode cX12_constrain 45 = .ok (.iconst 2, 1) := by decide +kernel
theorem dX12_constrain_46 : decode cX12_constrain 46 = .ok (.if_icmp .ne 11, 3) := by decide +kernel
theorem dX12_constrain_49 : decode cX12_constrain 49 = .ok (.iload 5, 2) := by decide +kernel
theorem dX12_constrain_51 : decode cX12_constrain 51 = .ok (.invokestatic 191, 3) := by decide +kernel
theorem dX12_constrain_54 : decode cX12_constrain 54 = .ok (.ifCond .eq 7, 3) := by decide +kernel
theorem dX12_constrain_57 : decode cX12_constrain 57 = .ok (.iconst 1, 1) := by decide +kernel
theorem dX12_constrain_58 : decode cX12_constrain 58 = .ok (.goto 4, 3) := by decide +kernel
theorem dX12_constrain_61 : decode cX12_constrain 61 = .ok (.iconst 0, 1) := by decide +kernel
theorem dX12_constrain_62 : decode cX12_constrain 62 = .ok (.istore 8, 2) := by decide +kernel
theorem dX12_constrain_64 : decode cX12_constrain 64 = .ok (.iload 8, 2) := by decide +kernel
theorem dX12_constrain_66 : decode cX12_constrain 66 = .ok (.ifCond .eq 70, 3) := by decide +kernel
theorem dX12_constrain_69 : decode cX12_constrain 69 = .ok (.iload_n 2, 1) := by decide +kernel
theorem dX12_constrain_70 : decode cX12_constrain 70 = .ok (.iconst 0, 1) := by decide +kernel
theorem dX12_constrain_71 : decode cX12_constrain 71 = .ok (.iconst 3, 1) := by decide +kernel
theorem dX12_constrain_72 : decode cX12_constrain 72 = .ok (.invokestatic 184, 3) := by decide +kernel
theorem dX12_constrain_75 : decode cX12_constrain 75 = .ok (.ifCond .eq 61, 3) := by decide +kernel
theorem dX12_constrain_78 : decode cX12_constrain 78 = .ok (.iload_n 2, 1) := by decide +kernel
theorem dX12_constrain_79 : decode cX12_constrain 79 = .ok (.iconst 1, 1) := by decide +kernel
theorem dX12_constrain_80 : decode cX12_constrain 80 = .ok (.if_icmp .ne 15, 3) := by decide +kernel
theorem dX12_constrain_83 : decode cX12_constrain 83 = .ok (.iload 4, 2) := by decide +kernel
theorem dX12_constrain_85 : decode cX12_constrain 85 = .ok (.iconst 0, 1) := by decide +kernel
theorem dX12_constrain_86 : decode cX12_constrain 86 = .ok (.sipush 999, 3) := by decide +kernel
theorem dX12_constrain_89 : decode cX12_constrain 89 = .ok (.invokestatic 184, 3) := by decide +kernel
theorem dX12_constrain_92 : decode cX12_constrain 92 = .ok (.ifCond .eq 44, 3) := by decide +kernel
theorem dX12_constrain_95 : decode cX12_constrain 95 = .ok (.iload_n 2, 1) := by decide +kernel
theorem dX12_constrain_96 : decode cX12_constrain 96 = .ok (.iconst 3, 1) := by decide +kernel
theorem dX12_constrain_97 : decode cX12_constrain 97 = .ok (.if_icmp .ne 14, 3) := by decide +kernel
theorem dX12_constrain_100 : decode cX12_constrain 100 = .ok (.iload 4, 2) := by decide +kernel
theorem dX12_constrain_102 : decode cX12_constrain 102 = .ok (.iconst 1, 1) := by decide +kernel
theorem dX12_constrain_103 : decode cX12_constrain 103 = .ok (.bipush 99, 2) := by decide +kernel
theorem dX12_constrain_105 : decode cX12_constrain 105 = .ok (.invokestatic 184, 3) := by decide +kernel
theorem dX12_constrain_108 : decode cX12_constrain 108 = .ok (.ifCond .eq 28, 3) := by decide +kernel
theorem dX12_constrain_111 : decode cX12_constrain 111 = .ok (.iload_n 2, 1) := by decide +kernel
theorem dX12_constrain_112 : decode cX12_constrain 112 = .ok (.iconst 2, 1) := by decide +kernel
theorem dX12_constrain_113 : decode cX12_constrain 113 = .ok (.if_icmp .eq 8, 3) := by decide +kernel
theorem dX12_constrain_116 : decode cX12_constrain 116 = .ok (.iload 5, 2) := by decide +kernel
theorem dX12_constrain_118 : decode cX12_constrain 118 = .ok (.ifCond .ne 18, 3) := by decide +kernel
theorem dX12_constrain_121 : decode cX12_constrain 121 = .ok (.iload 6, 2) := by decide +kernel
theorem dX12_constrain_123 : decode cX12_constrain 123 = .ok (.iconst 1, 1) := by decide +kernel
theorem dX12_constrain_124 : decode cX12_constrain 124 = .ok (.bipush 99, 2) := by decide +kernel
theorem dX12_constrain_126 : decode cX12_constrain 126 = .ok (.invokestatic 184, 3) := by decide +kernel
theorem dX12_constrain_129 : decode cX12_constrain 129 = .ok (.ifCond .eq 7, 3) := by decide +kernel
theorem dX12_constrain_132 : decode cX12_constrain 132 = .ok (.iconst 1, 1) := by decide +kernel
theorem dX12_constrain_133 : decode cX12_constrain 133 = .ok (.goto 4, 3) := by decide +kernel
theorem dX12_constrain_136 : decode cX12_constrain 136 = .ok (.iconst 0, 1) := by decide +kernel
theorem dX12_constrain_137 : decode cX12_constrain 137 = .ok (.istore 9, 2) := by decide +kernel
theorem dX12_constrain_139 : decode cX12_constrain 139 = .ok (.iload 9, 2) := by decide +kernel
theorem dX12_constrain_141 : decode cX12_constrain 141 = .ok (.ifCond .eq 46, 3) := by decide +kernel
theorem dX12_constrain_144 : decode cX12_constrain 144 = .ok (.aload_n 0, 1) := by decide +kernel
theorem dX12_constrain_145 : decode cX12_constrain 145 = .ok (.iload_n 1, 1) := by decide +kernel
theorem dX12_constrain_146 : decode cX12_constrain 146 = .ok (.iload_n 3, 1) := by decide +kernel
theorem dX12_constrain_147 : decode cX12_constrain 147 = .ok (.invokevirtual 222, 3) := by decide +kernel
theorem dX12_constrain_150 : decode cX12_constrain 150 = .ok (.ifCond .eq 37, 3) := by decide +kernel
theorem dX12_constrain_153 : decode cX12_constrain 153 = .ok (.iload 7, 2) := by decide +kernel
theorem dX12_constrain_155 : decode cX12_constrain 155 = .ok (.ifCond .eq 13, 3) := by decide +kernel
theorem dX12_constrain_158 : decode cX12_constrain 158 = .ok (.aload_n 0, 1) := by decide +kernel
theorem dX12_constrain_159 : decode cX12_constrain 159 = .ok (.iload_n 1, 1) := by decide +kernel
theorem dX12_constrain_160 : decode cX12_constrain 160 = .ok (.iload 4, 2) := by decide +kernel
theorem dX12_constrain_162 : decode cX12_constrain 162 = .ok (.invokevirtual 222, 3) := by decide +kernel
theorem dX12_constrain_165 : decode cX12_constrain 165 = .ok (.ifCond .eq 22, 3) := by decide +kernel
theorem dX12_constrain_168 : decode cX12_constrain 168 = .ok (.iload_n 2, 1) := by decide +kernel
theorem dX12_constrain_169 : decode cX12_constrain 169 = .ok (.iconst 2, 1) := by decide +kernel
theorem dX12_constrain_170 : decode cX12_constrain 170 = .ok (.if_icmp .ne 13, 3) := by decide +kernel
theorem dX12_constrain_173 : decode cX12_constrain 173 = .ok (.aload_n 0, 1) := by decide +kernel
theorem dX12_constrain_174 : decode cX12_constrain 174 = .ok (.iload_n 1, 1) := by decide +kernel
theorem dX12_constrain_175 : decode cX12_constrain 175 = .ok (.iload 5, 2) := by decide +kernel
theorem dX12_constrain_177 : decode cX12_constrain 177 = .ok (.invokevirtual 222, 3) := by decide +kernel
theorem dX12_constrain_180 : decode cX12_constrain 180 = .ok (.ifCond .eq 7, 3) := by decide +kernel
theorem dX12_constrain_183 : decode cX12_constrain 183 = .ok (.iconst 1, 1) := by decide +kernel
theorem dX12_constrain_184 : decode cX12_constrain 184 = .ok (.goto 4, 3) := by decide +kernel
theorem dX12_constrain_187 : decode cX12_constrain 187 = .ok (.iconst 0, 1) := by decide +kernel
theorem dX12_constrain_188 : decode cX12_constrain 188 = .ok (.istore 9, 2) := by decide +kernel
theorem dX12_constrain_190 : decode cX12_constrain 190 = .ok (.aload_n 0, 1) := by decide +kernel
theorem dX12_constrain_191 : decode cX12_constrain 191 = .ok (.iload 8, 2) := by decide +kernel
theorem dX12_constrain_193 : decode cX12_constrain 193 = .ok (.ifCond .ne 7, 3) := by decide +kernel
theorem dX12_constrain_196 : decode cX12_constrain 196 = .ok (.iconst 1, 1) := by decide +kernel
theorem dX12_constrain_197 : decode cX12_constrain 197 = .ok (.goto 28, 3) := by decide +kernel
theorem dX12_constrain_200 : decode cX12_constrain 200 = .ok (.iload 9, 2) := by decide +kernel
theorem dX12_constrain_202 : decode cX12_constrain 202 = .ok (.ifCond .ne 7, 3) := by decide +kernel
theorem dX12_constrain_205 : decode cX12_constrain 205 = .ok (.iconst 2, 1) := by decide +kernel
theorem dX12_constrain_206 : decode cX12_constrain 206 = .ok (.goto 19, 3) := by decide +kernel
theorem dX12_constrain_209 : decode cX12_constrain 209 = .ok (.aload_n 0, 1) := by decide +kernel
theorem dX12_constrain_210 : decode cX12_constrain 210 = .ok (.getfield 40, 3) := by decide +kernel
theorem dX12_constrain_213 : decode cX12_constrain 213 = .ok (.iload_n 1, 1) := by decide +kernel
theorem dX12_constrain_214 : decode cX12_constrain 214 = .ok (.iaload, 1) := by decide +kernel
theorem dX12_constrain_215 : decode cX12_constrain 215 = .ok (.bipush 8, 2) := by decide +kernel
theorem dX12_constrain_217 : decode cX12_constrain 217 = .ok (.if_icmp .ne 7, 3) := by decide +kernel
theorem dX12_constrain_220 : decode cX12_constrain 220 = .ok (.iconst 3, 1) := by decide +kernel
theorem dX12_constrain_221 : decode cX12_constrain 221 = .ok (.goto 4, 3) := by decide +kernel
theorem dX12_constrain_224 : decode cX12_constrain 224 = .ok (.iconst 0, 1) := by decide +kernel
theorem dX12_constrain_225 : decode cX12_constrain 225 = .ok (.invokevirtual 202, 3) := by decide +kernel
theorem dX12_constrain_228 : decode cX12_constrain 228 = .ok (.ifCond .ne 5, 3) := by decide +kernel
theorem dX12_constrain_231 : decode cX12_constrain 231 = .ok (.iconst 0, 1) := by decide +kernel
theorem dX12_constrain_232 : decode cX12_constrain 232 = .ok (.ireturn, 1) := by decide +kernel
theorem dX12_constrain_233 : decode cX12_constrain 233 = .ok (.bipush 8, 2) := by decide +kernel
theorem dX12_constrain_235 : decode cX12_constrain 235 = .ok (.iload_n 1, 1) := by decide +kernel
theorem dX12_constrain_236 : decode cX12_constrain 236 = .ok (.imul, 1) := by decide +kernel
theorem dX12_constrain_237 : decode cX12_constrain 237 = .ok (.aload_n 0, 1) := by decide +kernel
theorem dX12_constrain_238 : decode cX12_constrain 238 = .ok (.getfield 40, 3) := by decide +kernel
theorem dX12_constrain_241 : decode cX12_constrain 241 = .ok (.iload_n 1, 1) := by decide +kernel
theorem dX12_constrain_242 : decode cX12_constrain 242 = .ok (.iaload, 1) := by decide +kernel
theorem dX12_constrain_243 : decode cX12_constrain 243 = .ok (.iadd, 1) := by decide +kernel
theorem dX12_constrain_244 : decode cX12_constrain 244 = .ok (.istore 10, 2) := by decide +kernel
theorem dX12_constrain_246 : decode cX12_constrain 246 = .ok (.aload_n 0, 1) := by decide +kernel
theorem dX12_constrain_247 : decode cX12_constrain 247 = .ok (.getfield 43, 3) := by decide +kernel
theorem dX12_constrain_250 : decode cX12_constrain 250 = .ok (.iload 10, 2) := by decide +kernel
theorem dX12_constrain_252 : decode cX12_constrain 252 = .ok (.iload_n 2, 1) := by decide +kernel
theorem dX12_constrain_253 : decode cX12_constrain 253 = .ok (.iastore, 1) := by decide +kernel
theorem dX12_constrain_254 : decode cX12_constrain 254 = .ok (.aload_n 0, 1) := by decide +kernel
theorem dX12_constrain_255 : decode cX12_constrain 255 = .ok (.getfield 46, 3) := by decide +kernel
theorem dX12_constrain_258 : decode cX12_constrain 258 = .ok (.iload 10, 2) := by decide +kernel
theorem dX12_constrain_260 : decode cX12_constrain 260 = .ok (.iload_n 3, 1) := by decide +kernel
theorem dX12_constrain_261 : decode cX12_constrain 261 = .ok (.iastore, 1) := by decide +kernel
theorem dX12_constrain_262 : decode cX12_constrain 262 = .ok (.aload_n 0, 1) := by decide +kernel
theorem dX12_constrain_263 : decode cX12_constrain 263 = .ok (.getfield 49, 3) := by decide +kernel
theorem dX12_constrain_266 : decode cX12_constrain 266 = .ok (.iload 10, 2) := by decide +kernel
theorem dX12_constrain_268 : decode cX12_constrain 268 = .ok (.iload 4, 2) := by decide +kernel
theorem dX12_constrain_270 : decode cX12_constrain 270 = .ok (.iastore, 1) := by decide +kernel
theorem dX12_constrain_271 : decode cX12_constrain 271 = .ok (.aload_n 0, 1) := by decide +kernel
theorem dX12_constrain_272 : decode cX12_constrain 272 = .ok (.getfield 52, 3) := by decide +kernel
theorem dX12_constrain_275 : decode cX12_constrain 275 = .ok (.iload 10, 2) := by decide +kernel
theorem dX12_constrain_277 : decode cX12_constrain 277 = .ok (.iload 5, 2) := by decide +kernel
theorem dX12_constrain_279 : decode cX12_constrain 279 = .ok (.iastore, 1) := by decide +kernel
theorem dX12_constrain_280 : decode cX12_constrain 280 = .ok (.aload_n 0, 1) := by decide +kernel
theorem dX12_constrain_281 : decode cX12_constrain 281 = .ok (.getfield 55, 3) := by decide +kernel
theorem dX12_constrain_284 : decode cX12_constrain 284 = .ok (.iload 10, 2) := by decide +kernel
theorem dX12_constrain_286 : decode cX12_constrain 286 = .ok (.iload 6, 2) := by decide +kernel
theorem dX12_constrain_288 : decode cX12_constrain 288 = .ok (.iastore, 1) := by decide +kernel
theorem dX12_constrain_289 : decode cX12_constrain 289 = .ok (.aload_n 0, 1) := by decide +kernel
theorem dX12_constrain_290 : decode cX12_constrain 290 = .ok (.getfield 40, 3) := by decide +kernel
theorem dX12_constrain_293 : decode cX12_constrain 293 = .ok (.iload_n 1, 1) := by decide +kernel
theorem dX12_constrain_294 : decode cX12_constrain 294 = .ok (.dup2, 1) := by decide +kernel
theorem dX12_constrain_295 : decode cX12_constrain 295 = .ok (.iaload, 1) := by decide +kernel
theorem dX12_constrain_296 : decode cX12_constrain 296 = .ok (.iconst 1, 1) := by decide +kernel
theorem dX12_constrain_297 : decode cX12_constrain 297 = .ok (.iadd, 1) := by decide +kernel
theorem dX12_constrain_298 : decode cX12_constrain 298 = .ok (.iastore, 1) := by decide +kernel
theorem dX12_constrain_299 : decode cX12_constrain 299 = .ok (.aload_n 0, 1) := by decide +kernel
theorem dX12_constrain_300 : decode cX12_constrain 300 = .ok (.getfield 40, 3) := by decide +kernel
theorem dX12_constrain_303 : decode cX12_constrain 303 = .ok (.iload_n 1, 1) := by decide +kernel
theorem dX12_constrain_304 : decode cX12_constrain 304 = .ok (.iaload, 1) := by decide +kernel
theorem dX12_constrain_305 : decode cX12_constrain 305 = .ok (.ireturn, 1) := by decide +kernel
def is_X12_constrain (Rt : np_Rt) : List (Nat × np_Op) := [(0, np_ild 1 2), (1, nq_if (fun x => x = 0) 9), (4, np_ild 1 2), (5, np_push 1 (.int 2)), (6, nq_icne 13), (9, np_push 1 (.int 1)), (10, np_goto 14), (13, np_push 1 (.int 0)), (14, np_ist 2 7), (16, np_ald 1 0), (17, np_ild 1 1), (18, nq_callV 12 2 sp_X12_isDescription 2 0 0 0 0), (21, nq_if (fun x => x = 0) 61), (24, np_ild 1 3), (25, nq_call 1 sp_X12_isSlot 1 0 0 0 0), (28, nq_if (fun x => x = 0) 61), (31, np_ild 2 7), (33, nq_if (fun x => x = 0) 44), (36, np_ild 2 4), (38, nq_call 1 sp_X12_isSlot 1 0 0 0 0), (41, nq_if (fun x => x = 0) 61), (44, np_ild 1 2), (45, np_push 1 (.int 2)), (46, nq_icne 57), (49, np_ild 2 5), (51, nq_call 1 sp_X12_isSlot 1 0 0 0 0), (54, nq_if (fun x => x = 0) 61), (57, np_push 1 (.int 1)), (58, np_goto 62), (61, np_push 1 (.int 0)), (62, np_ist 2 8), (64, np_ild 2 8), (66, nq_if (fun x => x = 0) 136), (69, np_ild 1 2), (70, np_push 1 (.int 0)), (71, np_push 1 (.int 3)), (72, nq_call 3 sp_X12_isIn 3 0 0 0 0), (75, nq_if (fun x => x = 0) 136), (78, np_ild 1 2), (79, np_push 1 (.int 1)), (80, nq_icne 95), (83, np_ild 2 4), (85, np_push 1 (.int 0)), (86, np_push 3 (.int 999)), (89, nq_call 3 sp_X12_isIn 3 0 0 0 0), (92, nq_if (fun x => x = 0) 136), (95, np_ild 1 2), (96, np_push 1 (.int 3)), (97, nq_icne 111), (100, np_ild 2 4), (102, np_push 1 (.int 1)), (103, np_push 2 (.int 99)), (105, nq_call 3 sp_X12_isIn 3 0 0 0 0), (108, nq_if (fun x => x = 0) 136), (111, np_ild 1 2), (112, np_push 1 (.int 2)), (113, nq_ic (fun x y => x = y) 121), (116, np_ild 2 5), (118, nq_ifne 136), (121, np_ild 2 6), (123, np_push 1 (.int 1)), (124, np_push 2 (.int 99)), (126, nq_call 3 sp_X12_isIn 3 0 0 0 0), (129, nq_if (fun x => x = 0) 136), (132, np_push 1 (.int 1)), (133, np_goto 137), (136, np_push 1 (.int 0)), (137, np_ist 2 9), (139, np_ild 2 9), (141, nq_if (fun x => x = 0) 187), (144, np_ald 1 0), (145, np_ild 1 1), (146, np_ild 1 3), (150, nq_if (fun x => x = 0) 187), (153, np_ild 2 7), (155, nq_if (fun x => x = 0) 168), (158, np_ald 1 0), (159, np_ild 1 1), (160, np_ild 2 4), (165, nq_if (fun x => x = 0) 187), (168, np_ild 1 2), (169, np_push 1 (.int 2)), (170, nq_icne 183), (173, np_ald 1 0), (174, np_ild 1 1), (175, np_ild 2 5), (180, nq_if (fun x => x = 0) 187), (183, np_push 1 (.int 1)), (184, np_goto 188), (187, np_push 1 (.int 0)), (188, np_ist 2 9), (190, np_ald 1 0), (191, np_ild 2 8), (193, nq_ifne 200), (196, np_push 1 (.int 1)), (197, np_goto 225), (200, np_ild 2 9), (202, nq_ifne 209), (205, np_push 1 (.int 2)), (206, np_goto 225), (209, np_ald 1 0), (210, nq_getf 12 12), (213, np_ild 1 1), (214, nq_ialdT .int), (215, np_push 2 (.int 8)), (217, nq_icne 224), (220, np_push 1 (.int 3)), (221, np_goto 225), (224, np_push 1 (.int 0)), (225, nq_callV 12 2 sp_X12_can 2 0 0 0 0), (228, nq_ifne 233), (231, np_push 1 (.int 0)), (232, np_ret Rt), (233, np_push 2 (.int 8)), (235, np_ild 1 1), (236, np_ib (fun x y => x * y)), (237, np_ald 1 0), (238, nq_getf 12 12), (241, np_ild 1 1), (242, nq_ialdT .int), (243, np_ib (fun x y => x + y)), (244, np_ist 2 10), (246, np_ald 1 0), (247, nq_getf 12 13), (250, np_ild 2 10), (252, np_ild 1 2), (253, nq_iastT .int), (254, np_ald 1 0), (255, nq_getf 12 14), (258, np_ild 2 10), (260, np_ild 1 3), (261, nq_iastT .int), (262, np_ald 1 0), (263, nq_getf 12 15), (266, np_ild 2 10), (268, np_ild 2 4), (270, nq_iastT .int), (271, np_ald 1 0), (272, nq_getf 12 16), (275, np_ild 2 10), (277, np_ild 2 5), (279, nq_iastT .int), (280, np_ald 1 0), (281, nq_getf 12 17), (284, np_ild 2 10), (286, np_ild 2 6), (288, nq_iastT .int), (289, np_ald 1 0), (290, nq_getf 12 12), (293, np_ild 1 1), (294, nq_dup2), (295, nq_ialdT .int), (296, np_push 1 (.int 1)), (297, np_ib (fun x y => x + y)), (298, nq_iastT .int), (299, np_ald 1 0), (300, nq_getf 12 12), (303, np_ild 1 1), (304, nq_ialdT .int), (305, np_ret Rt)]
set_option maxRecDepth 20000 in
theorem so_X12_constrain {X : np_Ctx} {Rt : np_Rt} (hX : np_ok RX12 cX12_constrain 11 2 43 0 0 .ireturn X) (hR : ∀ st w ce sl, Rt st w ce sl → X.2.2.1 st w ce sl) : ∀ q ∈ is_X12_constrain Rt, np_S X q.1 q.2 :=
  List.forall_mem_cons.mpr ⟨np_s_iload_n hX dX12_constrain_0 rfl, List.forall_mem_cons.mpr ⟨np_S.mono (op := np_if (fun x => x = 0) 9) (np_s_if_eq hX dX12_constrain_1 (by decide)) nq_if_le, List.forall_mem_cons.mpr ⟨np_s_iload_n hX dX12_constrain_4 rfl, List.forall_mem_cons.mpr ⟨np_s_iconst hX dX12_constrain_5 (by decide), List.forall_mem_cons.mpr ⟨np_S.mono (op := np_icne 13) (np_s_icmp_ne hX dX12_constrain_6 (by decide)) nq_icne_le, List.forall_mem_cons.mpr ⟨np_s_iconst hX dX12_constrain_9 (by decide), List.forall_mem_cons.mpr ⟨np_s_goto hX dX12_constrain_10 (by decide), List.forall_mem_cons.mpr ⟨np_s_iconst hX dX12_constrain_13 (by decide), List.forall_mem_cons.mpr ⟨np_s_istore hX dX12_constrain_14 (by decide), List.forall_mem_cons.mpr ⟨np_s_aload_n hX dX12_constrain_16 rfl, List.forall_mem_cons.mpr ⟨np_s_iload_n hX dX12_constrain_17 rfl, List.forall_mem_cons.mpr ⟨np_S.mono (op := np_callV 12 2 sp_X12_isDescription 2 0 0 0 0) (np_s_callV hX C_X12_isDescription dX12_constrain_18 (q := (RX12, TX12, 77)) rfl rfl gw1921 gw142 gw1918 gw1920 gw67 ⟨by decide, by decide, by decide⟩ (by decide) (by decide)) nq_callV_le, List.forall_mem_cons.mpr ⟨np_S.mono (op := np_if (fun x => x = 0) 61) (np_s_if_eq hX dX12_constrain_21 (by decide)) nq_if_le, List.forall_mem_cons.mpr ⟨np_s_iload_n hX dX12_constrain_24 rfl, List.forall_mem_cons.mpr ⟨np_S.mono (op := np_call 1 sp_X12_isSlot 1 0 0 0 0) (np_s_callS hX C_X12_isSlot dX12_constrain_25 gw1883 gw142 gw1881 gw1882 ⟨by decide, by decide, by decide⟩ (by decide) (by decide)) nq_call_le, List.forall_mem_cons.mpr ⟨np_S.mono (op := np_if (fun x => x = 0) 61) (np_s_if_eq hX dX12_constrain_28 (by decide)) nq_if_le, List.forall_mem_cons.mpr ⟨np_s_iload hX dX12_constrain_31, List.forall_mem_cons.mpr ⟨np_S.mono (op := np_if (fun x => x = 0) 44) (np_s_if_eq hX dX12_constrain_33 (by decide)) nq_if_le, List.forall_mem_cons.mpr ⟨np_s_iload hX dX12_constrain_36, List.forall_mem_cons.mpr ⟨np_S.mono (op := np_call 1 sp_X12_isSlot 1 0 0 0 0) (np_s_callS hX C_X12_isSlot dX12_constrain_38 gw1883 gw142 gw1881 gw1882 ⟨by decide, by decide, by decide⟩ (by decide) (by decide)) nq_call_le, List.forall_mem_cons.mpr ⟨np_S.mono (op := np_if (fun x => x = 0) 61) (np_s_if_eq hX dX12_constrain_41 (by decide)) nq_if_le, List.forall_mem_cons.mpr ⟨np_s_iload_n hX dX12_constrain_44 rfl, List.forall_mem_cons.mpr ⟨np_s_iconst hX dX12_constrain_45 (by decide), List.forall_mem_cons.mpr ⟨np_S.mono (op := np_icne 57) (np_s_icmp_ne hX dX12_constrain_46 (by decide)) nq_icne_le, List.forall_mem_cons.mpr ⟨np_s_iload hX dX12_constrain_49, List.forall_mem_cons.mpr ⟨np_S.mono (op := np_call 1 sp_X12_isSlot 1 0 0 0 0) (np_s_callS hX C_X12_isSlot dX12_constrain_51 gw1883 gw142 gw1881 gw1882 ⟨by decide, by decide, by decide⟩ (by decide) (by decide)) nq_call_le, List.forall_mem_cons.mpr ⟨np_S.mono (op := np_if (fun x => x = 0) 61) (np_s_if_eq hX dX12_constrain_54 (by decide)) nq_if_le, List.forall_mem_cons.mpr ⟨np_s_iconst hX dX12_constrain_57 (by decide), List.forall_mem_cons.mpr ⟨np_s_goto hX dX12_constrain_58 (by decide), List.forall_mem_cons.mpr ⟨np_s_iconst hX dX12_constrain_61 (by decide), List.forall_mem_cons.mpr ⟨np_s_istore hX dX12_constrain_62 (by decide), List.forall_mem_cons.mpr ⟨np_s_iload hX dX12_constrain_64, List.forall_mem_cons.mpr ⟨np_S.mono (op := np_if (fun x => x = 0) 136) (np_s_if_eq hX dX12_constrain_66 (by decide)) nq_if_le, List.forall_mem_cons.mpr ⟨np_s_iload_n hX dX12_constrain_69 rfl, List.forall_mem_cons.mpr ⟨np_s_iconst hX dX12_constrain_70 (by decide), List.forall_mem_cons.mpr ⟨np_s_iconst hX dX12_constrain_71 (by decide), List.forall_mem_cons.mpr ⟨np_S.mono (op := np_call 3 sp_X12_isIn 3 0 0 0 0) (np_s_callS hX C_X12_isIn dX12_constrain_72 gw1880 gw142 gw1878 gw1879 ⟨by decide, by decide, by decide⟩ (by decide) (by decide)) nq_call_le, List.forall_mem_cons.mpr ⟨np_S.mono (op := np_if (fun x => x = 0) 136) (np_s_if_eq hX dX12_constrain_75 (by decide)) nq_if_le, List.forall_mem_cons.mpr ⟨np_s_iload_n hX dX12_constrain_78 rfl, List.forall_mem_cons.mpr ⟨np_s_iconst hX dX12_constrain_79 (by decide), List.forall_mem_cons.mpr ⟨np_S.mono (op := np_icne 95) (np_s_icmp_ne hX dX12_constrain_80 (by decide)) nq_icne_le, List.forall_mem_cons.mpr ⟨np_s_iload hX dX12_constrain_83, List.forall_mem_cons.mpr ⟨np_s_iconst hX dX12_constrain_85 (by decide), List.forall_mem_cons.mpr ⟨np_s_sipush hX dX12_constrain_86 (by decide), List.forall_mem_cons.mpr ⟨np_S.mono (op := np_call 3 sp_X12_isIn 3 0 0 0 0) (np_s_callS hX C_X12_isIn dX12_constrain_89 gw1880 gw142 gw1878 gw1879 ⟨by decide, by decide, by decide⟩ (by decide) (by decide)) nq_call_le, List.forall_mem_cons.mpr ⟨np_S.mono (op := np_if (fun x => x = 0) 136) (np_s_if_eq hX dX12_constrain_92 (by decide)) nq_if_le, List.forall_mem_cons.mpr ⟨np_s_iload_n hX dX12_constrain_95 rfl, List.forall_mem_cons.mpr ⟨np_s_iconst hX dX12_constrain_96 (by decide), List.forall_mem_cons.mpr ⟨np_S.mono (op := np_icne 111) (np_s_icmp_ne hX dX12_constrain_97 (by decide)) nq_icne_le, List.forall_mem_cons.mpr ⟨np_s_iload hX dX12_constrain_100, List.forall_mem_cons.mpr ⟨np_s_iconst hX dX12_constrain_102 (by decide), List.forall_mem_cons.mpr ⟨np_s_bipush hX dX12_constrain_103 (by decide), List.forall_mem_cons.mpr ⟨np_S.mono (op := np_call 3 sp_X12_isIn 3 0 0 0 0) (np_s_callS hX C_X12_isIn dX12_constrain_105 gw1880 gw142 gw1878 gw1879 ⟨by decide, by decide, by decide⟩ (by decide) (by decide)) nq_call_le, List.forall_mem_cons.mpr ⟨np_S.mono (op := np_if (fun x => x = 0) 136) (np_s_if_eq hX dX12_constrain_108 (by decide)) nq_if_le, List.forall_mem_cons.mpr ⟨np_s_iload_n hX dX12_constrain_111 rfl, List.forall_mem_cons.mpr ⟨np_s_iconst hX dX12_constrain_112 (by decide), List.forall_mem_cons.mpr ⟨np_S.mono (op := np_ic (fun x y => x = y) 121) (np_s_icmp_eq hX dX12_constrain_113 (by decide)) nq_ic_le, List.forall_mem_cons.mpr ⟨np_s_iload hX dX12_constrain_116, List.forall_mem_cons.mpr ⟨np_S.mono (op := np_ifne 136) (np_s_if_ne hX dX12_constrain_118 (by decide)) nq_ifne_le, List.forall_mem_cons.mpr ⟨np_s_iload hX dX12_constrain_121, List.forall_mem_cons.mpr ⟨np_s_iconst hX dX12_constrain_123 (by decide), List.forall_mem_cons.mpr ⟨np_s_bipush hX dX12_constrain_124 (by decide), List.forall_mem_cons.mpr ⟨np_S.mono (op := np_call 3 sp_X12_isIn 3 0 0 0 0) (np_s_callS hX C_X12_isIn dX12_constrain_126 gw1880 gw142 gw1878 gw1879 ⟨by decide, by decide, by decide⟩ (by decide) (by decide)) nq_call_le, List.forall_mem_cons.mpr ⟨np_S.mono (op := np_if (fun x => x = 0) 136) (np_s_if_eq hX dX12_constrain_129 (by decide)) nq_if_le, List.forall_mem_cons.mpr ⟨np_s_iconst hX dX12_constrain_132 (by decide), List.forall_mem_cons.mpr ⟨np_s_goto hX dX12_constrain_133 (by decide), List.forall_mem_cons.mpr ⟨np_s_iconst hX dX12_constrain_136 (by decide), List.forall_mem_cons.mpr ⟨np_s_istore hX dX12_constrain_137 (by decide), List.forall_mem_cons.mpr ⟨np_s_iload hX dX12_constrain_139, List.forall_mem_cons.mpr ⟨np_S.mono (op := np_if (fun x => x = 0) 187) (np_s_if_eq hX dX12_constrain_141 (by decide)) nq_if_le, List.forall_mem_cons.mpr ⟨np_s_aload_n hX dX12_constrain_144 rfl, List.forall_mem_cons.mpr ⟨np_s_iload_n hX dX12_constrain_145 rfl, List.forall_mem_cons.mpr ⟨np_s_iload_n hX dX12_constrain_146 rfl, List.forall_mem_cons.mpr ⟨np_S.mono (op := np_if (fun x => x = 0) 187) (np_s_if_eq hX dX12_constrain_150 (by decide)) nq_if_le, List.forall_mem_cons.mpr ⟨np_s_iload hX dX12_constrain_153, List.forall_mem_cons.mpr ⟨np_S.mono (op := np_if (fun x => x = 0) 168) (np_s_if_eq hX dX12_constrain_155 (by decide)) nq_if_le, List.forall_mem_cons.mpr ⟨np_s_aload_n hX dX12_constrain_158 rfl, List.forall_mem_cons.mpr ⟨np_s_iload_n hX dX12_constrain_159 rfl, List.forall_mem_cons.mpr ⟨np_s_iload hX dX12_constrain_160, List.forall_mem_cons.mpr ⟨np_S.mono (op := np_if (fun x => x = 0) 187) (np_s_if_eq hX dX12_constrain_165 (by decide)) nq_if_le, List.forall_mem_cons.mpr ⟨np_s_iload_n hX dX12_constrain_168 rfl, List.forall_mem_cons.mpr ⟨np_s_iconst hX dX12_constrain_169 (by decide), List.forall_mem_cons.mpr ⟨np_S.mono (op := np_icne 183) (np_s_icmp_ne hX dX12_constrain_170 (by decide)) nq_icne_le, List.forall_mem_cons.mpr ⟨np_s_aload_n hX dX12_constrain_173 rfl, List.forall_mem_cons.mpr ⟨np_s_iload_n hX dX12_constrain_174 rfl, List.forall_mem_cons.mpr ⟨np_s_iload hX dX12_constrain_175, List.forall_mem_cons.mpr ⟨np_S.mono (op := np_if (fun x => x = 0) 187) (np_s_if_eq hX dX12_constrain_180 (by decide)) nq_if_le, List.forall_mem_cons.mpr ⟨np_s_iconst hX dX12_constrain_183 (by decide), List.forall_mem_cons.mpr ⟨np_s_goto hX dX12_constrain_184 (by decide), List.forall_mem_cons.mpr ⟨np_s_iconst hX dX12_constrain_187 (by decide), List.forall_mem_cons.mpr ⟨np_s_istore hX dX12_constrain_188 (by decide), List.forall_mem_cons.mpr ⟨np_s_aload_n hX dX12_constrain_190 rfl, List.forall_mem_cons.mpr ⟨np_s_iload hX dX12_constrain_191, List.forall_mem_cons.mpr ⟨np_S.mono (op := np_ifne 200) (np_s_if_ne hX dX12_constrain_193 (by decide)) nq_ifne_le, List.forall_mem_cons.mpr ⟨np_s_iconst hX dX12_constrain_196 (by decide), List.forall_mem_cons.mpr ⟨np_s_goto hX dX12_constrain_197 (by decide), List.forall_mem_cons.mpr ⟨np_s_iload hX dX12_constrain_200, List.forall_mem_cons.mpr ⟨np_S.mono (op := np_ifne 209) (np_s_if_ne hX dX12_constrain_202 (by decide)) nq_ifne_le, List.forall_mem_cons.mpr ⟨np_s_iconst hX dX12_constrain_205 (by decide), List.forall_mem_cons.mpr ⟨np_s_goto hX dX12_constrain_206 (by decide), List.forall_mem_cons.mpr ⟨np_s_aload_n hX dX12_constrain_209 rfl, List.forall_mem_cons.mpr ⟨np_S.mono (op := np_getf 12 12) (np_s_getf hX dX12_constrain_210 (C := RX12) (T := TX12) (N := 77) rfl guX12 (by decide) gw1648) nq_getf_le, List.forall_mem_cons.mpr ⟨np_s_iload_n hX dX12_constrain_213 rfl, List.forall_mem_cons.mpr ⟨np_S.mono (op := np_ialdT .int) (np_s_iald hX dX12_constrain_214) nq_ialdT_le, List.forall_mem_cons.mpr ⟨np_s_bipush hX dX12_constrain_215 (by decide), List.forall_mem_cons.mpr ⟨np_S.mono (op := np_icne 224) (np_s_icmp_ne hX dX12_constrain_217 (by decide)) nq_icne_le, List.forall_mem_cons.mpr ⟨np_s_iconst hX dX12_constrain_220 (by decide), List.forall_mem_cons.mpr ⟨np_s_goto hX dX12_constrain_221 (by decide), List.forall_mem_cons.mpr ⟨np_s_iconst hX dX12_constrain_224 (by decide), List.forall_mem_cons.mpr ⟨np_S.mono (op := np_callV 12 2 sp_X12_can 2 0 0 0 0) (np_s_callV hX C_X12_can dX12_constrain_225 (q := (RX12, TX12, 77)) rfl rfl gw1890 gw142 gw1887 gw1889 gw63 ⟨by decide, by decide, by decide⟩ (by decide) (by decide)) nq_callV_le, List.forall_mem_cons.mpr ⟨np_S.mono (op := np_ifne 233) (np_s_if_ne hX dX12_constrain_228 (by decide)) nq_ifne_le, List.forall_mem_cons.mpr ⟨np_s_iconst hX dX12_constrain_231 (by decide), List.forall_mem_cons.mpr ⟨np_S.mono (op := np_ret X.2.2.1) (np_s_ret hX dX12_constrain_232) (nq_ret_le hR), List.forall_mem_cons.mpr ⟨np_s_bipush hX dX12_constrain_233 (by decide), List.forall_mem_cons.mpr ⟨np_s_iload_n hX dX12_constrain_235 rfl, List.forall_mem_cons.mpr ⟨np_s_imul hX dX12_constrain_236, List.forall_mem_cons.mpr ⟨np_s_aload_n hX dX12_constrain_237 rfl, List.forall_mem_cons.mpr ⟨np_S.mono (op := np_getf 12 12) (np_s_getf hX dX12_constrain_238 (C := RX12) (T := TX12) (N := 77) rfl guX12 (by decide) gw1648) nq_getf_le, List.forall_mem_cons.mpr ⟨np_s_iload_n hX dX12_constrain_241 rfl, List.forall_mem_cons.mpr ⟨np_S.mono (op := np_ialdT .int) (np_s_iald hX dX12_constrain_242) nq_ialdT_le, List.forall_mem_cons.mpr ⟨np_s_iadd hX dX12_constrain_243, List.forall_mem_cons.mpr ⟨np_s_istore hX dX12_constrain_244 (by decide), List.forall_mem_cons.mpr ⟨np_s_aload_n hX dX12_constrain_246 rfl, List.forall_mem_cons.mpr ⟨np_S.mono (op := np_getf 12 13) (np_s_getf hX dX12_constrain_247 (C := RX12) (T := TX12) (N := 77) rfl guX12 (by decide) gw1649) nq_getf_le, List.forall_mem_cons.mpr ⟨np_s_iload hX dX12_constrain_250, List.forall_mem_cons.mpr ⟨np_s_iload_n hX dX12_constrain_252 rfl, List.forall_mem_cons.mpr ⟨np_S.mono (op := np_iastT .int) (np_s_iast hX dX12_constrain_253) nq_iastT_le, List.forall_mem_cons.mpr ⟨np_s_aload_n hX dX12_constrain_254 rfl, List.forall_mem_cons.mpr ⟨np_S.mono (op := np_getf 12 14) (np_s_getf hX dX12_constrain_255 (C := RX12) (T := TX12) (N := 77) rfl guX12 (by decide) gw1650) nq_getf_le, List.forall_mem_cons.mpr ⟨np_s_iload hX dX12_constrain_258, List.forall_mem_cons.mpr ⟨np_s_iload_n hX dX12_constrain_260 rfl, List.forall_mem_cons.mpr ⟨np_S.mono (op := np_iastT .int) (np_s_iast hX dX12_constrain_261) nq_iastT_le, List.forall_mem_cons.mpr ⟨np_s_aload_n hX dX12_constrain_262 rfl, List.forall_mem_cons.mpr ⟨np_S.mono (op := np_getf 12 15) (np_s_getf hX dX12_constrain_263 (C := RX12) (T := TX12) (N := 77) rfl guX12 (by decide) gw1651) nq_getf_le, List.forall_mem_cons.mpr ⟨np_s_iload hX dX12_constrain_266, List.forall_mem_cons.mpr ⟨np_s_iload hX dX12_constrain_268, List.forall_mem_cons.mpr ⟨np_S.mono (op := np_iastT .int) (np_s_iast hX dX12_constrain_270) nq_iastT_le, List.forall_mem_cons.mpr ⟨np_s_aload_n hX dX12_constrain_271 rfl, List.forall_mem_cons.mpr ⟨np_S.mono (op := np_getf 12 16) (np_s_getf hX dX12_constrain_272 (C := RX12) (T := TX12) (N := 77) rfl guX12 (by decide) gw1652) nq_getf_le, List.forall_mem_cons.mpr ⟨np_s_iload hX dX12_constrain_275, List.forall_mem_cons.mpr ⟨np_s_iload hX dX12_constrain_277, List.forall_mem_cons.mpr ⟨np_S.mono (op := np_iastT .int) (np_s_iast hX dX12_constrain_279) nq_iastT_le, List.forall_mem_cons.mpr ⟨np_s_aload_n hX dX12_constrain_280 rfl, List.forall_mem_cons.mpr ⟨np_S.mono (op := np_getf 12 17) (np_s_getf hX dX12_constrain_281 (C := RX12) (T := TX12) (N := 77) rfl guX12 (by decide) gw1653) nq_getf_le, List.forall_mem_cons.mpr ⟨np_s_iload hX dX12_constrain_284, List.forall_mem_cons.mpr ⟨np_s_iload hX dX12_constrain_286, List.forall_mem_cons.mpr ⟨np_S.mono (op := np_iastT .int) (np_s_iast hX dX12_constrain_288) nq_iastT_le, List.forall_mem_cons.mpr ⟨np_s_aload_n hX dX12_constrain_289 rfl, List.forall_mem_cons.mpr ⟨np_S.mono (op := np_getf 12 12) (np_s_getf hX dX12_constrain_290 (C := RX12) (T := TX12) (N := 77) rfl guX12 (by decide) gw1648) nq_getf_le, List.forall_mem_cons.mpr ⟨np_s_iload_n hX dX12_constrain_293 rfl, List.forall_mem_cons.mpr ⟨np_S.mono (op := np_dup2) (np_s_dup2 hX dX12_constrain_294) nq_dup2_le, List.forall_mem_cons.mpr ⟨np_S.mono (op := np_ialdT .int) (np_s_iald hX dX12_constrain_295) nq_ialdT_le, List.forall_mem_cons.mpr ⟨np_s_iconst hX dX12_constrain_296 (by decide), List.forall_mem_cons.mpr ⟨np_s_iadd hX dX12_constrain_297, List.forall_mem_cons.mpr ⟨np_S.mono (op := np_iastT .int) (np_s_iast hX dX12_constrain_298) nq_iastT_le, List.forall_mem_cons.mpr ⟨np_s_aload_n hX dX12_constrain_299 rfl, List.forall_mem_cons.mpr ⟨np_S.mono (op := np_getf 12 12) (np_s_getf hX dX12_constrain_300 (C := RX12) (T := TX12) (N := 77) rfl guX12 (by decide) gw1648) nq_getf_le, List.forall_mem_cons.mpr ⟨np_s_iload_n hX dX12_constrain_303 rfl, List.forall_mem_cons.mpr ⟨np_S.mono (op := np_ialdT .int) (np_s_iald hX dX12_constrain_304) nq_ialdT_le, List.forall_mem_cons.mpr ⟨np_S.mono (op := np_ret X.2.2.1) (np_s_ret hX dX12_constrain_305) (nq_ret_le hR), fun _ h => nomatch h⟩⟩⟩⟩⟩⟩⟩⟩⟩⟩⟩⟩⟩⟩⟩⟩⟩⟩⟩⟩⟩⟩⟩⟩⟩⟩⟩⟩⟩⟩⟩⟩⟩⟩⟩⟩⟩⟩⟩⟩⟩⟩⟩⟩⟩⟩⟩⟩⟩⟩⟩⟩⟩⟩⟩⟩⟩⟩⟩⟩⟩⟩⟩⟩⟩⟩⟩⟩⟩⟩⟩⟩⟩⟩⟩⟩⟩⟩⟩⟩⟩⟩⟩⟩⟩⟩⟩⟩⟩⟩⟩⟩⟩⟩⟩⟩⟩⟩⟩⟩⟩⟩⟩⟩⟩⟩⟩⟩⟩⟩⟩⟩⟩⟩⟩⟩⟩⟩⟩⟩⟩⟩⟩⟩⟩⟩⟩⟩⟩⟩⟩⟩⟩⟩⟩⟩⟩⟩⟩⟩⟩⟩⟩⟩⟩⟩⟩⟩⟩⟩⟩⟩⟩⟩⟩⟩⟩⟩⟩⟩
abbrev sp_X12_constrain : np_Sp := nq_in is_X12_constrain (some .int) 0 0 400
theorem C_X12_constrain : np_C yX12_constrain cX12_constrain 11 (some .int) 2 43 0 0 sp_X12_constrain := nq_inC 400 (by decide) (fun X Rt hX hmn hR => so_X12_constrain hX hR)
theorem dX12_set_0 : decode cX12_set 0 = .ok (.aload_n 0, 1) := by decide +kernel
theorem dX12_set_1 : decode cX12_set 1 = .ok (.iload_n 1, 1) := by decide +kernel
theorem dX12_set_2 : decode cX12_set 2 = .ok (.iload_n 2, 1) := by decide +kernel
theorem dX12_set_3 : decode cX12_set 3 = .ok (.invokestatic 239, 3) := by decide +kernel
theorem dX12_set_6 : decode cX12_set 6 = .ok (.ifCond .eq 7, 3) := by decide +kernel
theorem dX12_set_9 : decode cX12_set 9 = .ok (.iconst 0, 1) := by decide +kernel
theorem dX12_set_10 : decode cX12_set 10 = .ok (.goto 4, 3) := by decide +kernel
theorem dX12_set_13 : decode cX12_set 13 = .ok (.iconst 1, 1) := by decide +kernel
theorem dX12_set_14 : decode cX12_set 14 = .ok (.invokevirtual 202, 3) := by decide +kernel
theorem dX12_set_17 : decode cX12_set 17 = .ok (.ifCond .ne 5, 3) := by decide +kernel
theorem dX12_set_20 : decode cX12_set 20 = .ok (.iconst 0, 1) := by decide +kernel
theorem dX12_set_21 : decode cX12_set 21 = .ok (.ireturn, 1) := by decide +kernel
theorem dX12_set_22 : decode cX12_set 22 = .ok (.aload_n 0, 1) := by decide +kernel
theorem dX12_set_23 : decode cX12_set 23 = .ok (.iload_n 1, 1) := by decide +kernel
theorem dX12_set_24 : decode cX12_set 24 = .ok (.iload_n 2, 1) := by decide +kernel
theorem dX12_set_25 : decode cX12_set 25 = .ok (.invokevirtual 242, 3) := by decide +kernel
theorem dX12_set_28 : decode cX12_set 28 = .ok (.istore 4, 2) := by decide +kernel
theorem dX12_set_30 : decode cX12_set 30 = .ok (.iconst 3, 1) := by decide +kernel
theorem dX12_set_31 : decode cX12_set 31 = .ok (.iload_n 1, 1) := by decide +kernel
theorem dX12_set_32 : decode cX12_set 32 = .ok (.imul, 1) := by decide +kernel
theorem dX12_set_33 : decode cX12_set 33 = .ok (.iload_n 2, 1) := by decide +kernel
theorem dX12_set_34 : decode cX12_set 34 = .ok (.iadd, 1) := by decide +kernel
theorem dX12_set_35 : decode cX12_set 35 = .ok (.istore 5, 2) := by decide +kernel
theorem dX12_set_37 : decode cX12_set 37 = .ok (.aload_n 0, 1) := by decide +kernel
theorem dX12_set_38 : decode cX12_set 38 = .ok (.getfield 58, 3) := by decide +kernel
theorem dX12_set_41 : decode cX12_set 41 = .ok (.iload 5, 2) := by decide +kernel
theorem dX12_set_43 : decode cX12_set 43 = .ok (.iload_n 3, 1) := by decide +kernel
theorem dX12_set_44 : decode cX12_set 44 = .ok (.iastore, 1) := by decide +kernel
theorem dX12_set_45 : decode cX12_set 45 = .ok (.aload_n 0, 1) := by decide +kernel
theorem dX12_set_46 : decode cX12_set 46 = .ok (.iload_n 3, 1) := by decide +kernel
theorem dX12_set_47 : decode cX12_set 47 = .ok (.ldc 238, 2) := by decide +kernel
theorem dX12_set_49 : decode cX12_set 49 = .ok (.if_icmp .ne 17, 3) := by decide +kernel
theorem dX12_set_52 : decode cX12_set 52 = .ok (.aload_n 0, 1) := by decide +kernel
theorem dX12_set_53 : decode cX12_set 53 = .ok (.getfield 235, 3) := by decide +kernel
theorem dX12_set_56 : decode cX12_set 56 = .ok (.iconst 1, 1) := by decide +kernel
theorem dX12_set_57 : decode cX12_set 57 = .ok (.iload 5, 2) := by decide +kernel
theorem dX12_set_59 : decode cX12_set 59 = .ok (.ishl, 1) := by decide +kernel
theorem dX12_set_60 : decode cX12_set 60 = .ok (.iconst (-1), 1) := by decide +kernel
theorem dX12_set_61 : decode cX12_set 61 = .ok (.ixor, 1) := by decide +kernel
theorem dX12_set_62 : decode cX12_set 62 = .ok (.iand, 1) := by decide +kernel
theorem dX12_set_63 : decode cX12_set 63 = .ok (.goto 12, 3) := by decide +kernel
theorem dX12_set_66 : decode cX12_set 66 = .ok (.aload_n 0, 1) := by decide +kernel
theorem dX12_set_67 : decode cX12_set 67 = .ok (.getfield 235, 3) := by decide +kernel
theorem dX12_set_70 : decode cX12_set 70 = .ok (.iconst 1, 1) := by decide +kernel
theorem dX12_set_71 : decode cX12_set 71 = .ok (.iload 5, 2) := by decide +kernel
theorem dX12_set_73 : decode cX12_set 73 = .ok (.ishl, 1) := by decide +kernel
theorem dX12_set_74 : decode cX12_set 74 = .ok (.ior, 1) := by decide +kernel
theorem dX12_set_75 : decode cX12_set 75 = .ok (.putfield 235, 3) := by decide +kernel
theorem dX12_set_78 : decode cX12_set 78 = .ok (.iload 4, 2) := by decide +kernel
theorem dX12_set_80 : decode cX12_set 80 = .ok (.ireturn, 1) := by decide +kernel
def is_X12_set (Rt : np_Rt) : List (Nat × np_Op) := [(0, np_ald 1 0), (1, np_ild 1 1), (2, np_ild 1 2), (3, nq_call 2 sp_X12_isValue 2 0 0 0 0), (6, nq_if (fun x => x = 0) 13), (9, np_push 1 (.int 0)), (10, np_goto 14), (13, np_push 1 (.int 1)), (14, nq_callV 12 2 sp_X12_can 2 0 0 0 0), (17, nq_ifne 22), (20, np_push 1 (.int 0)), (21, np_ret Rt), (22, np_ald 1 0), (23, np_ild 1 1), (24, np_ild 1 2), (25, nq_callV 12 3 sp_X12_recorded 4 0 0 0 0), (28, np_ist 2 4), (30, np_push 1 (.int 3)), (31, np_ild 1 1), (32, np_ib (fun x y => x * y)), (33, np_ild 1 2), (34, np_ib (fun x y => x + y)), (35, np_ist 2 5), (37, np_ald 1 0), (38, nq_getf 12 18), (41, np_ild 2 5), (43, np_ild 1 3), (44, nq_iastT .int), (45, np_ald 1 0), (46, np_ild 1 3), (47, np_push 2 (.int (-2147483648))), (49, nq_icne 66), (52, np_ald 1 0), (53, nq_getf 12 19), (56, np_push 1 (.int 1)), (57, np_ild 2 5), (59, np_ib (fun x y => x <<< (y &&& 31))), (60, np_push 1 (.int (-1))), (61, np_ib (fun x y => x ^^^ y)), (62, np_ib (fun x y => x &&& y)), (63, np_goto 75), (66, np_ald 1 0), (67, nq_getf 12 19), (70, np_push 1 (.int 1)), (71, np_ild 2 5), (73, np_ib (fun x y => x <<< (y &&& 31))), (74, np_ib (fun x y => x ||| y)), (75, nq_putf 12 19 (.int)), (78, np_ild 2 4), (80, np_ret Rt)]
set_option maxRecDepth 20000 in
theorem so_X12_set {X : np_Ctx} {Rt : np_Rt} (hX : np_ok RX12 cX12_set 6 3 63 0 0 .ireturn X) (hR : ∀ st w ce sl, Rt st w ce sl → X.2.2.1 st w ce sl) : ∀ q ∈ is_X12_set Rt, np_S X q.1 q.2 :=
  List.forall_mem_cons.mpr ⟨np_s_aload_n hX dX12_set_0 rfl, List.forall_mem_cons.mpr ⟨np_s_iload_n hX dX12_set_1 rfl, List.forall_mem_cons.mpr ⟨np_s_iload_n hX dX12_set_2 rfl, List.forall_mem_cons.mpr ⟨np_S.mono (op := np_call 2 sp_X12_isValue 2 0 0 0 0) (np_s_callS hX C_X12_isValue dX12_set_3 gw1936 gw142 gw1934 gw1935 ⟨by decide, by decide, by decide⟩ (by decide) (by decide)) nq_call_le, List.forall_mem_cons.mpr ⟨np_S.mono (op := np_if (fun x => x = 0) 13) (np_s_if_eq hX dX12_set_6 (by decide)) nq_if_le, List.forall_mem_cons.mpr ⟨np_s_iconst hX dX12_set_9 (by decide), List.forall_mem_cons.mpr ⟨np_s_goto hX dX12_set_10 (by decide), List.forall_mem_cons.mpr ⟨np_s_iconst hX dX12_set_13 (by decide), List.forall_mem_cons.mpr ⟨np_S.mono (op := np_callV 12 2 sp_X12_can 2 0 0 0 0) (np_s_callV hX C_X12_can dX12_set_14 (q := (RX12, TX12, 77)) rfl rfl gw1890 gw142 gw1887 gw1889 gw63 ⟨by decide, by decide, by decide⟩ (by decide) (by decide)) nq_callV_le, List.forall_mem_cons.mpr ⟨np_S.mono (op := np_ifne 22) (np_s_if_ne hX dX12_set_17 (by decide)) nq_ifne_le, List.forall_mem_cons.mpr ⟨np_s_iconst hX dX12_set_20 (by decide), List.forall_mem_cons.mpr ⟨np_S.mono (op := np_ret X.2.2.1) (np_s_ret hX dX12_set_21) (nq_ret_le hR), List.forall_mem_cons.mpr ⟨np_s_aload_n hX dX12_set_22 rfl, List.forall_mem_cons.mpr ⟨np_s_iload_n hX dX12_set_23 rfl, List.forall_mem_cons.mpr ⟨np_s_iload_n hX dX12_set_24 rfl, List.forall_mem_cons.mpr ⟨np_S.mono (op := np_callV 12 3 sp_X12_recorded 4 0 0 0 0) (np_s_callV hX C_X12_recorded dX12_set_25 (q := (RX12, TX12, 77)) rfl rfl gw1940 gw142 gw1937 gw1939 gw69 ⟨by decide, by decide, by decide⟩ (by decide) (by decide)) nq_callV_le, List.forall_mem_cons.mpr ⟨np_s_istore hX dX12_set_28 (by decide), List.forall_mem_cons.mpr ⟨np_s_iconst hX dX12_set_30 (by decide), List.forall_mem_cons.mpr ⟨np_s_iload_n hX dX12_set_31 rfl, List.forall_mem_cons.mpr ⟨np_s_imul hX dX12_set_32, List.forall_mem_cons.mpr ⟨np_s_iload_n hX dX12_set_33 rfl, List.forall_mem_cons.mpr ⟨np_s_iadd hX dX12_set_34, List.forall_mem_cons.mpr ⟨np_s_istore hX dX12_set_35 (by decide), List.forall_mem_cons.mpr ⟨np_s_aload_n hX dX12_set_37 rfl, List.forall_mem_cons.mpr ⟨np_S.mono (op := np_getf 12 18) (np_s_getf hX dX12_set_38 (C := RX12) (T := TX12) (N := 77) rfl guX12 (by decide) gw1654) nq_getf_le, List.forall_mem_cons.mpr ⟨np_s_iload hX dX12_set_41, List.forall_mem_cons.mpr ⟨np_s_iload_n hX dX12_set_43 rfl, List.forall_mem_cons.mpr ⟨np_S.mono (op := np_iastT .int) (np_s_iast hX dX12_set_44) nq_iastT_le, List.forall_mem_cons.mpr ⟨np_s_aload_n hX dX12_set_45 rfl, List.forall_mem_cons.mpr ⟨np_s_iload_n hX dX12_set_46 rfl, List.forall_mem_cons.mpr ⟨np_s_ldc hX dX12_set_47 gw1944, List.forall_mem_cons.mpr ⟨np_S.mono (op := np_icne 66) (np_s_icmp_ne hX dX12_set_49 (by decide)) nq_icne_le, List.forall_mem_cons.mpr ⟨np_s_aload_n hX dX12_set_52 rfl, List.forall_mem_cons.mpr ⟨np_S.mono (op := np_getf 12 19) (np_s_getf hX dX12_set_53 (C := RX12) (T := TX12) (N := 77) rfl guX12 (by decide) gw1655) nq_getf_le, List.forall_mem_cons.mpr ⟨np_s_iconst hX dX12_set_56 (by decide), List.forall_mem_cons.mpr ⟨np_s_iload hX dX12_set_57, List.forall_mem_cons.mpr ⟨np_s_ishl hX dX12_set_59, List.forall_mem_cons.mpr ⟨np_s_iconst hX dX12_set_60 (by decide), List.forall_mem_cons.mpr ⟨np_s_ixor hX dX12_set_61, List.forall_mem_cons.mpr ⟨np_s_iand hX dX12_set_62, List.forall_mem_cons.mpr ⟨np_s_goto hX dX12_set_63 (by decide), List.forall_mem_cons.mpr ⟨np_s_aload_n hX dX12_set_66 rfl, List.forall_mem_cons.mpr ⟨np_S.mono (op := np_getf 12 19) (np_s_getf hX dX12_set_67 (C := RX12) (T := TX12) (N := 77) rfl guX12 (by decide) gw1655) nq_getf_le, List.forall_mem_cons.mpr ⟨np_s_iconst hX dX12_set_70 (by decide), List.forall_mem_cons.mpr ⟨np_s_iload hX dX12_set_71, List.forall_mem_cons.mpr ⟨np_s_ishl hX dX12_set_73, List.forall_mem_cons.mpr ⟨np_s_ior hX dX12_set_74, List.forall_mem_cons.mpr ⟨np_S.mono (op := np_putf 12 19 (.int)) (np_s_putf hX dX12_set_75 (C := RX12) (T := TX12) (N := 77) (ty0 := tyX12) rfl guX12 tyX12_ok nmX12 (by decide) gw1655 rfl rfl) nq_putf_le, List.forall_mem_cons.mpr ⟨np_s_iload hX dX12_set_78, List.forall_mem_cons.mpr ⟨np_S.mono (op := np_ret X.2.2.1) (np_s_ret hX dX12_set_80) (nq_ret_le hR), fun _ h => nomatch h⟩⟩⟩⟩⟩⟩⟩⟩⟩⟩⟩⟩⟩⟩⟩⟩⟩⟩⟩⟩⟩⟩⟩⟩⟩⟩⟩⟩⟩⟩⟩⟩⟩⟩⟩⟩⟩⟩⟩⟩⟩⟩⟩⟩⟩⟩⟩⟩⟩⟩
abbrev sp_X12_set : np_Sp := nq_in is_X12_set (some .int) 0 0 400
theorem C_X12_set : np_C yX12_set cX12_set 6 (some .int) 3 63 0 0 sp_X12_set := nq_inC 400 (by decide) (fun X Rt hX hmn hR => so_X12_set hX hR)
theorem dX12_get_0 : decode cX12_get 0 = .ok (.aload_n 0, 1) := by decide +kernel
theorem dX12_get_1 : decode cX12_get 1 = .ok (.iload_n 1, 1) := by decide +kernel
theorem dX12_get_2 : decode cX12_get 2 = .ok (.iload_n 2, 1) := by decide +kernel
theorem dX12_get_3 : decode cX12_get 3 = .ok (.invokestatic 239, 3) := by decide +kernel
theorem dX12_get_6 : decode cX12_get 6 = .ok (.ifCond .eq 7, 3) := by decide +kernel
theorem dX12_get_9 : decode cX12_get 9 = .ok (.iconst 0, 1) := by decide +kernel
theorem dX12_get_10 : decode cX12_get 10 = .ok (.goto 4, 3) := by decide +kernel
theorem dX12_get_13 : decode cX12_get 13 = .ok (.iconst 1, 1) := by decide +kernel
theorem dX12_get_14 : decode cX12_get 14 = .ok (.invokevirtual 202, 3) := by decide +kernel
theorem dX12_get_17 : decode cX12_get 17 = .ok (.ifCond .eq 12, 3) := by decide +kernel
theorem dX12_get_20 : decode cX12_get 20 = .ok (.aload_n 0, 1) := by decide +kernel
theorem dX12_get_21 : decode cX12_get 21 = .ok (.iload_n 1, 1) := by decide +kernel
theorem dX12_get_22 : decode cX12_get 22 = .ok (.iload_n 2, 1) := by decide +kernel
theorem dX12_get_23 : decode cX12_get 23 = .ok (.invokevirtual 242, 3) := by decide +kernel
theorem dX12_get_26 : decode cX12_get 26 = .ok (.goto 4, 3) := by decide +kernel
theorem dX12_get_29 : decode cX12_get 29 = .ok (.iconst 0, 1) := by decide +kernel
theorem dX12_get_30 : decode cX12_get 30 = .ok (.ireturn, 1) := by decide +kernel
def is_X12_get (Rt : np_Rt) : List (Nat × np_Op) := [(0, np_ald 1 0), (1, np_ild 1 1), (2, np_ild 1 2), (3, nq_call 2 sp_X12_isValue 2 0 0 0 0), (6, nq_if (fun x => x = 0) 13), (9, np_push 1 (.int 0)), (10, np_goto 14), (13, np_push 1 (.int 1)), (14, nq_callV 12 2 sp_X12_can 2 0 0 0 0), (17, nq_if (fun x => x = 0) 29), (20, np_ald 1 0), (21, np_ild 1 1), (22, np_ild 1 2), (23, nq_callV 12 3 sp_X12_recorded 4 0 0 0 0), (26, np_goto 30), (29, np_push 1 (.int 0)), (30, np_ret Rt)]
set_option maxRecDepth 20000 in
theorem so_X12_get {X : np_Ctx} {Rt : np_Rt} (hX : np_ok RX12 cX12_get 3 3 63 0 0 .ireturn X) (hR : ∀ st w ce sl, Rt st w ce sl → X.2.2.1 st w ce sl) : ∀ q ∈ is_X12_get Rt, np_S X q.1 q.2 :=
  List.forall_mem_cons.mpr ⟨np_s_aload_n hX dX12_get_0 rfl, List.forall_mem_cons.mpr ⟨np_s_iload_n hX dX12_get_1 rfl, List.forall_mem_cons.mpr ⟨np_s_iload_n hX dX12_get_2 rfl, List.forall_mem_cons.mpr ⟨np_S.mono (op := np_call 2 sp_X12_isValue 2 0 0 0 0) (np_s_callS hX C_X12_isValue dX12_get_3 gw1936 gw142 gw1934 gw1935 ⟨by decide, by decide, by decide⟩ (by decide) (by decide)) nq_call_le, List.forall_mem_cons.mpr ⟨np_S.mono (op := np_if (fun x => x = 0) 13) (np_s_if_eq hX dX12_get_6 (by decide)) nq_if_le, List.forall_mem_cons.mpr ⟨np_s_iconst hX dX12_get_9 (by decide), List.forall_mem_cons.mpr ⟨np_s_goto hX dX12_get_10 (by decide), List.forall_mem_cons.mpr ⟨np_s_iconst hX dX12_get_13 (by decide), List.forall_mem_cons.mpr ⟨np_S.mono (op := np_callV 12 2 sp_X12_can 2 0 0 0 0) (np_s_callV hX C_X12_can dX12_get_14 (q := (RX12, TX12, 77)) rfl rfl gw1890 gw142 gw1887 gw1889 gw63 ⟨by decide, by decide, by decide⟩ (by decide) (by decide)) nq_callV_le, List.forall_mem_cons.mpr ⟨np_S.mono (op := np_if (fun x => x = 0) 29) (np_s_if_eq hX dX12_get_17 (by decide)) nq_if_le, List.forall_mem_cons.mpr ⟨np_s_aload_n hX dX12_get_20 rfl, List.forall_mem_cons.mpr ⟨np_s_iload_n hX dX12_get_21 rfl, List.forall_mem_cons.mpr ⟨np_s_iload_n hX dX12_get_22 rfl, List.forall_mem_cons.mpr ⟨np_S.mono (op := np_callV 12 3 sp_X12_recorded 4 0 0 0 0) (np_s_callV hX C_X12_recorded dX12_get_23 (q := (RX12, TX12, 77)) rfl rfl gw1940 gw142 gw1937 gw1939 gw69 ⟨by decide, by decide, by decide⟩ (by decide) (by decide)) nq_callV_le, List.forall_mem_cons.mpr ⟨np_s_goto hX dX12_get_26 (by decide), List.forall_mem_cons.mpr ⟨np_s_iconst hX dX12_get_29 (by decide), List.forall_mem_cons.mpr ⟨np_S.mono (op := np_ret X.2.2.1) (np_s_ret hX dX12_get_30) (nq_ret_le hR), fun _ h => nomatch h⟩⟩⟩⟩⟩⟩⟩⟩⟩⟩⟩⟩⟩⟩⟩⟩⟩
abbrev sp_X12_get : np_Sp := nq_in is_X12_get (some .int) 0 0 400
theorem C_X12_get : np_C yX12_get cX12_get 3 (some .int) 3 63 0 0 sp_X12_get := nq_inC 400 (by decide) (fun X Rt hX hmn hR => so_X12_get hX hR)
theorem dX12_message_0 : decode cX12_message 0 = .ok (.aload_n 0, 1) := by decide +kernel
theorem dX12_message_1 : decode cX12_message 1 = .ok (.aload_n 0, 1) := by decide +kernel
theorem dX12_message_2 : decode cX12_message 2 = .ok (.iload_n 1, 1) := by decide +kernel
theorem dX12_message_3 : decode cX12_message 3 = .ok (.invokevirtual 219, 3) := by decide +kernel
theorem dX12_message_6 : decode cX12_message 6 = .ok (.ifCond .eq 7, 3) := by decide +kernel
theorem dX12_message_9 : decode cX12_message 9 = .ok (.iconst 0, 1) := by decide +kernel
theorem dX12_message_10 : decode cX12_message 10 = .ok (.goto 4, 3) := by decide +kernel
theorem dX12_message_13 : decode cX12_message 13 = .ok (.iconst 1, 1) := by decide +kernel
theorem dX12_message_14 : decode cX12_message 14 = .ok (.invokevirtual 202, 3) := by decide +kernel
theorem dX12_message_17 : decode cX12_message 17 = .ok (.ifCond .ne 5, 3) := by decide +kernel
theorem dX12_message_20 : decode cX12_message 20 = .ok (.iconst 0, 1) := by decide +kernel
theorem dX12_message_21 : decode cX12_message 21 = .ok (.ireturn, 1) := by decide +kernel
theorem dX12_message_22 : decode cX12_message 22 = .ok (.iconst 0, 1) := by decide +kernel
theorem dX12_message_23 : decode cX12_message 23 = .ok (.istore_n 2, 1) := by decide +kernel
theorem dX12_message_24 : decode cX12_message 24 = .ok (.iload_n 2, 1) := by decide +kernel
theorem dX12_message_25 : decode cX12_message 25 = .ok (.bipush 24, 2) := by decide +kernel
theorem dX12_message_27 : decode cX12_message 27 = .ok (.if_icmp .ge 21, 3) := by decide +kernel
theorem dX12_message_30 : decode cX12_message 30 = .ok (.aload_n 0, 1) := by decide +kernel
theorem dX12_message_31 : decode cX12_message 31 = .ok (.getfield 147, 3) := by decide +kernel
theorem dX12_message_34 : decode cX12_message 34 = .ok (.iload_n 2, 1) := by decide +kernel
theorem dX12_message_35 : decode cX12_message 35 = .ok (.aload_n 0, 1) := by decide +kernel
theorem dX12_message_36 : decode cX12_message 36 = .ok (.getfield 58, 3) := by decide +kernel
theorem dX12_message_39 : decode cX12_message 39 = .ok (.iload_n 2, 1) := by decide +kernel
theorem dX12_message_40 : decode cX12_message 40 = .ok (.iaload, 1) := by decide +kernel
theorem dX12_message_41 : decode cX12_message 41 = .ok (.iastore, 1) := by decide +kernel
theorem dX12_message_42 : decode cX12_message 42 = .ok (.iinc 2 1, 3) := by decide +kernel
theorem dX12_message_45 : decode cX12_message 45 = .ok (.goto (-21), 3) := by decide +kernel
theorem dX12_message_48 : decode cX12_message 48 = .ok (.aload_n 0, 1) := by decide +kernel
theorem dX12_message_49 : decode cX12_message 49 = .ok (.aload_n 0, 1) := by decide +kernel
theorem dX12_message_50 : decode cX12_message 50 = .ok (.getfield 235, 3) := by decide +kernel
theorem dX12_message_53 : decode cX12_message 53 = .ok (.putfield 226, 3) := by decide +kernel
theorem dX12_message_56 : decode cX12_message 56 = .ok (.aload_n 0, 1) := by decide +kernel
theorem dX12_message_57 : decode cX12_message 57 = .ok (.iload_n 1, 1) := by decide +kernel
theorem dX12_message_58 : decode cX12_message 58 = .ok (.invokevirtual 245, 3) := by decide +kernel
theorem dX12_message_61 : decode cX12_message 61 = .ok (.ireturn, 1) := by decide +kernel
def is_X12_message (Rt : np_Rt) : List (Nat × np_Op) := [(0, np_ald 1 0), (1, np_ald 1 0), (2, np_ild 1 1), (3, nq_callV 12 2 sp_X12_isDescription 2 0 0 0 0), (6, nq_if (fun x => x = 0) 13), (9, np_push 1 (.int 0)), (10, np_goto 14), (13, np_push 1 (.int 1)), (14, nq_callV 12 2 sp_X12_can 2 0 0 0 0), (17, nq_ifne 22), (20, np_push 1 (.int 0)), (21, np_ret Rt), (22, np_push 1 (.int 0)), (23, np_ist 1 2), (24, np_ild 1 2), (25, np_push 2 (.int 24)), (27, nq_ic (fun x y => y ≤ x) 48), (30, np_ald 1 0), (31, nq_getf 12 51), (34, np_ild 1 2), (35, np_ald 1 0), (36, nq_getf 12 18), (39, np_ild 1 2), (40, nq_ialdT .int), (41, nq_iastT .int), (42, np_iinc 2 1), (45, np_goto 24), (48, np_ald 1 0), (49, np_ald 1 0), (50, nq_getf 12 19), (53, nq_putf 12 52 (.int)), (56, np_ald 1 0), (57, np_ild 1 1), (61, np_ret Rt)]
set_option maxRecDepth 20000 in
theorem so_X12_message {X : np_Ctx} {Rt : np_Rt} (hX : np_ok RX12 cX12_message 3 2 43 0 0 .ireturn X) (hR : ∀ st w ce sl, Rt st w ce sl → X.2.2.1 st w ce sl) : ∀ q ∈ is_X12_message Rt, np_S X q.1 q.2 :=
  List.forall_mem_cons.mpr ⟨np_s_aload_n hX dX12_message_0 rfl, List.forall_mem_cons.mpr ⟨np_s_aload_n hX dX12_message_1 rfl, List.forall_mem_cons.mpr ⟨np_s_iload_n hX dX12_message_2 rfl, List.forall_mem_cons.mpr ⟨np_S.mono (op := np_callV 12 2 sp_X12_isDescription 2 0 0 0 0) (np_s_callV hX C_X12_isDescription dX12_message_3 (q := (RX12, TX12, 77)) rfl rfl gw1921 gw142 gw1918 gw1920 gw67 ⟨by decide, by decide, by decide⟩ (by decide) (by decide)) nq_callV_le, List.forall_mem_cons.mpr ⟨np_S.mono (op := np_if (fun x => x = 0) 13) (np_s_if_eq hX dX12_message_6 (by decide)) nq_if_le, List.forall_mem_cons.mpr ⟨np_s_iconst hX dX12_message_9 (by decide), List.forall_mem_cons.mpr ⟨np_s_goto hX dX12_message_10 (by decide), List.forall_mem_cons.mpr ⟨np_s_iconst hX dX12_message_13 (by decide), List.forall_mem_cons.mpr ⟨np_S.mono (op := np_callV 12 2 sp_X12_can 2 0 0 0 0) (np_s_callV hX C_X12_can dX12_message_14 (q := (RX12, TX12, 77)) rfl rfl gw1890 gw142 gw1887 gw1889 gw63 ⟨by decide, by decide, by decide⟩ (by decide) (by decide)) nq_callV_le, List.forall_mem_cons.mpr ⟨np_S.mono (op := np_ifne 22) (np_s_if_ne hX dX12_message_17 (by decide)) nq_ifne_le, List.forall_mem_cons.mpr ⟨np_s_iconst hX dX12_message_20 (by decide), List.forall_mem_cons.mpr ⟨np_S.mono (op := np_ret X.2.2.1) (np_s_ret hX dX12_message_21) (nq_ret_le hR), List.forall_mem_cons.mpr ⟨np_s_iconst hX dX12_message_22 (by decide), List.forall_mem_cons.mpr ⟨np_s_istore_n hX dX12_message_23 rfl (by decide), List.forall_mem_cons.mpr ⟨np_s_iload_n hX dX12_message_24 rfl, List.forall_mem_cons.mpr ⟨np_s_bipush hX dX12_message_25 (by decide), List.forall_mem_cons.mpr ⟨np_S.mono (op := np_ic (fun x y => y ≤ x) 48) (np_s_icmp_ge hX dX12_message_27 (by decide)) nq_ic_le, List.forall_mem_cons.mpr ⟨np_s_aload_n hX dX12_message_30 rfl, List.forall_mem_cons.mpr ⟨np_S.mono (op := np_getf 12 51) (np_s_getf hX dX12_message_31 (C := RX12) (T := TX12) (N := 77) rfl guX12 (by decide) gw1687) nq_getf_le, List.forall_mem_cons.mpr ⟨np_s_iload_n hX dX12_message_34 rfl, List.forall_mem_cons.mpr ⟨np_s_aload_n hX dX12_message_35 rfl, List.forall_mem_cons.mpr ⟨np_S.mono (op := np_getf 12 18) (np_s_getf hX dX12_message_36 (C := RX12) (T := TX12) (N := 77) rfl guX12 (by decide) gw1654) nq_getf_le, List.forall_mem_cons.mpr ⟨np_s_iload_n hX dX12_message_39 rfl, List.forall_mem_cons.mpr ⟨np_S.mono (op := np_ialdT .int) (np_s_iald hX dX12_message_40) nq_ialdT_le, List.forall_mem_cons.mpr ⟨np_S.mono (op := np_iastT .int) (np_s_iast hX dX12_message_41) nq_iastT_le, List.forall_mem_cons.mpr ⟨np_s_iinc hX dX12_message_42 (by decide), List.forall_mem_cons.mpr ⟨np_s_goto hX dX12_message_45 (by decide), List.forall_mem_cons.mpr ⟨np_s_aload_n hX dX12_message_48 rfl, List.forall_mem_cons.mpr ⟨np_s_aload_n hX dX12_message_49 rfl, List.forall_mem_cons.mpr ⟨np_S.mono (op := np_getf 12 19) (np_s_getf hX dX12_message_50 (C := RX12) (T := TX12) (N := 77) rfl guX12 (by decide) gw1655) nq_getf_le, List.forall_mem_cons.mpr ⟨np_S.mono (op := np_putf 12 52 (.int)) (np_s_putf hX dX12_message_53 (C := RX12) (T := TX12) (N := 77) (ty0 := tyX12) rfl guX12 tyX12_ok nmX12 (by decide) gw1688 rfl rfl) nq_putf_le, List.forall_mem_cons.mpr ⟨np_s_aload_n hX dX12_message_56 rfl, List.forall_mem_cons.mpr ⟨np_s_iload_n hX dX12_message_57 rfl, List.forall_mem_cons.mpr ⟨np_S.mono (op := np_ret X.2.2.1) (np_s_ret hX dX12_message_61) (nq_ret_le hR), fun _ h => nomatch h⟩⟩⟩⟩⟩⟩⟩⟩⟩⟩⟩⟩⟩⟩⟩⟩⟩⟩⟩⟩⟩⟩⟩⟩⟩⟩⟩⟩⟩⟩⟩⟩⟩⟩
abbrev sp_X12_message : np_Sp := nq_in is_X12_message (some .int) 0 0 400
theorem C_X12_message : np_C yX12_message cX12_message 3 (some .int) 2 43 0 0 sp_X12_message := nq_inC 400 (by decide) (fun X Rt hX hmn hR => so_X12_message hX hR)
theorem dX12_sample_0 : decode cX12_sample 0 = .ok (.aload_n 0, 1) := by decide +kernel
theorem dX12_sample_1 : decode cX12_sample 1 = .ok (.aload_n 0, 1) := by decide +kernel
theorem dX12_sample_2 : decode cX12_sample 2 = .ok (.iload_n 1, 1) := by decide +kernel
theorem dX12_sample_3 : decode cX12_sample 3 = .ok (.invokevirtual 219, 3) := by decide +kernel
theorem dX12_sample_6 : decode cX12_sample 6 = .ok (.ifCond .ne 7, 3) := by decide +kernel
theorem dX12_sample_9 : decode cX12_sample 9 = .ok (.iconst 1, 1) := by decide +kernel
theorem dX12_sample_10 : decode cX12_sample 10 = .ok (.goto 19, 3) := by decide +kernel
theorem dX12_sample_13 : decode cX12_sample 13 = .ok (.iload_n 2, 1) := by decide +kernel
theorem dX12_sample_14 : decode cX12_sample 14 = .ok (.iconst 0, 1) := by decide +kernel
theorem dX12_sample_15 : decode cX12_sample 15 = .ok (.ldc_w 346, 3) := by decide +kernel
theorem dX12_sample_18 : decode cX12_sample 18 = .ok (.invokestatic 184, 3) := by decide +kernel
theorem dX12_sample_21 : decode cX12_sample 21 = .ok (.ifCond .eq 7, 3) := by decide +kernel
theorem dX12_sample_24 : decode cX12_sample 24 = .ok (.iconst 0, 1) := by decide +kernel
theorem dX12_sample_25 : decode cX12_sample 25 = .ok (.goto 4, 3) := by decide +kernel
theorem dX12_sample_28 : decode cX12_sample 28 = .ok (.iconst 2, 1) := by decide +kernel
theorem dX12_sample_29 : decode cX12_sample 29 = .ok (.invokevirtual 202, 3) := by decide +kernel
theorem dX12_sample_32 : decode cX12_sample 32 = .ok (.ifCond .ne 5, 3) := by decide +kernel
theorem dX12_sample_35 : decode cX12_sample 35 = .ok (.iconst 0, 1) := by decide +kernel
theorem dX12_sample_36 : decode cX12_sample 36 = .ok (.ireturn, 1) := by decide +kernel
theorem dX12_sample_37 : decode cX12_sample 37 = .ok (.aload_n 0, 1) := by decide +kernel
theorem dX12_sample_38 : decode cX12_sample 38 = .ok (.iload_n 2, 1) := by decide +kernel
theorem dX12_sample_39 : decode cX12_sample 39 = .ok (.i2l, 1) := by decide +kernel
theorem dX12_sample_40 : decode cX12_sample 40 = .ok (.putfield 309, 3) := by decide +kernel
theorem dX12_sample_43 : decode cX12_sample 43 = .ok (.aload_n 0, 1) := by decide +kernel
theorem dX12_sample_44 : decode cX12_sample 44 = .ok (.iload_n 1, 1) := by decide +kernel
theorem dX12_sample_45 : decode cX12_sample 45 = .ok (.invokevirtual 347, 3) := by decide +kernel
theorem dX12_sample_48 : decode cX12_sample 48 = .ok (.istore_n 3, 1) := by decide +kernel
theorem dX12_sample_49 : decode cX12_sample 49 = .ok (.iload_n 3, 1) := by decide +kernel
theorem dX12_sample_50 : decode cX12_sample 50 = .ok (.ifCond .eq 7, 3) := by decide +kernel
theorem dX12_sample_53 : decode cX12_sample 53 = .ok (.aload_n 0, 1) := by decide +kernel
theorem dX12_sample_54 : decode cX12_sample 54 = .ok (.invokevirtual 350, 3) := by decide +kernel
theorem dX12_sample_57 : decode cX12_sample 57 = .ok (.iload_n 3, 1) := by decide +kernel
theorem dX12_sample_58 : decode cX12_sample 58 = .ok (.ireturn, 1) := by decide +kernel
def is_X12_sample (Rt : np_Rt) : List (Nat × np_Op) := [(0, np_ald 1 0), (1, np_ald 1 0), (2, np_ild 1 1), (3, nq_callV 12 2 sp_X12_isDescription 2 0 0 0 0), (6, nq_ifne 13), (9, np_push 1 (.int 1)), (10, np_goto 29), (13, np_ild 1 2), (14, np_push 1 (.int 0)), (15, np_push 3 (.int 1000000)), (18, nq_call 3 sp_X12_isIn 3 0 0 0 0), (21, nq_if (fun x => x = 0) 28), (24, np_push 1 (.int 0)), (25, np_goto 29), (28, np_push 1 (.int 2)), (29, nq_callV 12 2 sp_X12_can 2 0 0 0 0), (32, nq_ifne 37), (35, np_push 1 (.int 0)), (36, np_ret Rt), (37, np_ald 1 0), (38, np_ild 1 2), (39, np_i2l), (40, nq_putf 12 74 (.long)), (43, np_ald 1 0), (44, np_ild 1 1), (48, np_ist 1 3), (49, np_ild 1 3), (50, nq_if (fun x => x = 0) 57), (53, np_ald 1 0), (57, np_ild 1 3), (58, np_ret Rt)]
set_option maxRecDepth 20000 in
theorem so_X12_sample {X : np_Ctx} {Rt : np_Rt} (hX : np_ok RX12 cX12_sample 4 2 43 0 0 .ireturn X) (hR : ∀ st w ce sl, Rt st w ce sl → X.2.2.1 st w ce sl) : ∀ q ∈ is_X12_sample Rt, np_S X q.1 q.2 :=
  List.forall_mem_cons.mpr ⟨np_s_aload_n hX dX12_sample_0 rfl, List.forall_mem_cons.mpr ⟨np_s_aload_n hX dX12_sample_1 rfl, List.forall_mem_cons.mpr ⟨np_s_iload_n hX dX12_sample_2 rfl, List.forall_mem_cons.mpr ⟨np_S.mono (op := np_callV 12 2 sp_X12_isDescription 2 0 0 0 0) (np_s_callV hX C_X12_isDescription dX12_sample_3 (q := (RX12, TX12, 77)) rfl rfl gw1921 gw142 gw1918 gw1920 gw67 ⟨by decide, by decide, by decide⟩ (by decide) (by decide)) nq_callV_le, List.forall_mem_cons.mpr ⟨np_S.mono (op := np_ifne 13) (np_s_if_ne hX dX12_sample_6 (by decide)) nq_ifne_le, List.forall_mem_cons.mpr ⟨np_s_iconst hX dX12_sample_9 (by decide), List.forall_mem_cons.mpr ⟨np_s_goto hX dX12_sample_10 (by decide), List.forall_mem_cons.mpr ⟨np_s_iload_n hX dX12_sample_13 rfl, List.forall_mem_cons.mpr ⟨np_s_iconst hX dX12_sample_14 (by decide), List.forall_mem_cons.mpr ⟨np_s_ldcw hX dX12_sample_15 gw1965, List.forall_mem_cons.mpr ⟨np_S.mono (op := np_call 3 sp_X12_isIn 3 0 0 0 0) (np_s_callS hX C_X12_isIn dX12_sample_18 gw1880 gw142 gw1878 gw1879 ⟨by decide, by decide, by decide⟩ (by decide) (by decide)) nq_call_le, List.forall_mem_cons.mpr ⟨np_S.mono (op := np_if (fun x => x = 0) 28) (np_s_if_eq hX dX12_sample_21 (by decide)) nq_if_le, List.forall_mem_cons.mpr ⟨np_s_iconst hX dX12_sample_24 (by decide), List.forall_mem_cons.mpr ⟨np_s_goto hX dX12_sample_25 (by decide), List.forall_mem_cons.mpr ⟨np_s_iconst hX dX12_sample_28 (by decide), List.forall_mem_cons.mpr ⟨np_S.mono (op := np_callV 12 2 sp_X12_can 2 0 0 0 0) (np_s_callV hX C_X12_can dX12_sample_29 (q := (RX12, TX12, 77)) rfl rfl gw1890 gw142 gw1887 gw1889 gw63 ⟨by decide, by decide, by decide⟩ (by decide) (by decide)) nq_callV_le, List.forall_mem_cons.mpr ⟨np_S.mono (op := np_ifne 37) (np_s_if_ne hX dX12_sample_32 (by decide)) nq_ifne_le, List.forall_mem_cons.mpr ⟨np_s_iconst hX dX12_sample_35 (by decide), List.forall_mem_cons.mpr ⟨np_S.mono (op := np_ret X.2.2.1) (np_s_ret hX dX12_sample_36) (nq_ret_le hR), List.forall_mem_cons.mpr ⟨np_s_aload_n hX dX12_sample_37 rfl, List.forall_mem_cons.mpr ⟨np_s_iload_n hX dX12_sample_38 rfl, List.forall_mem_cons.mpr ⟨np_s_i2l hX dX12_sample_39, List.forall_mem_cons.mpr ⟨np_S.mono (op := np_putf 12 74 (.long)) (np_s_putf hX dX12_sample_40 (C := RX12) (T := TX12) (N := 77) (ty0 := tyX12) rfl guX12 tyX12_ok nmX12 (by decide) gw1710 rfl rfl) nq_putf_le, List.forall_mem_cons.mpr ⟨np_s_aload_n hX dX12_sample_43 rfl, List.forall_mem_cons.mpr ⟨np_s_iload_n hX dX12_sample_44 rfl, List.forall_mem_cons.mpr ⟨np_s_istore_n hX dX12_sample_48 rfl (by decide), List.forall_mem_cons.mpr ⟨np_s_iload_n hX dX12_sample_49 rfl, List.forall_mem_cons.mpr ⟨np_S.mono (op := np_if (fun x => x = 0) 57) (np_s_if_eq hX dX12_sample_50 (by decide)) nq_if_le, List.forall_mem_cons.mpr ⟨np_s_aload_n hX dX12_sample_53 rfl, List.forall_mem_cons.mpr ⟨np_s_iload_n hX dX12_sample_57 rfl, List.forall_mem_cons.mpr ⟨np_S.mono (op := np_ret X.2.2.1) (np_s_ret hX dX12_sample_58) (nq_ret_le hR), fun _ h => nomatch h⟩⟩⟩⟩⟩⟩⟩⟩⟩⟩⟩⟩⟩⟩⟩⟩⟩⟩⟩⟩⟩⟩⟩⟩⟩⟩⟩⟩⟩⟩⟩
abbrev sp_X12_sample : np_Sp := nq_in is_X12_sample (some .boolean) 0 0 400
theorem C_X12_sample : np_C yX12_sample cX12_sample 4 (some .boolean) 2 43 0 0 sp_X12_sample := nq_inC 400 (by decide) (fun X Rt hX hmn hR => so_X12_sample hX hR)
theorem dX12_type_0 : decode cX12_type 0 = .ok (.iconst 0, 1) := by decide +kernel
theorem dX12_type_1 : decode cX12_type 1 = .ok (.istore_n 3, 1) := by decide +kernel
theorem dX12_type_2 : decode cX12_type 2 = .ok (.iconst 0, 1) := by decide +kernel
theorem dX12_type_3 : decode cX12_type 3 = .ok (.istore 4, 2) := by decide +kernel
theorem dX12_type_5 : decode cX12_type 5 = .ok (.iload 4, 2) := by decide +kernel
theorem dX12_type_7 : decode cX12_type 7 = .ok (.iconst 4, 1) := by decide +kernel
theorem dX12_type_8 : decode cX12_type 8 = .ok (.if_icmp .ge 26, 3) := by decide +kernel
theorem dX12_type_11 : decode cX12_type 11 = .ok (.iload_n 3, 1) := by decide +kernel
theorem dX12_type_12 : decode cX12_type 12 = .ok (.iload_n 2, 1) := by decide +kernel
theorem dX12_type_13 : decode cX12_type 13 = .ok (.iload 4, 2) := by decide +kernel
theorem dX12_type_15 : decode cX12_type 15 = .ok (.invokestatic 353, 3) := by decide +kernel
theorem dX12_type_18 : decode cX12_type 18 = .ok (.ifCond .ne 7, 3) := by decide +kernel
theorem dX12_type_21 : decode cX12_type 21 = .ok (.iconst 0, 1) := by decide +kernel
theorem dX12_type_22 : decode cX12_type 22 = .ok (.goto 4, 3) := by decide +kernel
theorem dX12_type_25 : decode cX12_type 25 = .ok (.iconst 1, 1) := by decide +kernel
theorem dX12_type_26 : decode cX12_type 26 = .ok (.iadd, 1) := by decide +kernel
theorem dX12_type_27 : decode cX12_type 27 = .ok (.istore_n 3, 1) := by decide +kernel
theorem dX12_type_28 : decode cX12_type 28 = .ok (.iinc 4 1, 3) := by decide +kernel
theorem dX12_type_31 : decode cX12_type 31 = .ok (.goto (-26), 3) := by decide +kernel
theorem dX12_type_34 : decode cX12_type 34 = .ok (.aload_n 0, 1) := by decide +kernel
theorem dX12_type_35 : decode cX12_type 35 = .ok (.iload_n 1, 1) := by decide +kernel
theorem dX12_type_36 : decode cX12_type 36 = .ok (.invokestatic 356, 3) := by decide +kernel
theorem dX12_type_39 : decode cX12_type 39 = .ok (.ifCond .ne 7, 3) := by decide +kernel
theorem dX12_type_42 : decode cX12_type 42 = .ok (.iconst 1, 1) := by decide +kernel
theorem dX12_type_43 : decode cX12_type 43 = .ok (.goto 42, 3) := by decide +kernel
theorem dX12_type_46 : decode cX12_type 46 = .ok (.iload_n 2, 1) := by decide +kernel
theorem dX12_type_47 : decode cX12_type 47 = .ok (.invokestatic 359, 3) := by decide +kernel
theorem dX12_type_50 : decode cX12_type 50 = .ok (.ifCond .ne 7, 3) := by decide +kernel
theorem dX12_type_53 : decode cX12_type 53 = .ok (.iconst 2, 1) := by decide +kernel
theorem dX12_type_54 : decode cX12_type 54 = .ok (.goto 31, 3) := by decide +kernel
theorem dX12_type_57 : decode cX12_type 57 = .ok (.aload_n 0, 1) := by decide +kernel
theorem dX12_type_58 : decode cX12_type 58 = .ok (.getfield 67, 3) := by decide +kernel
theorem dX12_type_61 : decode cX12_type 61 = .ok (.iload_n 1, 1) := by decide +kernel
theorem dX12_type_62 : decode cX12_type 62 = .ok (.baload, 1) := by decide +kernel
theorem dX12_type_63 : decode cX12_type 63 = .ok (.ifCond .ne 17, 3) := by decide +kernel
theorem dX12_type_66 : decode cX12_type 66 = .ok (.aload_n 0, 1) := by decide +kernel
theorem dX12_type_67 : decode cX12_type 67 = .ok (.getfield 64, 3) := by decide +kernel
theorem dX12_type_70 : decode cX12_type 70 = .ok (.iload_n 1, 1) := by decide +kernel
theorem dX12_type_71 : decode cX12_type 71 = .ok (.iaload, 1) := by decide +kernel
theorem dX12_type_72 : decode cX12_type 72 = .ok (.iload_n 3, 1) := by decide +kernel
theorem dX12_type_73 : decode cX12_type 73 = .ok (.iadd, 1) := by decide +kernel
theorem dX12_type_74 : decode cX12_type 74 = .ok (.sipush 300, 3) := by decide +kernel
theorem dX12_type_77 : decode cX12_type 77 = .ok (.if_icmp .le 7, 3) := by decide +kernel
theorem dX12_type_80 : decode cX12_type 80 = .ok (.iconst 3, 1) := by decide +kernel
theorem dX12_type_81 : decode cX12_type 81 = .ok (.goto 4, 3) := by decide +kernel
theorem dX12_type_84 : decode cX12_type 84 = .ok (.iconst 0, 1) := by decide +kernel
theorem dX12_type_85 : decode cX12_type 85 = .ok (.invokevirtual 202, 3) := by decide +kernel
theorem dX12_type_88 : decode cX12_type 88 = .ok (.ifCond .ne 5, 3) := by decide +kernel
theorem dX12_type_91 : decode cX12_type 91 = .ok (.iconst 0, 1) := by decide +kernel
theorem dX12_type_92 : decode cX12_type 92 = .ok (.ireturn, 1) := by decide +kernel
theorem dX12_type_93 : decode cX12_type 93 = .ok (.iconst 0, 1) := by decide +kernel
theorem dX12_type_94 : decode cX12_type 94 = .ok (.istore 4, 2) := by decide +kernel
theorem dX12_type_96 : decode cX12_type 96 = .ok (.iload 4, 2) := by decide +kernel
theorem dX12_type_98 : decode cX12_type 98 = .ok (.iload_n 3, 1) := by decide +kernel
theorem dX12_type_99 : decode cX12_type 99 = .ok (.if_icmp .ge 20, 3) := by decide +kernel
theorem dX12_type_102 : decode cX12_type 102 = .ok (.aload_n 0, 1) := by decide +kernel
theorem dX12_type_103 : decode cX12_type 103 = .ok (.iload_n 1, 1) := by decide +kernel
theorem dX12_type_104 : decode cX12_type 104 = .ok (.iload_n 2, 1) := by decide +kernel
theorem dX12_type_105 : decode cX12_type 105 = .ok (.iload 4, 2) := by decide +kernel
theorem dX12_type_107 : decode cX12_type 107 = .ok (.invokestatic 353, 3) := by decide +kernel
theorem dX12_type_110 : decode cX12_type 110 = .ok (.invokevirtual 362, 3) := by decide +kernel
theorem dX12_type_113 : decode cX12_type 113 = .ok (.iinc 4 1, 3) := by decide +kernel
theorem dX12_type_116 : decode cX12_type 116 = .ok (.goto (-20), 3) := by decide +kernel
theorem dX12_type_119 : decode cX12_type 119 = .ok (.aload_n 0, 1) := by decide +kernel
theorem dX12_type_120 : decode cX12_type 120 = .ok (.getfield 64, 3) := by decide +kernel
theorem dX12_type_123 : decode cX12_type 123 = .ok (.iload_n 1, 1) := by decide +kernel
theorem dX12_type_124 : decode cX12_type 124 = .ok (.iaload, 1) := by decide +kernel
theorem dX12_type_125 : decode cX12_type 125 = .ok (.ireturn, 1) := by decide +kernel
def is_X12_type (Rt : np_Rt) : List (Nat × np_Op) := [(0, np_push 1 (.int 0)), (1, np_ist 1 3), (2, np_push 1 (.int 0)), (3, np_ist 2 4), (5, np_ild 2 4), (7, np_push 1 (.int 4)), (8, nq_ic (fun x y => y ≤ x) 34), (11, np_ild 1 3), (12, np_ild 1 2), (13, np_ild 2 4), (15, nq_call 2 sq_charOf 2 0 0 0 0), (18, nq_ifne 25), (21, np_push 1 (.int 0)), (22, np_goto 26), (25, np_push 1 (.int 1)), (26, np_ib (fun x y => x + y)), (27, np_ist 1 3), (28, np_iinc 4 1), (31, np_goto 5), (34, np_ald 1 0), (35, np_ild 1 1), (36, nq_call 1 sp_X12_isFile 1 0 0 0 0), (39, nq_ifne 46), (42, np_push 1 (.int 1)), (43, np_goto 85), (46, np_ild 1 2), (47, nq_call 1 sq_areChars 4 0 0 0 0), (50, nq_ifne 57), (53, np_push 1 (.int 2)), (54, np_goto 85), (57, np_ald 1 0), (58, nq_getf 12 22), (61, np_ild 1 1), (62, nq_ialdT .boolean), (63, nq_ifne 80), (66, np_ald 1 0), (67, nq_getf 12 21), (70, np_ild 1 1), (71, nq_ialdT .int), (72, np_ild 1 3), (73, np_ib (fun x y => x + y)), (74, np_push 3 (.int 300)), (77, nq_ic (fun x y => x ≤ y) 84), (80, np_push 1 (.int 3)), (81, np_goto 85), (84, np_push 1 (.int 0)), (85, nq_callV 12 2 sp_X12_can 2 0 0 0 0), (88, nq_ifne 93), (91, np_push 1 (.int 0)), (92, np_ret Rt), (93, np_push 1 (.int 0)), (94, np_ist 2 4), (96, np_ild 2 4), (98, np_ild 1 3), (99, nq_ic (fun x y => y ≤ x) 119), (102, np_ald 1 0), (103, np_ild 1 1), (104, np_ild 1 2), (105, np_ild 2 4), (107, nq_call 2 sq_charOf 2 0 0 0 0), (110, nq_callV 12 3 sp_X12_types 3 0 0 0 0), (113, np_iinc 4 1), (116, np_goto 96), (119, np_ald 1 0), (120, nq_getf 12 21), (123, np_ild 1 1), (124, nq_ialdT .int), (125, np_ret Rt)]
set_option maxRecDepth 20000 in
theorem so_X12_type {X : np_Ctx} {Rt : np_Rt} (hX : np_ok RX12 cX12_type 5 2 45 0 0 .ireturn X) (hR : ∀ st w ce sl, Rt st w ce sl → X.2.2.1 st w ce sl) : ∀ q ∈ is_X12_type Rt, np_S X q.1 q.2 :=
  List.forall_mem_cons.mpr ⟨np_s_iconst hX dX12_type_0 (by decide), List.forall_mem_cons.mpr ⟨np_s_istore_n hX dX12_type_1 rfl (by decide), List.forall_mem_cons.mpr ⟨np_s_iconst hX dX12_type_2 (by decide), List.forall_mem_cons.mpr ⟨np_s_istore hX dX12_type_3 (by decide), List.forall_mem_cons.mpr ⟨np_s_iload hX dX12_type_5, List.forall_mem_cons.mpr ⟨np_s_iconst hX dX12_type_7 (by decide), List.forall_mem_cons.mpr ⟨np_S.mono (op := np_ic (fun x y => y ≤ x) 34) (np_s_icmp_ge hX dX12_type_8 (by decide)) nq_ic_le, List.forall_mem_cons.mpr ⟨np_s_iload_n hX dX12_type_11 rfl, List.forall_mem_cons.mpr ⟨np_s_iload_n hX dX12_type_12 rfl, List.forall_mem_cons.mpr ⟨np_s_iload hX dX12_type_13, List.forall_mem_cons.mpr ⟨np_S.mono (op := np_call 2 sq_charOf 2 0 0 0 0) (np_s_callS hX CQ_charOf dX12_type_15 gw2059 gw142 gw2057 gw2058 ⟨by decide, by decide, by decide⟩ (by decide) (by decide)) nq_call_le, List.forall_mem_cons.mpr ⟨np_S.mono (op := np_ifne 25) (np_s_if_ne hX dX12_type_18 (by decide)) nq_ifne_le, List.forall_mem_cons.mpr ⟨np_s_iconst hX dX12_type_21 (by decide), List.forall_mem_cons.mpr ⟨np_s_goto hX dX12_type_22 (by decide), List.forall_mem_cons.mpr ⟨np_s_iconst hX dX12_type_25 (by decide), List.forall_mem_cons.mpr ⟨np_s_iadd hX dX12_type_26, List.forall_mem_cons.mpr ⟨np_s_istore_n hX dX12_type_27 rfl (by decide), List.forall_mem_cons.mpr ⟨np_s_iinc hX dX12_type_28 (by decide), List.forall_mem_cons.mpr ⟨np_s_goto hX dX12_type_31 (by decide), List.forall_mem_cons.mpr ⟨np_s_aload_n hX dX12_type_34 rfl, List.forall_mem_cons.mpr ⟨np_s_iload_n hX dX12_type_35 rfl, List.forall_mem_cons.mpr ⟨np_S.mono (op := np_call 1 sp_X12_isFile 1 0 0 0 0) (np_s_callS hX C_X12_isFile dX12_type_36 gw2062 gw142 gw2060 gw2061 ⟨by decide, by decide, by decide⟩ (by decide) (by decide)) nq_call_le, List.forall_mem_cons.mpr ⟨np_S.mono (op := np_ifne 46) (np_s_if_ne hX dX12_type_39 (by decide)) nq_ifne_le, List.forall_mem_cons.mpr ⟨np_s_iconst hX dX12_type_42 (by decide), List.forall_mem_cons.mpr ⟨np_s_goto hX dX12_type_43 (by decide), List.forall_mem_cons.mpr ⟨np_s_iload_n hX dX12_type_46 rfl, List.forall_mem_cons.mpr ⟨np_S.mono (op := np_call 1 sq_areChars 4 0 0 0 0) (np_s_callS hX CQ_areChars dX12_type_47 gw2065 gw142 gw2063 gw2064 ⟨by decide, by decide, by decide⟩ (by decide) (by decide)) nq_call_le, List.forall_mem_cons.mpr ⟨np_S.mono (op := np_ifne 57) (np_s_if_ne hX dX12_type_50 (by decide)) nq_ifne_le, List.forall_mem_cons.mpr ⟨np_s_iconst hX dX12_type_53 (by decide), List.forall_mem_cons.mpr ⟨np_s_goto hX dX12_type_54 (by decide), List.forall_mem_cons.mpr ⟨np_s_aload_n hX dX12_type_57 rfl, List.forall_mem_cons.mpr ⟨np_S.mono (op := np_getf 12 22) (np_s_getf hX dX12_type_58 (C := RX12) (T := TX12) (N := 77) rfl guX12 (by decide) gw1658) nq_getf_le, List.forall_mem_cons.mpr ⟨np_s_iload_n hX dX12_type_61 rfl, List.forall_mem_cons.mpr ⟨np_S.mono (op := np_ialdT .boolean) (np_s_zald hX dX12_type_62) nq_ialdT_le, List.forall_mem_cons.mpr ⟨np_S.mono (op := np_ifne 80) (np_s_if_ne hX dX12_type_63 (by decide)) nq_ifne_le, List.forall_mem_cons.mpr ⟨np_s_aload_n hX dX12_type_66 rfl, List.forall_mem_cons.mpr ⟨np_S.mono (op := np_getf 12 21) (np_s_getf hX dX12_type_67 (C := RX12) (T := TX12) (N := 77) rfl guX12 (by decide) gw1657) nq_getf_le, List.forall_mem_cons.mpr ⟨np_s_iload_n hX dX12_type_70 rfl, List.forall_mem_cons.mpr ⟨np_S.mono (op := np_ialdT .int) (np_s_iald hX dX12_type_71) nq_ialdT_le, List.forall_mem_cons.mpr ⟨np_s_iload_n hX dX12_type_72 rfl, List.forall_mem_cons.mpr ⟨np_s_iadd hX dX12_type_73, List.forall_mem_cons.mpr ⟨np_s_sipush hX dX12_type_74 (by decide), List.forall_mem_cons.mpr ⟨np_S.mono (op := np_ic (fun x y => x ≤ y) 84) (np_s_icmp_le hX dX12_type_77 (by decide)) nq_ic_le, List.forall_mem_cons.mpr ⟨np_s_iconst hX dX12_type_80 (by decide), List.forall_mem_cons.mpr ⟨np_s_goto hX dX12_type_81 (by decide), List.forall_mem_cons.mpr ⟨np_s_iconst hX dX12_type_84 (by decide), List.forall_mem_cons.mpr ⟨np_S.mono (op := np_callV 12 2 sp_X12_can 2 0 0 0 0) (np_s_callV hX C_X12_can dX12_type_85 (q := (RX12, TX12, 77)) rfl rfl gw1890 gw142 gw1887 gw1889 gw63 ⟨by decide, by decide, by decide⟩ (by decide) (by decide)) nq_callV_le, List.forall_mem_cons.mpr ⟨np_S.mono (op := np_ifne 93) (np_s_if_ne hX dX12_type_88 (by decide)) nq_ifne_le, List.forall_mem_cons.mpr ⟨np_s_iconst hX dX12_type_91 (by decide), List.forall_mem_cons.mpr ⟨np_S.mono (op := np_ret X.2.2.1) (np_s_ret hX dX12_type_92) (nq_ret_le hR), List.forall_mem_cons.mpr ⟨np_s_iconst hX dX12_type_93 (by decide), List.forall_mem_cons.mpr ⟨np_s_istore hX dX12_type_94 (by decide), List.forall_mem_cons.mpr ⟨np_s_iload hX dX12_type_96, List.forall_mem_cons.mpr ⟨np_s_iload_n hX dX12_type_98 rfl, List.forall_mem_cons.mpr ⟨np_S.mono (op := np_ic (fun x y => y ≤ x) 119) (np_s_icmp_ge hX dX12_type_99 (by decide)) nq_ic_le, List.forall_mem_cons.mpr ⟨np_s_aload_n hX dX12_type_102 rfl, List.forall_mem_cons.mpr ⟨np_s_iload_n hX dX12_type_103 rfl, List.forall_mem_cons.mpr ⟨np_s_iload_n hX dX12_type_104 rfl, List.forall_mem_cons.mpr ⟨np_s_iload hX dX12_type_105, List.forall_mem_cons.mpr ⟨np_S.mono (op := np_call 2 sq_charOf 2 0 0 0 0) (np_s_callS hX CQ_charOf dX12_type_107 gw2059 gw142 gw2057 gw2058 ⟨by decide, by decide, by decide⟩ (by decide) (by decide)) nq_call_le, List.forall_mem_cons.mpr ⟨np_S.mono (op := np_callV 12 3 sp_X12_types 3 0 0 0 0) (np_s_callV hX C_X12_types dX12_type_110 (q := (RX12, TX12, 77)) rfl rfl gw2069 gw142 gw2066 gw2068 gw90 ⟨by decide, by decide, by decide⟩ (by decide) (by decide)) nq_callV_le, List.forall_mem_cons.mpr ⟨np_s_iinc hX dX12_type_113 (by decide), List.forall_mem_cons.mpr ⟨np_s_goto hX dX12_type_116 (by decide), List.forall_mem_cons.mpr ⟨np_s_aload_n hX dX12_type_119 rfl, List.forall_mem_cons.mpr ⟨np_S.mono (op := np_getf 12 21) (np_s_getf hX dX12_type_120 (C := RX12) (T := TX12) (N := 77) rfl guX12 (by decide) gw1657) nq_getf_le, List.forall_mem_cons.mpr ⟨np_s_iload_n hX dX12_type_123 rfl, List.forall_mem_cons.mpr ⟨np_S.mono (op := np_ialdT .int) (np_s_iald hX dX12_type_124) nq_ialdT_le, List.forall_mem_cons.mpr ⟨np_S.mono (op := np_ret X.2.2.1) (np_s_ret hX dX12_type_125) (nq_ret_le hR), fun _ h => nomatch h⟩⟩⟩⟩⟩⟩⟩⟩⟩⟩⟩⟩⟩⟩⟩⟩⟩⟩⟩⟩⟩⟩⟩⟩⟩⟩⟩⟩⟩⟩⟩⟩⟩⟩⟩⟩⟩⟩⟩⟩⟩⟩⟩⟩⟩⟩⟩⟩⟩⟩⟩⟩⟩⟩⟩⟩⟩⟩⟩⟩⟩⟩⟩⟩⟩⟩⟩⟩
abbrev sp_X12_type : np_Sp := nq_in is_X12_type (some .int) 0 0 400
theorem C_X12_type : np_C yX12_type cX12_type 5 (some .int) 2 45 0 0 sp_X12_type := nq_inC 400 (by decide) (fun X Rt hX hmn hR => so_X12_type hX hR)
theorem dX12_print_0 : decode cX12_print 0 = .ok (.aload_n 0, 1) := by decide +kernel
theorem dX12_print_1 : decode cX12_print 1 = .ok (.iload_n 1, 1) := by decide +kernel
theorem dX12_print_2 : decode cX12_print 2 = .ok (.invokevirtual 219, 3) := by decide +kernel
theorem dX12_print_5 : decode cX12_print 5 = .ok (.ifCond .eq 14, 3) := by decide +kernel
theorem dX12_print_8 : decode cX12_print 8 = .ok (.iload_n 2, 1) := by decide +kernel
theorem dX12_print_9 : decode cX12_print 9 = .ok (.invokestatic 356, 3) := by decide +kernel
theorem dX12_print_12 : decode cX12_print 12 = .ok (.ifCond .eq 7, 3) := by decide +kernel
theorem dX12_print_15 : decode cX12_print 15 = .ok (.iconst 1, 1) := by decide +kernel
theorem dX12_print_16 : decode cX12_print 16 = .ok (.goto 4, 3) := by decide +kernel
theorem dX12_print_19 : decode cX12_print 19 = .ok (.iconst 0, 1) := by decide +kernel
theorem dX12_print_20 : decode cX12_print 20 = .ok (.istore_n 3, 1) := by decide +kernel
theorem dX12_print_21 : decode cX12_print 21 = .ok (.iload_n 3, 1) := by decide +kernel
theorem dX12_print_22 : decode cX12_print 22 = .ok (.ifCond .eq 16, 3) := by decide +kernel
theorem dX12_print_25 : decode cX12_print 25 = .ok (.aload_n 0, 1) := by decide +kernel
theorem dX12_print_26 : decode cX12_print 26 = .ok (.getfield 67, 3) := by decide +kernel
theorem dX12_print_29 : decode cX12_print 29 = .ok (.iload_n 2, 1) := by decide +kernel
theorem dX12_print_30 : decode cX12_print 30 = .ok (.baload, 1) := by decide +kernel
theorem dX12_print_31 : decode cX12_print 31 = .ok (.ifCond .ne 7, 3) := by decide +kernel
theorem dX12_print_34 : decode cX12_print 34 = .ok (.iconst 1, 1) := by decide +kernel
theorem dX12_print_35 : decode cX12_print 35 = .ok (.goto 4, 3) := by decide +kernel
theorem dX12_print_38 : decode cX12_print 38 = .ok (.iconst 0, 1) := by decide +kernel
theorem dX12_print_39 : decode cX12_print 39 = .ok (.istore 4, 2) := by decide +kernel
theorem dX12_print_41 : decode cX12_print 41 = .ok (.iload 4, 2) := by decide +kernel
theorem dX12_print_43 : decode cX12_print 43 = .ok (.ifCond .eq 41, 3) := by decide +kernel
theorem dX12_print_46 : decode cX12_print 46 = .ok (.aload_n 0, 1) := by decide +kernel
theorem dX12_print_47 : decode cX12_print 47 = .ok (.invokevirtual 365, 3) := by decide +kernel
theorem dX12_print_50 : decode cX12_print 50 = .ok (.aload_n 0, 1) := by decide +kernel
theorem dX12_print_51 : decode cX12_print 51 = .ok (.iload_n 1, 1) := by decide +kernel
theorem dX12_print_52 : decode cX12_print 52 = .ok (.invokevirtual 331, 3) := by decide +kernel
theorem dX12_print_55 : decode cX12_print 55 = .ok (.ifCond .eq 26, 3) := by decide +kernel
theorem dX12_print_58 : decode cX12_print 58 = .ok (.aload_n 0, 1) := by decide +kernel
theorem dX12_print_59 : decode cX12_print 59 = .ok (.getfield 64, 3) := by decide +kernel
theorem dX12_print_62 : decode cX12_print 62 = .ok (.iload_n 2, 1) := by decide +kernel
theorem dX12_print_63 : decode cX12_print 63 = .ok (.iaload, 1) := by decide +kernel
theorem dX12_print_64 : decode cX12_print 64 = .ok (.aload_n 0, 1) := by decide +kernel
theorem dX12_print_65 : decode cX12_print 65 = .ok (.getfield 260, 3) := by decide +kernel
theorem dX12_print_68 : decode cX12_print 68 = .ok (.iadd, 1) := by decide +kernel
theorem dX12_print_69 : decode cX12_print 69 = .ok (.iconst 1, 1) := by decide +kernel
theorem dX12_print_70 : decode cX12_print 70 = .ok (.iadd, 1) := by decide +kernel
theorem dX12_print_71 : decode cX12_print 71 = .ok (.sipush 300, 3) := by decide +kernel
theorem dX12_print_74 : decode cX12_print 74 = .ok (.if_icmp .gt 7, 3) := by decide +kernel
theorem dX12_print_77 : decode cX12_print 77 = .ok (.iconst 1, 1) := by decide +kernel
theorem dX12_print_78 : decode cX12_print 78 = .ok (.goto 4, 3) := by decide +kernel
theorem dX12_print_81 : decode cX12_print 81 = .ok (.iconst 0, 1) := by decide +kernel
theorem dX12_print_82 : decode cX12_print 82 = .ok (.istore 4, 2) := by decide +kernel
theorem dX12_print_84 : decode cX12_print 84 = .ok (.aload_n 0, 1) := by decide +kernel
theorem dX12_print_85 : decode cX12_print 85 = .ok (.iload_n 3, 1) := by decide +kernel
theorem dX12_print_86 : decode cX12_print 86 = .ok (.ifCond .ne 7, 3) := by decide +kernel
theorem dX12_print_89 : decode cX12_print 89 = .ok (.iconst 1, 1) := by decide +kernel
theorem dX12_print_90 : decode cX12_print 90 = .ok (.goto 13, 3) := by decide +kernel
theorem dX12_print_93 : decode cX12_print 93 = .ok (.iload 4, 2) := by decide +kernel
theorem dX12_print_95 : decode cX12_print 95 = .ok (.ifCond .eq 7, 3) := by decide +kernel
theorem dX12_print_98 : decode cX12_print 98 = .ok (.iconst 0, 1) := by decide +kernel
theorem dX12_print_99 : decode cX12_print 99 = .ok (.goto 4, 3) := by decide +kernel
theorem dX12_print_102 : decode cX12_print 102 = .ok (.iconst 2, 1) := by decide +kernel
theorem dX12_print_103 : decode cX12_print 103 = .ok (.invokevirtual 202, 3) := by decide +kernel
theorem dX12_print_106 : decode cX12_print 106 = .ok (.ifCond .ne 5, 3) := by decide +kernel
theorem dX12_print_109 : decode cX12_print 109 = .ok (.iconst 0, 1) := by decide +kernel
theorem dX12_print_110 : decode cX12_print 110 = .ok (.ireturn, 1) := by decide +kernel
theorem dX12_print_111 : decode cX12_print 111 = .ok (.iconst 0, 1) := by decide +kernel
theorem dX12_print_112 : decode cX12_print 112 = .ok (.istore 5, 2) := by decide +kernel
theorem dX12_print_114 : decode cX12_print 114 = .ok (.iload 5, 2) := by decide +kernel
theorem dX12_print_116 : decode cX12_print 116 = .ok (.aload_n 0, 1) := by decide +kernel
theorem dX12_print_117 : decode cX12_print 117 = .ok (.getfield 260, 3) := by decide +kernel
theorem dX12_print_120 : decode cX12_print 120 = .ok (.if_icmp .ge 21, 3) := by decide +kernel
theorem dX12_print_123 : decode cX12_print 123 = .ok (.aload_n 0, 1) := by decide +kernel
theorem dX12_print_124 : decode cX12_print 124 = .ok (.iload_n 2, 1) := by decide +kernel
theorem dX12_print_125 : decode cX12_print 125 = .ok (.aload_n 0, 1) := by decide +kernel
theorem dX12_print_126 : decode cX12_print 126 = .ok (.getfield 168, 3) := by decide +kernel
theorem dX12_print_129 : decode cX12_print 129 = .ok (.iload 5, 2) := by decide +kernel
theorem dX12_print_131 : decode cX12_print 131 = .ok (.iaload, 1) := by decide +kernel
theorem dX12_print_132 : decode cX12_print 132 = .ok (.invokevirtual 362, 3) := by decide +kernel
theorem dX12_print_135 : decode cX12_print 135 = .ok (.iinc 5 1, 3) := by decide +kernel
theorem dX12_print_138 : decode cX12_print 138 = .ok (.goto (-24), 3) := by decide +kernel
theorem dX12_print_141 : decode cX12_print 141 = .ok (.aload_n 0, 1) := by decide +kernel
theorem dX12_print_142 : decode cX12_print 142 = .ok (.iload_n 2, 1) := by decide +kernel
theorem dX12_print_143 : decode cX12_print 143 = .ok (.bipush 10, 2) := by decide +kernel
theorem dX12_print_145 : decode cX12_print 145 = .ok (.invokevirtual 362, 3) := by decide +kernel
theorem dX12_print_148 : decode cX12_print 148 = .ok (.aload_n 0, 1) := by decide +kernel
theorem dX12_print_149 : decode cX12_print 149 = .ok (.getfield 64, 3) := by decide +kernel
theorem dX12_print_152 : decode cX12_print 152 = .ok (.iload_n 2, 1) := by decide +kernel
theorem dX12_print_153 : decode cX12_print 153 = .ok (.iaload, 1) := by decide +kernel
theorem dX12_print_154 : decode cX12_print 154 = .ok (.ireturn, 1) := by decide +kernel
def is_X12_print (Rt : np_Rt) : List (Nat × np_Op) := [(0, np_ald 1 0), (1, np_ild 1 1), (2, nq_callV 12 2 sp_X12_isDescription 2 0 0 0 0), (5, nq_if (fun x => x = 0) 19), (8, np_ild 1 2), (9, nq_call 1 sp_X12_isFile 1 0 0 0 0), (12, nq_if (fun x => x = 0) 19), (15, np_push 1 (.int 1)), (16, np_goto 20), (19, np_push 1 (.int 0)), (20, np_ist 1 3), (21, np_ild 1 3), (22, nq_if (fun x => x = 0) 38), (25, np_ald 1 0), (26, nq_getf 12 22), (29, np_ild 1 2), (30, nq_ialdT .boolean), (31, nq_ifne 38), (34, np_push 1 (.int 1)), (35, np_goto 39), (38, np_push 1 (.int 0)), (39, np_ist 2 4), (41, np_ild 2 4), (43, nq_if (fun x => x = 0) 84), (46, np_ald 1 0), (50, np_ald 1 0), (51, np_ild 1 1), (55, nq_if (fun x => x = 0) 81), (58, np_ald 1 0), (59, nq_getf 12 21), (62, np_ild 1 2), (63, nq_ialdT .int), (64, np_ald 1 0), (65, nq_getf 12 70), (68, np_ib (fun x y => x + y)), (69, np_push 1 (.int 1)), (70, np_ib (fun x y => x + y)), (71, np_push 3 (.int 300)), (74, nq_ic (fun x y => y < x) 81), (77, np_push 1 (.int 1)), (78, np_goto 82), (81, np_push 1 (.int 0)), (82, np_ist 2 4), (84, np_ald 1 0), (85, np_ild 1 3), (86, nq_ifne 93), (89, np_push 1 (.int 1)), (90, np_goto 103), (93, np_ild 2 4), (95, nq_if (fun x => x = 0) 102), (98, np_push 1 (.int 0)), (99, np_goto 103), (102, np_push 1 (.int 2)), (103, nq_callV 12 2 sp_X12_can 2 0 0 0 0), (106, nq_ifne 111), (109, np_push 1 (.int 0)), (110, np_ret Rt), (111, np_push 1 (.int 0)), (112, np_ist 2 5), (114, np_ild 2 5), (116, np_ald 1 0), (117, nq_getf 12 70), (120, nq_ic (fun x y => y ≤ x) 141), (123, np_ald 1 0), (124, np_ild 1 2), (125, np_ald 1 0), (126, nq_getf 12 69), (129, np_ild 2 5), (131, nq_ialdT .int), (132, nq_callV 12 3 sp_X12_types 3 0 0 0 0), (135, np_iinc 5 1), (138, np_goto 114), (141, np_ald 1 0), (142, np_ild 1 2), (143, np_push 2 (.int 10)), (145, nq_callV 12 3 sp_X12_types 3 0 0 0 0), (148, np_ald 1 0), (149, nq_getf 12 21), (152, np_ild 1 2), (153, nq_ialdT .int), (154, np_ret Rt)]
set_option maxRecDepth 20000 in
theorem so_X12_print {X : np_Ctx} {Rt : np_Rt} (hX : np_ok RX12 cX12_print 6 2 43 0 0 .ireturn X) (hR : ∀ st w ce sl, Rt st w ce sl → X.2.2.1 st w ce sl) : ∀ q ∈ is_X12_print Rt, np_S X q.1 q.2 :=
  List.forall_mem_cons.mpr ⟨np_s_aload_n hX dX12_print_0 rfl, List.forall_mem_cons.mpr ⟨np_s_iload_n hX dX12_print_1 rfl, List.forall_mem_cons.mpr ⟨np_S.mono (op := np_callV 12 2 sp_X12_isDescription 2 0 0 0 0) (np_s_callV hX C_X12_isDescription dX12_print_2 (q := (RX12, TX12, 77)) rfl rfl gw1921 gw142 gw1918 gw1920 gw67 ⟨by decide, by decide, by decide⟩ (by decide) (by decide)) nq_callV_le, List.forall_mem_cons.mpr ⟨np_S.mono (op := np_if (fun x => x = 0) 19) (np_s_if_eq hX dX12_print_5 (by decide)) nq_if_le, List.forall_mem_cons.mpr ⟨np_s_iload_n hX dX12_print_8 rfl, List.forall_mem_cons.mpr ⟨np_S.mono (op := np_call 1 sp_X12_isFile 1 0 0 0 0) (np_s_callS hX C_X12_isFile dX12_print_9 gw2062 gw142 gw2060 gw2061 ⟨by decide, by decide, by decide⟩ (by decide) (by decide)) nq_call_le, List.forall_mem_cons.mpr ⟨np_S.mono (op := np_if (fun x => x = 0) 19) (np_s_if_eq hX dX12_print_12 (by decide)) nq_if_le, List.forall_mem_cons.mpr ⟨np_s_iconst hX dX12_print_15 (by decide), List.forall_mem_cons.mpr ⟨np_s_goto hX dX12_print_16 (by decide), List.forall_mem_cons.mpr ⟨np_s_iconst hX dX12_print_19 (by decide), List.forall_mem_cons.mpr ⟨np_s_istore_n hX dX12_print_20 rfl (by decide), List.forall_mem_cons.mpr ⟨np_s_iload_n hX dX12_print_21 rfl, List.forall_mem_cons.mpr ⟨np_S.mono (op := np_if (fun x => x = 0) 38) (np_s_if_eq hX dX12_print_22 (by decide)) nq_if_le, List.forall_mem_cons.mpr ⟨np_s_aload_n hX dX12_print_25 rfl, List.forall_mem_cons.mpr ⟨np_S.mono (op := np_getf 12 22) (np_s_getf hX dX12_print_26 (C := RX12) (T := TX12) (N := 77) rfl guX12 (by decide) gw1658) nq_getf_le, List.forall_mem_cons.mpr ⟨np_s_iload_n hX dX12_print_29 rfl, List.forall_mem_cons.mpr ⟨np_S.mono (op := np_ialdT .boolean) (np_s_zald hX dX12_print_30) nq_ialdT_le, List.forall_mem_cons.mpr ⟨np_S.mono (op := np_ifne 38) (np_s_if_ne hX dX12_print_31 (by decide)) nq_ifne_le, List.forall_mem_cons.mpr ⟨np_s_iconst hX dX12_print_34 (by decide), List.forall_mem_cons.mpr ⟨np_s_goto hX dX12_print_35 (by decide), List.forall_mem_cons.mpr ⟨np_s_iconst hX dX12_print_38 (by decide), List.forall_mem_cons.mpr ⟨np_s_istore hX dX12_print_39 (by decide), List.forall_mem_cons.mpr ⟨np_s_iload hX dX12_print_41, List.forall_mem_cons.mpr ⟨np_S.mono (op := np_if (fun x => x = 0) 84) (np_s_if_eq hX dX12_print_43 (by decide)) nq_if_le, List.forall_mem_cons.mpr ⟨np_s_aload_n hX dX12_print_46 rfl, List.forall_mem_cons.mpr ⟨np_s_aload_n hX dX12_print_50 rfl, List.forall_mem_cons.mpr ⟨np_s_iload_n hX dX12_print_51 rfl, List.forall_mem_cons.mpr ⟨np_S.mono (op := np_if (fun x => x = 0) 81) (np_s_if_eq hX dX12_print_55 (by decide)) nq_if_le, List.forall_mem_cons.mpr ⟨np_s_aload_n hX dX12_print_58 rfl, List.forall_mem_cons.mpr ⟨np_S.mono (op := np_getf 12 21) (np_s_getf hX dX12_print_59 (C := RX12) (T := TX12) (N := 77) rfl guX12 (by decide) gw1657) nq_getf_le, List.forall_mem_cons.mpr ⟨np_s_iload_n hX dX12_print_62 rfl, List.forall_mem_cons.mpr ⟨np_S.mono (op := np_ialdT .int) (np_s_iald hX dX12_print_63) nq_ialdT_le, List.forall_mem_cons.mpr ⟨np_s_aload_n hX dX12_print_64 rfl, List.forall_mem_cons.mpr ⟨np_S.mono (op := np_getf 12 70) (np_s_getf hX dX12_print_65 (C := RX12) (T := TX12) (N := 77) rfl guX12 (by decide) gw1706) nq_getf_le, List.forall_mem_cons.mpr ⟨np_s_iadd hX dX12_print_68, List.forall_mem_cons.mpr ⟨np_s_iconst hX dX12_print_69 (by decide), List.forall_mem_cons.mpr ⟨np_s_iadd hX dX12_print_70, List.forall_mem_cons.mpr ⟨np_s_sipush hX dX12_print_71 (by decide), List.forall_mem_cons.mpr ⟨np_S.mono (op := np_ic (fun x y => y < x) 81) (np_s_icmp_gt hX dX12_print_74 (by decide)) nq_ic_le, List.forall_mem_cons.mpr ⟨np_s_iconst hX dX12_print_77 (by decide), List.forall_mem_cons.mpr ⟨np_s_goto hX dX12_print_78 (by decide), List.forall_mem_cons.mpr ⟨np_s_iconst hX dX12_print_81 (by decide), List.forall_mem_cons.mpr ⟨np_s_istore hX dX12_print_82 (by decide), List.forall_mem_cons.mpr ⟨np_s_aload_n hX dX12_print_84 rfl, List.forall_mem_cons.mpr ⟨np_s_iload_n hX dX12_print_85 rfl, List.forall_mem_cons.mpr ⟨np_S.mono (op := np_ifne 93) (np_s_if_ne hX dX12_print_86 (by decide)) nq_ifne_le, List.forall_mem_cons.mpr ⟨np_s_iconst hX dX12_print_89 (by decide), List.forall_mem_cons.mpr ⟨np_s_goto hX dX12_print_90 (by decide), List.forall_mem_cons.mpr ⟨np_s_iload hX dX12_print_93, List.forall_mem_cons.mpr ⟨np_S.mono (op := np_if (fun x => x = 0) 102) (np_s_if_eq hX dX12_print_95 (by decide)) nq_if_le, List.forall_mem_cons.mpr ⟨np_s_iconst hX dX12_print_98 (by decide), List.forall_mem_cons.mpr ⟨np_s_goto hX dX12_print_99 (by decide), List.forall_mem_cons.mpr ⟨np_s_iconst hX dX12_print_102 (by decide), List.forall_mem_cons.mpr ⟨np_S.mono (op := np_callV 12 2 sp_X12_can 2 0 0 0 0) (np_s_callV hX C_X12_can dX12_print_103 (q := (RX12, TX12, 77)) rfl rfl gw1890 gw142 gw1887 gw1889 gw63 ⟨by decide, by decide, by decide⟩ (by decide) (by decide)) nq_callV_le, List.forall_mem_cons.mpr ⟨np_S.mono (op := np_ifne 111) (np_s_if_ne hX dX12_print_106 (by decide)) nq_ifne_le, List.forall_mem_cons.mpr ⟨np_s_iconst hX dX12_print_109 (by decide), List.forall_mem_cons.mpr ⟨np_S.mono (op := np_ret X.2.2.1) (np_s_ret hX dX12_print_110) (nq_ret_le hR), List.forall_mem_cons.mpr ⟨np_s_iconst hX dX12_print_111 (by decide), List.forall_mem_cons.mpr ⟨np_s_istore hX dX12_print_112 (by decide), List.forall_mem_cons.mpr ⟨np_s_iload hX dX12_print_114, List.forall_mem_cons.mpr ⟨np_s_aload_n hX dX12_print_116 rfl, List.forall_mem_cons.mpr ⟨np_S.mono (op := np_getf 12 70) (np_s_getf hX dX12_print_117 (C := RX12) (T := TX12) (N := 77) rfl guX12 (by decide) gw1706) nq_getf_le, List.forall_mem_cons.mpr ⟨np_S.mono (op := np_ic (fun x y => y ≤ x) 141) (np_s_icmp_ge hX dX12_print_120 (by decide)) nq_ic_le, List.forall_mem_cons.mpr ⟨np_s_aload_n hX dX12_print_123 rfl, List.forall_mem_cons.mpr ⟨np_s_iload_n hX dX12_print_124 rfl, List.forall_mem_cons.mpr ⟨np_s_aload_n hX dX12_print_125 rfl, List.forall_mem_cons.mpr ⟨np_S.mono (op := np_getf 12 69) (np_s_getf hX dX12_print_126 (C := RX12) (T := TX12) (N := 77) rfl guX12 (by decide) gw1705) nq_getf_le, List.forall_mem_cons.mpr ⟨np_s_iload hX dX12_print_129, List.forall_mem_cons.mpr ⟨np_S.mono (op := np_ialdT .int) (np_s_iald hX dX12_print_131) nq_ialdT_le, List.forall_mem_cons.mpr ⟨np_S.mono (op := np_callV 12 3 sp_X12_types 3 0 0 0 0) (np_s_callV hX C_X12_types dX12_print_132 (q := (RX12, TX12, 77)) rfl rfl gw2069 gw142 gw2066 gw2068 gw90 ⟨by decide, by decide, by decide⟩ (by decide) (by decide)) nq_callV_le, List.forall_mem_cons.mpr ⟨np_s_iinc hX dX12_print_135 (by decide), List.forall_mem_cons.mpr ⟨np_s_goto hX dX12_print_138 (by decide), List.forall_mem_cons.mpr ⟨np_s_aload_n hX dX12_print_141 rfl, List.forall_mem_cons.mpr ⟨np_s_iload_n hX dX12_print_142 rfl, List.forall_mem_cons.mpr ⟨np_s_bipush hX dX12_print_143 (by decide), List.forall_mem_cons.mpr ⟨np_S.mono (op := np_callV 12 3 sp_X12_types 3 0 0 0 0) (np_s_callV hX C_X12_types dX12_print_145 (q := (RX12, TX12, 77)) rfl rfl gw2069 gw142 gw2066 gw2068 gw90 ⟨by decide, by decide, by decide⟩ (by decide) (by decide)) nq_callV_le, List.forall_mem_cons.mpr ⟨np_s_aload_n hX dX12_print_148 rfl, List.forall_mem_cons.mpr ⟨np_S.mono (op := np_getf 12 21) (np_s_getf hX dX12_print_149 (C := RX12) (T := TX12) (N := 77) rfl guX12 (by decide) gw1657) nq_getf_le, List.forall_mem_cons.mpr ⟨np_s_iload_n hX dX12_print_152 rfl, List.forall_mem_cons.mpr ⟨np_S.mono (op := np_ialdT .int) (np_s_iald hX dX12_print_153) nq_ialdT_le, List.forall_mem_cons.mpr ⟨np_S.mono (op := np_ret X.2.2.1) (np_s_ret hX dX12_print_154) (nq_ret_le hR), fun _ h => nomatch h⟩⟩⟩⟩⟩⟩⟩⟩⟩⟩⟩⟩⟩⟩⟩⟩⟩⟩⟩⟩⟩⟩⟩⟩⟩⟩⟩⟩⟩⟩⟩⟩⟩⟩⟩⟩⟩⟩⟩⟩⟩⟩⟩⟩⟩⟩⟩⟩⟩⟩⟩⟩⟩⟩⟩⟩⟩⟩⟩⟩⟩⟩⟩⟩⟩⟩⟩⟩⟩⟩⟩⟩⟩⟩⟩⟩⟩⟩⟩⟩⟩
abbrev sp_X12_print : np_Sp := nq_in is_X12_print (some .int) 0 0 400
theorem C_X12_print : np_C yX12_print cX12_print 6 (some .int) 2 43 0 0 sp_X12_print := nq_inC 400 (by decide) (fun X Rt hX hmn hR => so_X12_print hX hR)
theorem dX12_close_0 : decode cX12_close 0 = .ok (.aload_n 0, 1) := by decide +kernel
theorem dX12_close_1 : decode cX12_close 1 = .ok (.iload_n 1, 1) := by decide +kernel
theorem dX12_close_2 : decode cX12_close 2 = .ok (.invokestatic 356, 3) := by decide +kernel
theorem dX12_close_5 : decode cX12_close 5 = .ok (.ifCond .eq 7, 3) := by decide +kernel
theorem dX12_close_8 : decode cX12_close 8 = .ok (.iconst 0, 1) := by decide +kernel
theorem dX12_close_9 : decode cX12_close 9 = .ok (.goto 4, 3) := by decide +kernel
theorem dX12_close_12 : decode cX12_close 12 = .ok (.iconst 1, 1) := by decide +kernel
theorem dX12_close_13 : decode cX12_close 13 = .ok (.invokevirtual 202, 3) := by decide +kernel
theorem dX12_close_16 : decode cX12_close 16 = .ok (.ifCond .ne 5, 3) := by decide +kernel
theorem dX12_close_19 : decode cX12_close 19 = .ok (.iconst 0, 1) := by decide +kernel
theorem dX12_close_20 : decode cX12_close 20 = .ok (.ireturn, 1) := by decide +kernel
theorem dX12_close_21 : decode cX12_close 21 = .ok (.aload_n 0, 1) := by decide +kernel
theorem dX12_close_22 : decode cX12_close 22 = .ok (.getfield 67, 3) := by decide +kernel
theorem dX12_close_25 : decode cX12_close 25 = .ok (.iload_n 1, 1) := by decide +kernel
theorem dX12_close_26 : decode cX12_close 26 = .ok (.baload, 1) := by decide +kernel
theorem dX12_close_27 : decode cX12_close 27 = .ok (.istore_n 2, 1) := by decide +kernel
theorem dX12_close_28 : decode cX12_close 28 = .ok (.aload_n 0, 1) := by decide +kernel
theorem dX12_close_29 : decode cX12_close 29 = .ok (.getfield 67, 3) := by decide +kernel
theorem dX12_close_32 : decode cX12_close 32 = .ok (.iload_n 1, 1) := by decide +kernel
theorem dX12_close_33 : decode cX12_close 33 = .ok (.iconst 1, 1) := by decide +kernel
theorem dX12_close_34 : decode cX12_close 34 = .ok (.bastore, 1) := by decide +kernel
theorem dX12_close_35 : decode cX12_close 35 = .ok (.iload_n 2, 1) := by decide +kernel
theorem dX12_close_36 : decode cX12_close 36 = .ok (.ifCond .ne 7, 3) := by decide +kernel
theorem dX12_close_39 : decode cX12_close 39 = .ok (.iconst 1, 1) := by decide +kernel
theorem dX12_close_40 : decode cX12_close 40 = .ok (.goto 4, 3) := by decide +kernel
theorem dX12_close_43 : decode cX12_close 43 = .ok (.iconst 0, 1) := by decide +kernel
theorem dX12_close_44 : decode cX12_close 44 = .ok (.ireturn, 1) := by decide +kernel
def is_X12_close (Rt : np_Rt) : List (Nat × np_Op) := [(0, np_ald 1 0), (1, np_ild 1 1), (2, nq_call 1 sp_X12_isFile 1 0 0 0 0), (5, nq_if (fun x => x = 0) 12), (8, np_push 1 (.int 0)), (9, np_goto 13), (12, np_push 1 (.int 1)), (13, nq_callV 12 2 sp_X12_can 2 0 0 0 0), (16, nq_ifne 21), (19, np_push 1 (.int 0)), (20, np_ret Rt), (21, np_ald 1 0), (22, nq_getf 12 22), (25, np_ild 1 1), (26, nq_ialdT .boolean), (27, np_ist 1 2), (28, np_ald 1 0), (29, nq_getf 12 22), (32, np_ild 1 1), (33, np_push 1 (.int 1)), (34, nq_iastT .boolean), (35, np_ild 1 2), (36, nq_ifne 43), (39, np_push 1 (.int 1)), (40, np_goto 44), (43, np_push 1 (.int 0)), (44, np_ret Rt)]
set_option maxRecDepth 20000 in
theorem so_X12_close {X : np_Ctx} {Rt : np_Rt} (hX : np_ok RX12 cX12_close 3 2 42 0 0 .ireturn X) (hR : ∀ st w ce sl, Rt st w ce sl → X.2.2.1 st w ce sl) : ∀ q ∈ is_X12_close Rt, np_S X q.1 q.2 :=
  List.forall_mem_cons.mpr ⟨np_s_aload_n hX dX12_close_0 rfl, List.forall_mem_cons.mpr ⟨np_s_iload_n hX dX12_close_1 rfl, List.forall_mem_cons.mpr ⟨np_S.mono (op := np_call 1 sp_X12_isFile 1 0 0 0 0) (np_s_callS hX C_X12_isFile dX12_close_2 gw2062 gw142 gw2060 gw2061 ⟨by decide, by decide, by decide⟩ (by decide) (by decide)) nq_call_le, List.forall_mem_cons.mpr ⟨np_S.mono (op := np_if (fun x => x = 0) 12) (np_s_if_eq hX dX12_close_5 (by decide)) nq_if_le, List.forall_mem_cons.mpr ⟨np_s_iconst hX dX12_close_8 (by decide), List.forall_mem_cons.mpr ⟨np_s_goto hX dX12_close_9 (by decide), List.forall_mem_cons.mpr ⟨np_s_iconst hX dX12_close_12 (by decide), List.forall_mem_cons.mpr ⟨np_S.mono (op := np_callV 12 2 sp_X12_can 2 0 0 0 0) (np_s_callV hX C_X12_can dX12_close_13 (q := (RX12, TX12, 77)) rfl rfl gw1890 gw142 gw1887 gw1889 gw63 ⟨by decide, by decide, by decide⟩ (by decide) (by decide)) nq_callV_le, List.forall_mem_cons.mpr ⟨np_S.mono (op := np_ifne 21) (np_s_if_ne hX dX12_close_16 (by decide)) nq_ifne_le, List.forall_mem_cons.mpr ⟨np_s_iconst hX dX12_close_19 (by decide), List.forall_mem_cons.mpr ⟨np_S.mono (op := np_ret X.2.2.1) (np_s_ret hX dX12_close_20) (nq_ret_le hR), List.forall_mem_cons.mpr ⟨np_s_aload_n hX dX12_close_21 rfl, List.forall_mem_cons.mpr ⟨np_S.mono (op := np_getf 12 22) (np_s_getf hX dX12_close_22 (C := RX12) (T := TX12) (N := 77) rfl guX12 (by decide) gw1658) nq_getf_le, List.forall_mem_cons.mpr ⟨np_s_iload_n hX dX12_close_25 rfl, List.forall_mem_cons.mpr ⟨np_S.mono (op := np_ialdT .boolean) (np_s_zald hX dX12_close_26) nq_ialdT_le, List.forall_mem_cons.mpr ⟨np_s_istore_n hX dX12_close_27 rfl (by decide), List.forall_mem_cons.mpr ⟨np_s_aload_n hX dX12_close_28 rfl, List.forall_mem_cons.mpr ⟨np_S.mono (op := np_getf 12 22) (np_s_getf hX dX12_close_29 (C := RX12) (T := TX12) (N := 77) rfl guX12 (by decide) gw1658) nq_getf_le, List.forall_mem_cons.mpr ⟨np_s_iload_n hX dX12_close_32 rfl, List.forall_mem_cons.mpr ⟨np_s_iconst hX dX12_close_33 (by decide), List.forall_mem_cons.mpr ⟨np_S.mono (op := np_iastT .boolean) (np_s_zast hX dX12_close_34) nq_iastT_le, List.forall_mem_cons.mpr ⟨np_s_iload_n hX dX12_close_35 rfl, List.forall_mem_cons.mpr ⟨np_S.mono (op := np_ifne 43) (np_s_if_ne hX dX12_close_36 (by decide)) nq_ifne_le, List.forall_mem_cons.mpr ⟨np_s_iconst hX dX12_close_39 (by decide), List.forall_mem_cons.mpr ⟨np_s_goto hX dX12_close_40 (by decide), List.forall_mem_cons.mpr ⟨np_s_iconst hX dX12_close_43 (by decide), List.forall_mem_cons.mpr ⟨np_S.mono (op := np_ret X.2.2.1) (np_s_ret hX dX12_close_44) (nq_ret_le hR), fun _ h => nomatch h⟩⟩⟩⟩⟩⟩⟩⟩⟩⟩⟩⟩⟩⟩⟩⟩⟩⟩⟩⟩⟩⟩⟩⟩⟩⟩⟩
abbrev sp_X12_close : np_Sp := nq_in is_X12_close (some .boolean) 0 0 400
theorem C_X12_close : np_C yX12_close cX12_close 3 (some .boolean) 2 42 0 0 sp_X12_close := nq_inC 400 (by decide) (fun X Rt hX hmn hR => so_X12_close hX hR)
theorem dX12_unit_0 : decode cX12_unit 0 = .ok (.aload_n 0, 1) := by decide +kernel
theorem dX12_unit_1 : decode cX12_unit 1 = .ok (.iload_n 1, 1) := by decide +kernel
theorem dX12_unit_2 : decode cX12_unit 2 = .ok (.invokestatic 356, 3) := by decide +kernel
theorem dX12_unit_5 : decode cX12_unit 5 = .ok (.ifCond .eq 23, 3) := by decide +kernel
theorem dX12_unit_8 : decode cX12_unit 8 = .ok (.iload_n 2, 1) := by decide +kernel
theorem dX12_unit_9 : decode cX12_unit 9 = .ok (.iconst 0, 1) := by decide +kernel
theorem dX12_unit_10 : decode cX12_unit 10 = .ok (.aload_n 0, 1) := by decide +kernel
theorem dX12_unit_11 : decode cX12_unit 11 = .ok (.getfield 64, 3) := by decide +kernel
theorem dX12_unit_14 : decode cX12_unit 14 = .ok (.iload_n 1, 1) := by decide +kernel
theorem dX12_unit_15 : decode cX12_unit 15 = .ok (.iaload, 1) := by decide +kernel
theorem dX12_unit_16 : decode cX12_unit 16 = .ok (.iconst 1, 1) := by decide +kernel
theorem dX12_unit_17 : decode cX12_unit 17 = .ok (.isub, 1) := by decide +kernel
theorem dX12_unit_18 : decode cX12_unit 18 = .ok (.invokestatic 184, 3) := by decide +kernel
theorem dX12_unit_21 : decode cX12_unit 21 = .ok (.ifCond .eq 7, 3) := by decide +kernel
theorem dX12_unit_24 : decode cX12_unit 24 = .ok (.iconst 0, 1) := by decide +kernel
theorem dX12_unit_25 : decode cX12_unit 25 = .ok (.goto 4, 3) := by decide +kernel
theorem dX12_unit_28 : decode cX12_unit 28 = .ok (.iconst 1, 1) := by decide +kernel
theorem dX12_unit_29 : decode cX12_unit 29 = .ok (.invokevirtual 202, 3) := by decide +kernel
theorem dX12_unit_32 : decode cX12_unit 32 = .ok (.ifCond .eq 19, 3) := by decide +kernel
theorem dX12_unit_35 : decode cX12_unit 35 = .ok (.aload_n 0, 1) := by decide +kernel
theorem dX12_unit_36 : decode cX12_unit 36 = .ok (.getfield 61, 3) := by decide +kernel
theorem dX12_unit_39 : decode cX12_unit 39 = .ok (.sipush 300, 3) := by decide +kernel
theorem dX12_unit_42 : decode cX12_unit 42 = .ok (.iload_n 1, 1) := by decide +kernel
theorem dX12_unit_43 : decode cX12_unit 43 = .ok (.imul, 1) := by decide +kernel
theorem dX12_unit_44 : decode cX12_unit 44 = .ok (.iload_n 2, 1) := by decide +kernel
theorem dX12_unit_45 : decode cX12_unit 45 = .ok (.iadd, 1) := by decide +kernel
theorem dX12_unit_46 : decode cX12_unit 46 = .ok (.iaload, 1) := by decide +kernel
theorem dX12_unit_47 : decode cX12_unit 47 = .ok (.i2c, 1) := by decide +kernel
theorem dX12_unit_48 : decode cX12_unit 48 = .ok (.goto 5, 3) := by decide +kernel
theorem dX12_unit_51 : decode cX12_unit 51 = .ok (.bipush 97, 2) := by decide +kernel
theorem dX12_unit_53 : decode cX12_unit 53 = .ok (.ireturn, 1) := by decide +kernel
def is_X12_unit (Rt : np_Rt) : List (Nat × np_Op) := [(0, np_ald 1 0), (1, np_ild 1 1), (2, nq_call 1 sp_X12_isFile 1 0 0 0 0), (5, nq_if (fun x => x = 0) 28), (8, np_ild 1 2), (9, np_push 1 (.int 0)), (10, np_ald 1 0), (11, nq_getf 12 21), (14, np_ild 1 1), (15, nq_ialdT .int), (16, np_push 1 (.int 1)), (17, np_ib (fun x y => x - y)), (18, nq_call 3 sp_X12_isIn 3 0 0 0 0), (21, nq_if (fun x => x = 0) 28), (24, np_push 1 (.int 0)), (25, np_goto 29), (28, np_push 1 (.int 1)), (29, nq_callV 12 2 sp_X12_can 2 0 0 0 0), (32, nq_if (fun x => x = 0) 51), (35, np_ald 1 0), (36, nq_getf 12 20), (39, np_push 3 (.int 300)), (42, np_ild 1 1), (43, np_ib (fun x y => x * y)), (44, np_ild 1 2), (45, np_ib (fun x y => x + y)), (46, nq_ialdT .int), (47, np_iu (fun x => (x.toUInt32 % 65536).toInt32)), (48, np_goto 53), (51, np_push 2 (.int 97)), (53, np_ret Rt)]
set_option maxRecDepth 20000 in
theorem so_X12_unit {X : np_Ctx} {Rt : np_Rt} (hX : np_ok RX12 cX12_unit 3 2 42 0 0 .ireturn X) (hR : ∀ st w ce sl, Rt st w ce sl → X.2.2.1 st w ce sl) : ∀ q ∈ is_X12_unit Rt, np_S X q.1 q.2 :=
  List.forall_mem_cons.mpr ⟨np_s_aload_n hX dX12_unit_0 rfl, List.forall_mem_cons.mpr ⟨np_s_iload_n hX dX12_unit_1 rfl, List.forall_mem_cons.mpr ⟨np_S.mono (op := np_call 1 sp_X12_isFile 1 0 0 0 0) (np_s_callS hX C_X12_isFile dX12_unit_2 gw2062 gw142 gw2060 gw2061 ⟨by decide, by decide, by decide⟩ (by decide) (by decide)) nq_call_le, List.forall_mem_cons.mpr ⟨np_S.mono (op := np_if (fun x => x = 0) 28) (np_s_if_eq hX dX12_unit_5 (by decide)) nq_if_le, List.forall_mem_cons.mpr ⟨np_s_iload_n hX dX12_unit_8 rfl, List.forall_mem_cons.mpr ⟨np_s_iconst hX dX12_unit_9 (by decide), List.forall_mem_cons.mpr ⟨np_s_aload_n hX dX12_unit_10 rfl, List.forall_mem_cons.mpr ⟨np_S.mono (op := np_getf 12 21) (np_s_getf hX dX12_unit_11 (C := RX12) (T := TX12) (N := 77) rfl guX12 (by decide) gw1657) nq_getf_le, List.forall_mem_cons.mpr ⟨np_s_iload_n hX dX12_unit_14 rfl, List.forall_mem_cons.mpr ⟨np_S.mono (op := np_ialdT .int) (np_s_iald hX dX12_unit_15) nq_ialdT_le, List.forall_mem_cons.mpr ⟨np_s_iconst hX dX12_unit_16 (by decide), List.forall_mem_cons.mpr ⟨np_s_isub hX dX12_unit_17, List.forall_mem_cons.mpr ⟨np_S.mono (op := np_call 3 sp_X12_isIn 3 0 0 0 0) (np_s_callS hX C_X12_isIn dX12_unit_18 gw1880 gw142 gw1878 gw1879 ⟨by decide, by decide, by decide⟩ (by decide) (by decide)) nq_call_le, List.forall_mem_cons.mpr ⟨np_S.mono (op := np_if (fun x => x = 0) 28) (np_s_if_eq hX dX12_unit_21 (by decide)) nq_if_le, List.forall_mem_cons.mpr ⟨np_s_iconst hX dX12_unit_24 (by decide), List.forall_mem_cons.mpr ⟨np_s_goto hX dX12_unit_25 (by decide), List.forall_mem_cons.mpr ⟨np_s_iconst hX dX12_unit_28 (by decide), List.forall_mem_cons.mpr ⟨np_S.mono (op := np_callV 12 2 sp_X12_can 2 0 0 0 0) (np_s_callV hX C_X12_can dX12_unit_29 (q := (RX12, TX12, 77)) rfl rfl gw1890 gw142 gw1887 gw1889 gw63 ⟨by decide, by decide, by decide⟩ (by decide) (by decide)) nq_callV_le, List.forall_mem_cons.mpr ⟨np_S.mono (op := np_if (fun x => x = 0) 51) (np_s_if_eq hX dX12_unit_32 (by decide)) nq_if_le, List.forall_mem_cons.mpr ⟨np_s_aload_n hX dX12_unit_35 rfl, List.forall_mem_cons.mpr ⟨np_S.mono (op := np_getf 12 20) (np_s_getf hX dX12_unit_36 (C := RX12) (T := TX12) (N := 77) rfl guX12 (by decide) gw1656) nq_getf_le, List.forall_mem_cons.mpr ⟨np_s_sipush hX dX12_unit_39 (by decide), List.forall_mem_cons.mpr ⟨np_s_iload_n hX dX12_unit_42 rfl, List.forall_mem_cons.mpr ⟨np_s_imul hX dX12_unit_43, List.forall_mem_cons.mpr ⟨np_s_iload_n hX dX12_unit_44 rfl, List.forall_mem_cons.mpr ⟨np_s_iadd hX dX12_unit_45, List.forall_mem_cons.mpr ⟨np_S.mono (op := np_ialdT .int) (np_s_iald hX dX12_unit_46) nq_ialdT_le, List.forall_mem_cons.mpr ⟨np_s_i2c hX dX12_unit_47, List.forall_mem_cons.mpr ⟨np_s_goto hX dX12_unit_48 (by decide), List.forall_mem_cons.mpr ⟨np_s_bipush hX dX12_unit_51 (by decide), List.forall_mem_cons.mpr ⟨np_S.mono (op := np_ret X.2.2.1) (np_s_ret hX dX12_unit_53) (nq_ret_le hR), fun _ h => nomatch h⟩⟩⟩⟩⟩⟩⟩⟩⟩⟩⟩⟩⟩⟩⟩⟩⟩⟩⟩⟩⟩⟩⟩⟩⟩⟩⟩⟩⟩⟩⟩
abbrev sp_X12_unit : np_Sp := nq_in is_X12_unit (some .char) 0 0 400
theorem C_X12_unit : np_C yX12_unit cX12_unit 3 (some .char) 2 42 0 0 sp_X12_unit := nq_inC 400 (by decide) (fun X Rt hX hmn hR => so_X12_unit hX hR)
theorem dX12_readings_0 : decode cX12_readings 0 = .ok (.aload_n 0, 1) := by decide +kernel
theorem dX12_readings_1 : decode cX12_readings 1 = .ok (.aload_n 0, 1) := by decide +kernel
theorem dX12_readings_2 : decode cX12_readings 2 = .ok (.iload_n 1, 1) := by decide +kernel
theorem dX12_readings_3 : decode cX12_readings 3 = .ok (.iload_n 2, 1) := by decide +kernel
theorem dX12_readings_4 : decode cX12_readings 4 = .ok (.iload_n 3, 1) := by decide +kernel
theorem dX12_readings_5 : decode cX12_readings 5 = .ok (.invokevirtual 422, 3) := by decide +kernel
theorem dX12_readings_8 : decode cX12_readings 8 = .ok (.ifCond .eq 7, 3) := by decide +kernel
theorem dX12_readings_11 : decode cX12_readings 11 = .ok (.iconst 0, 1) := by decide +kernel
theorem dX12_readings_12 : decode cX12_readings 12 = .ok (.goto 4, 3) := by decide +kernel
theorem dX12_readings_15 : decode cX12_readings 15 = .ok (.iconst 1, 1) := by decide +kernel
theorem dX12_readings_16 : decode cX12_readings 16 = .ok (.invokevirtual 202, 3) := by decide +kernel
theorem dX12_readings_19 : decode cX12_readings 19 = .ok (.ifCond .eq 13, 3) := by decide +kernel
theorem dX12_readings_22 : decode cX12_readings 22 = .ok (.aload_n 0, 1) := by decide +kernel
theorem dX12_readings_23 : decode cX12_readings 23 = .ok (.iload_n 1, 1) := by decide +kernel
theorem dX12_readings_24 : decode cX12_readings 24 = .ok (.iload_n 2, 1) := by decide +kernel
theorem dX12_readings_25 : decode cX12_readings 25 = .ok (.iload_n 3, 1) := by decide +kernel
theorem dX12_readings_26 : decode cX12_readings 26 = .ok (.invokevirtual 425, 3) := by decide +kernel
theorem dX12_readings_29 : decode cX12_readings 29 = .ok (.goto 4, 3) := by decide +kernel
theorem dX12_readings_32 : decode cX12_readings 32 = .ok (.iconst 0, 1) := by decide +kernel
theorem dX12_readings_33 : decode cX12_readings 33 = .ok (.ireturn, 1) := by decide +kernel
def is_X12_readings (Rt : np_Rt) : List (Nat × np_Op) := [(0, np_ald 1 0), (1, np_ald 1 0), (2, np_ild 1 1), (3, np_ild 1 2), (4, np_ild 1 3), (5, nq_callV 12 4 sp_X12_isPlace 4 0 0 0 0), (8, nq_if (fun x => x = 0) 15), (11, np_push 1 (.int 0)), (12, np_goto 16), (15, np_push 1 (.int 1)), (16, nq_callV 12 2 sp_X12_can 2 0 0 0 0), (19, nq_if (fun x => x = 0) 32), (22, np_ald 1 0), (23, np_ild 1 1), (24, np_ild 1 2), (25, np_ild 1 3), (29, np_goto 33), (32, np_push 1 (.int 0)), (33, np_ret Rt)]
set_option maxRecDepth 20000 in
theorem so_X12_readings {X : np_Ctx} {Rt : np_Rt} (hX : np_ok RX12 cX12_readings 4 3 66 0 0 .ireturn X) (hR : ∀ st w ce sl, Rt st w ce sl → X.2.2.1 st w ce sl) : ∀ q ∈ is_X12_readings Rt, np_S X q.1 q.2 :=
  List.forall_mem_cons.mpr ⟨np_s_aload_n hX dX12_readings_0 rfl, List.forall_mem_cons.mpr ⟨np_s_aload_n hX dX12_readings_1 rfl, List.forall_mem_cons.mpr ⟨np_s_iload_n hX dX12_readings_2 rfl, List.forall_mem_cons.mpr ⟨np_s_iload_n hX dX12_readings_3 rfl, List.forall_mem_cons.mpr ⟨np_s_iload_n hX dX12_readings_4 rfl, List.forall_mem_cons.mpr ⟨np_S.mono (op := np_callV 12 4 sp_X12_isPlace 4 0 0 0 0) (np_s_callV hX C_X12_isPlace dX12_readings_5 (q := (RX12, TX12, 77)) rfl rfl gw2093 gw142 gw2090 gw2092 gw92 ⟨by decide, by decide, by decide⟩ (by decide) (by decide)) nq_callV_le, List.forall_mem_cons.mpr ⟨np_S.mono (op := np_if (fun x => x = 0) 15) (np_s_if_eq hX dX12_readings_8 (by decide)) nq_if_le, List.forall_mem_cons.mpr ⟨np_s_iconst hX dX12_readings_11 (by decide), List.forall_mem_cons.mpr ⟨np_s_goto hX dX12_readings_12 (by decide), List.forall_mem_cons.mpr ⟨np_s_iconst hX dX12_readings_15 (by decide), List.forall_mem_cons.mpr ⟨np_S.mono (op := np_callV 12 2 sp_X12_can 2 0 0 0 0) (np_s_callV hX C_X12_can dX12_readings_16 (q := (RX12, TX12, 77)) rfl rfl gw1890 gw142 gw1887 gw1889 gw63 ⟨by decide, by decide, by decide⟩ (by decide) (by decide)) nq_callV_le, List.forall_mem_cons.mpr ⟨np_S.mono (op := np_if (fun x => x = 0) 32) (np_s_if_eq hX dX12_readings_19 (by decide)) nq_if_le, List.forall_mem_cons.mpr ⟨np_s_aload_n hX dX12_readings_22 rfl, List.forall_mem_cons.mpr ⟨np_s_iload_n hX dX12_readings_23 rfl, List.forall_mem_cons.mpr ⟨np_s_iload_n hX dX12_readings_24 rfl, List.forall_mem_cons.mpr ⟨np_s_iload_n hX dX12_readings_25 rfl, List.forall_mem_cons.mpr ⟨np_s_goto hX dX12_readings_29 (by decide), List.forall_mem_cons.mpr ⟨np_s_iconst hX dX12_readings_32 (by decide), List.forall_mem_cons.mpr ⟨np_S.mono (op := np_ret X.2.2.1) (np_s_ret hX dX12_readings_33) (nq_ret_le hR), fun _ h => nomatch h⟩⟩⟩⟩⟩⟩⟩⟩⟩⟩⟩⟩⟩⟩⟩⟩⟩⟩⟩
abbrev sp_X12_readings : np_Sp := nq_in is_X12_readings (some .int) 0 0 400
theorem C_X12_readings : np_C yX12_readings cX12_readings 4 (some .int) 3 66 0 0 sp_X12_readings := nq_inC 400 (by decide) (fun X Rt hX hmn hR => so_X12_readings hX hR)
theorem dX12_readingsAnew_0 : decode cX12_readingsAnew 0 = .ok (.aload_n 0, 1) := by decide +kernel
theorem dX12_readingsAnew_1 : decode cX12_readingsAnew 1 = .ok (.aload_n 0, 1) := by decide +kernel
theorem dX12_readingsAnew_2 : decode cX12_readingsAnew 2 = .ok (.iload_n 1, 1) := by decide +kernel
theorem dX12_readingsAnew_3 : decode cX12_readingsAnew 3 = .ok (.iload_n 2, 1) := by decide +kernel
theorem dX12_readingsAnew_4 : decode cX12_readingsAnew 4 = .ok (.iload_n 3, 1) := by decide +kernel
theorem dX12_readingsAnew_5 : decode cX12_readingsAnew 5 = .ok (.invokevirtual 422, 3) := by decide +kernel
theorem dX12_readingsAnew_8 : decode cX12_readingsAnew 8 = .ok (.ifCond .eq 7, 3) := by decide +kernel
theorem dX12_readingsAnew_11 : decode cX12_readingsAnew 11 = .ok (.iconst 0, 1) := by decide +kernel
theorem dX12_readingsAnew_12 : decode cX12_readingsAnew 12 = .ok (.goto 4, 3) := by decide +kernel
theorem dX12_readingsAnew_15 : decode cX12_readingsAnew 15 = .ok (.iconst 1, 1) := by decide +kernel
theorem dX12_readingsAnew_16 : decode cX12_readingsAnew 16 = .ok (.invokevirtual 202, 3) := by decide +kernel
theorem dX12_readingsAnew_19 : decode cX12_readingsAnew 19 = .ok (.ifCond .eq 13, 3) := by decide +kernel
theorem dX12_readingsAnew_22 : decode cX12_readingsAnew 22 = .ok (.aload_n 0, 1) := by decide +kernel
theorem dX12_readingsAnew_23 : decode cX12_readingsAnew 23 = .ok (.iload_n 1, 1) := by decide +kernel
theorem dX12_readingsAnew_24 : decode cX12_readingsAnew 24 = .ok (.iload_n 2, 1) := by decide +kernel
theorem dX12_readingsAnew_25 : decode cX12_readingsAnew 25 = .ok (.iload_n 3, 1) := by decide +kernel
theorem dX12_readingsAnew_26 : decode cX12_readingsAnew 26 = .ok (.invokevirtual 425, 3) := by decide +kernel
theorem dX12_readingsAnew_29 : decode cX12_readingsAnew 29 = .ok (.goto 4, 3) := by decide +kernel
theorem dX12_readingsAnew_32 : decode cX12_readingsAnew 32 = .ok (.iconst 0, 1) := by decide +kernel
theorem dX12_readingsAnew_33 : decode cX12_readingsAnew 33 = .ok (.ireturn, 1) := by decide +kernel
def is_X12_readingsAnew (Rt : np_Rt) : List (Nat × np_Op) := [(0, np_ald 1 0), (1, np_ald 1 0), (2, np_ild 1 1), (3, np_ild 1 2), (4, np_ild 1 3), (5, nq_callV 12 4 sp_X12_isPlace 4 0 0 0 0), (8, nq_if (fun x => x = 0) 15), (11, np_push 1 (.int 0)), (12, np_goto 16), (15, np_push 1 (.int 1)), (16, nq_callV 12 2 sp_X12_can 2 0 0 0 0), (19, nq_if (fun x => x = 0) 32), (22, np_ald 1 0), (23, np_ild 1 1), (24, np_ild 1 2), (25, np_ild 1 3), (29, np_goto 33), (32, np_push 1 (.int 0)), (33, np_ret Rt)]
set_option maxRecDepth 20000 in
theorem so_X12_readingsAnew {X : np_Ctx} {Rt : np_Rt} (hX : np_ok RX12 cX12_readingsAnew 4 3 66 0 0 .ireturn X) (hR : ∀ st w ce sl, Rt st w ce sl → X.2.2.1 st w ce sl) : ∀ q ∈ is_X12_readingsAnew Rt, np_S X q.1 q.2 :=
  List.forall_mem_cons.mpr ⟨np_s_aload_n hX dX12_readingsAnew_0 rfl, List.forall_mem_cons.mpr ⟨np_s_aload_n hX dX12_readingsAnew_1 rfl, List.forall_mem_cons.mpr ⟨np_s_iload_n hX dX12_readingsAnew_2 rfl, List.forall_mem_cons.mpr ⟨np_s_iload_n hX dX12_readingsAnew_3 rfl, List.forall_mem_cons.mpr ⟨np_s_iload_n hX dX12_readingsAnew_4 rfl, List.forall_mem_cons.mpr ⟨np_S.mono (op := np_callV 12 4 sp_X12_isPlace 4 0 0 0 0) (np_s_callV hX C_X12_isPlace dX12_readingsAnew_5 (q := (RX12, TX12, 77)) rfl rfl gw2093 gw142 gw2090 gw2092 gw92 ⟨by decide, by decide, by decide⟩ (by decide) (by decide)) nq_callV_le, List.forall_mem_cons.mpr ⟨np_S.mono (op := np_if (fun x => x = 0) 15) (np_s_if_eq hX dX12_readingsAnew_8 (by decide)) nq_if_le, List.forall_mem_cons.mpr ⟨np_s_iconst hX dX12_readingsAnew_11 (by decide), List.forall_mem_cons.mpr ⟨np_s_goto hX dX12_readingsAnew_12 (by decide), List.forall_mem_cons.mpr ⟨np_s_iconst hX dX12_readingsAnew_15 (by decide), List.forall_mem_cons.mpr ⟨np_S.mono (op := np_callV 12 2 sp_X12_can 2 0 0 0 0) (np_s_callV hX C_X12_can dX12_readingsAnew_16 (q := (RX12, TX12, 77)) rfl rfl gw1890 gw142 gw1887 gw1889 gw63 ⟨by decide, by decide, by decide⟩ (by decide) (by decide)) nq_callV_le, List.forall_mem_cons.mpr ⟨np_S.mono (op := np_if (fun x => x = 0) 32) (np_s_if_eq hX dX12_readingsAnew_19 (by decide)) nq_if_le, List.forall_mem_cons.mpr ⟨np_s_aload_n hX dX12_readingsAnew_22 rfl, List.forall_mem_cons.mpr ⟨np_s_iload_n hX dX12_readingsAnew_23 rfl, List.forall_mem_cons.mpr ⟨np_s_iload_n hX dX12_readingsAnew_24 rfl, List.forall_mem_cons.mpr ⟨np_s_iload_n hX dX12_readingsAnew_25 rfl, List.forall_mem_cons.mpr ⟨np_s_goto hX dX12_readingsAnew_29 (by decide), List.forall_mem_cons.mpr ⟨np_s_iconst hX dX12_readingsAnew_32 (by decide), List.forall_mem_cons.mpr ⟨np_S.mono (op := np_ret X.2.2.1) (np_s_ret hX dX12_readingsAnew_33) (nq_ret_le hR), fun _ h => nomatch h⟩⟩⟩⟩⟩⟩⟩⟩⟩⟩⟩⟩⟩⟩⟩⟩⟩⟩⟩
abbrev sp_X12_readingsAnew : np_Sp := nq_in is_X12_readingsAnew (some .int) 0 0 400
theorem C_X12_readingsAnew : np_C yX12_readingsAnew cX12_readingsAnew 4 (some .int) 3 66 0 0 sp_X12_readingsAnew := nq_inC 400 (by decide) (fun X Rt hX hmn hR => so_X12_readingsAnew hX hR)
theorem dX12_read_0 : decode cX12_read 0 = .ok (.aload_n 0, 1) := by decide +kernel
theorem dX12_read_1 : decode cX12_read 1 = .ok (.iload_n 1, 1) := by decide +kernel
theorem dX12_read_2 : decode cX12_read 2 = .ok (.iload_n 2, 1) := by decide +kernel
theorem dX12_read_3 : decode cX12_read 3 = .ok (.iload_n 3, 1) := by decide +kernel
theorem dX12_read_4 : decode cX12_read 4 = .ok (.invokevirtual 422, 3) := by decide +kernel
theorem dX12_read_7 : decode cX12_read 7 = .ok (.ifCond .eq 12, 3) := by decide +kernel
theorem dX12_read_10 : decode cX12_read 10 = .ok (.iload 4, 2) := by decide +kernel
theorem dX12_read_12 : decode cX12_read 12 = .ok (.ifCond .lt 7, 3) := by decide +kernel
theorem dX12_read_15 : decode cX12_read 15 = .ok (.iconst 1, 1) := by decide +kernel
theorem dX12_read_16 : decode cX12_read 16 = .ok (.goto 4, 3) := by decide +kernel
theorem dX12_read_19 : decode cX12_read 19 = .ok (.iconst 0, 1) := by decide +kernel
theorem dX12_read_20 : decode cX12_read 20 = .ok (.istore 5, 2) := by decide +kernel
theorem dX12_read_22 : decode cX12_read 22 = .ok (.iconst 1, 1) := by decide +kernel
theorem dX12_read_23 : decode cX12_read 23 = .ok (.istore 6, 2) := by decide +kernel
theorem dX12_read_25 : decode cX12_read 25 = .ok (.iload 5, 2) := by decide +kernel
theorem dX12_read_27 : decode cX12_read 27 = .ok (.ifCond .eq 38, 3) := by decide +kernel
theorem dX12_read_30 : decode cX12_read 30 = .ok (.aload_n 0, 1) := by decide +kernel
theorem dX12_read_31 : decode cX12_read 31 = .ok (.iload_n 1, 1) := by decide +kernel
theorem dX12_read_32 : decode cX12_read 32 = .ok (.iload_n 2, 1) := by decide +kernel
theorem dX12_read_33 : decode cX12_read 33 = .ok (.iload_n 3, 1) := by decide +kernel
theorem dX12_read_34 : decode cX12_read 34 = .ok (.invokevirtual 416, 3) := by decide +kernel
theorem dX12_read_37 : decode cX12_read 37 = .ok (.iconst 0, 1) := by decide +kernel
theorem dX12_read_38 : decode cX12_read 38 = .ok (.istore 7, 2) := by decide +kernel
theorem dX12_read_40 : decode cX12_read 40 = .ok (.iload 7, 2) := by decide +kernel
theorem dX12_read_42 : decode cX12_read 42 = .ok (.iload 4, 2) := by decide +kernel
theorem dX12_read_44 : decode cX12_read 44 = .ok (.if_icmp .gt 21, 3) := by decide +kernel
theorem dX12_read_47 : decode cX12_read 47 = .ok (.iload 6, 2) := by decide +kernel
theorem dX12_read_49 : decode cX12_read 49 = .ok (.iconst 1, 1) := by decide +kernel
theorem dX12_read_50 : decode cX12_read 50 = .ok (.if_icmp .ne 15, 3) := by decide +kernel
theorem dX12_read_53 : decode cX12_read 53 = .ok (.aload_n 0, 1) := by decide +kernel
theorem dX12_read_54 : decode cX12_read 54 = .ok (.invokevirtual 419, 3) := by decide +kernel
theorem dX12_read_57 : decode cX12_read 57 = .ok (.istore 6, 2) := by decide +kernel
theorem dX12_read_59 : decode cX12_read 59 = .ok (.iinc 7 1, 3) := by decide +kernel
theorem dX12_read_62 : decode cX12_read 62 = .ok (.goto (-22), 3) := by decide +kernel
theorem dX12_read_65 : decode cX12_read 65 = .ok (.aload_n 0, 1) := by decide +kernel
theorem dX12_read_66 : decode cX12_read 66 = .ok (.iload 5, 2) := by decide +kernel
theorem dX12_read_68 : decode cX12_read 68 = .ok (.ifCond .eq 13, 3) := by decide +kernel
theorem dX12_read_71 : decode cX12_read 71 = .ok (.iload 6, 2) := by decide +kernel
theorem dX12_read_73 : decode cX12_read 73 = .ok (.iconst 1, 1) := by decide +kernel
theorem dX12_read_74 : decode cX12_read 74 = .ok (.if_icmp .ne 7, 3) := by decide +kernel
theorem dX12_read_77 : decode cX12_read 77 = .ok (.iconst 0, 1) := by decide +kernel
theorem dX12_read_78 : decode cX12_read 78 = .ok (.goto 4, 3) := by decide +kernel
theorem dX12_read_81 : decode cX12_read 81 = .ok (.iconst 1, 1) := by decide +kernel
theorem dX12_read_82 : decode cX12_read 82 = .ok (.invokevirtual 202, 3) := by decide +kernel
theorem dX12_read_85 : decode cX12_read 85 = .ok (.ifCond .ne 5, 3) := by decide +kernel
theorem dX12_read_88 : decode cX12_read 88 = .ok (.iconst 0, 1) := by decide +kernel
theorem dX12_read_89 : decode cX12_read 89 = .ok (.ireturn, 1) := by decide +kernel
theorem dX12_read_90 : decode cX12_read 90 = .ok (.aload_n 0, 1) := by decide +kernel
theorem dX12_read_91 : decode cX12_read 91 = .ok (.invokevirtual 350, 3) := by decide +kernel
theorem dX12_read_94 : decode cX12_read 94 = .ok (.aload_n 0, 1) := by decide +kernel
theorem dX12_read_95 : decode cX12_read 95 = .ok (.getfield 413, 3) := by decide +kernel
theorem dX12_read_98 : decode cX12_read 98 = .ok (.ireturn, 1) := by decide +kernel
def is_X12_read (Rt : np_Rt) : List (Nat × np_Op) := [(0, np_ald 1 0), (1, np_ild 1 1), (2, np_ild 1 2), (3, np_ild 1 3), (4, nq_callV 12 4 sp_X12_isPlace 4 0 0 0 0), (7, nq_if (fun x => x = 0) 19), (10, np_ild 2 4), (12, nq_if (fun x => x < 0) 19), (15, np_push 1 (.int 1)), (16, np_goto 20), (19, np_push 1 (.int 0)), (20, np_ist 2 5), (22, np_push 1 (.int 1)), (23, np_ist 2 6), (25, np_ild 2 5), (27, nq_if (fun x => x = 0) 65), (30, np_ald 1 0), (31, np_ild 1 1), (32, np_ild 1 2), (33, np_ild 1 3), (37, np_push 1 (.int 0)), (38, np_ist 2 7), (40, np_ild 2 7), (42, np_ild 2 4), (44, nq_ic (fun x y => y < x) 65), (47, np_ild 2 6), (49, np_push 1 (.int 1)), (50, nq_icne 65), (53, np_ald 1 0), (57, np_ist 2 6), (59, np_iinc 7 1), (62, np_goto 40), (65, np_ald 1 0), (66, np_ild 2 5), (68, nq_if (fun x => x = 0) 81), (71, np_ild 2 6), (73, np_push 1 (.int 1)), (74, nq_icne 81), (77, np_push 1 (.int 0)), (78, np_goto 82), (81, np_push 1 (.int 1)), (82, nq_callV 12 2 sp_X12_can 2 0 0 0 0), (85, nq_ifne 90), (88, np_push 1 (.int 0)), (89, np_ret Rt), (90, np_ald 1 0), (94, np_ald 1 0), (95, nq_getf 12 58), (98, np_ret Rt)]
set_option maxRecDepth 20000 in
theorem so_X12_read {X : np_Ctx} {Rt : np_Rt} (hX : np_ok RX12 cX12_read 8 3 66 0 0 .ireturn X) (hR : ∀ st w ce sl, Rt st w ce sl → X.2.2.1 st w ce sl) : ∀ q ∈ is_X12_read Rt, np_S X q.1 q.2 :=
  List.forall_mem_cons.mpr ⟨np_s_aload_n hX dX12_read_0 rfl, List.forall_mem_cons.mpr ⟨np_s_iload_n hX dX12_read_1 rfl, List.forall_mem_cons.mpr ⟨np_s_iload_n hX dX12_read_2 rfl, List.forall_mem_cons.mpr ⟨np_s_iload_n hX dX12_read_3 rfl, List.forall_mem_cons.mpr ⟨np_S.mono (op := np_callV 12 4 sp_X12_isPlace 4 0 0 0 0) (np_s_callV hX C_X12_isPlace dX12_read_4 (q := (RX12, TX12, 77)) rfl rfl gw2093 gw142 gw2090 gw2092 gw92 ⟨by decide, by decide, by decide⟩ (by decide) (by decide)) nq_callV_le, List.forall_mem_cons.mpr ⟨np_S.mono (op := np_if (fun x => x = 0) 19) (np_s_if_eq hX dX12_read_7 (by decide)) nq_if_le, List.forall_mem_cons.mpr ⟨np_s_iload hX dX12_read_10, List.forall_mem_cons.mpr ⟨np_S.mono (op := np_if (fun x => x < 0) 19) (np_s_if_lt hX dX12_read_12 (by decide)) nq_if_le, List.forall_mem_cons.mpr ⟨np_s_iconst hX dX12_read_15 (by decide), List.forall_mem_cons.mpr ⟨np_s_goto hX dX12_read_16 (by decide), List.forall_mem_cons.mpr ⟨np_s_iconst hX dX12_read_19 (by decide), List.forall_mem_cons.mpr ⟨np_s_istore hX dX12_read_20 (by decide), List.forall_mem_cons.mpr ⟨np_s_iconst hX dX12_read_22 (by decide), List.forall_mem_cons.mpr ⟨np_s_istore hX dX12_read_23 (by decide), List.forall_mem_cons.mpr ⟨np_s_iload hX dX12_read_25, List.forall_mem_cons.mpr ⟨np_S.mono (op := np_if (fun x => x = 0) 65) (np_s_if_eq hX dX12_read_27 (by decide)) nq_if_le, List.forall_mem_cons.mpr ⟨np_s_aload_n hX dX12_read_30 rfl, List.forall_mem_cons.mpr ⟨np_s_iload_n hX dX12_read_31 rfl, List.forall_mem_cons.mpr ⟨np_s_iload_n hX dX12_read_32 rfl, List.forall_mem_cons.mpr ⟨np_s_iload_n hX dX12_read_33 rfl, List.forall_mem_cons.mpr ⟨np_s_iconst hX dX12_read_37 (by decide), List.forall_mem_cons.mpr ⟨np_s_istore hX dX12_read_38 (by decide), List.forall_mem_cons.mpr ⟨np_s_iload hX dX12_read_40, List.forall_mem_cons.mpr ⟨np_s_iload hX dX12_read_42, List.forall_mem_cons.mpr ⟨np_S.mono (op := np_ic (fun x y => y < x) 65) (np_s_icmp_gt hX dX12_read_44 (by decide)) nq_ic_le, List.forall_mem_cons.mpr ⟨np_s_iload hX dX12_read_47, List.forall_mem_cons.mpr ⟨np_s_iconst hX dX12_read_49 (by decide), List.forall_mem_cons.mpr ⟨np_S.mono (op := np_icne 65) (np_s_icmp_ne hX dX12_read_50 (by decide)) nq_icne_le, List.forall_mem_cons.mpr ⟨np_s_aload_n hX dX12_read_53 rfl, List.forall_mem_cons.mpr ⟨np_s_istore hX dX12_read_57 (by decide), List.forall_mem_cons.mpr ⟨np_s_iinc hX dX12_read_59 (by decide), List.forall_mem_cons.mpr ⟨np_s_goto hX dX12_read_62 (by decide), List.forall_mem_cons.mpr ⟨np_s_aload_n hX dX12_read_65 rfl, List.forall_mem_cons.mpr ⟨np_s_iload hX dX12_read_66, List.forall_mem_cons.mpr ⟨np_S.mono (op := np_if (fun x => x = 0) 81) (np_s_if_eq hX dX12_read_68 (by decide)) nq_if_le, List.forall_mem_cons.mpr ⟨np_s_iload hX dX12_read_71, List.forall_mem_cons.mpr ⟨np_s_iconst hX dX12_read_73 (by decide), List.forall_mem_cons.mpr ⟨np_S.mono (op := np_icne 81) (np_s_icmp_ne hX dX12_read_74 (by decide)) nq_icne_le, List.forall_mem_cons.mpr ⟨np_s_iconst hX dX12_read_77 (by decide), List.forall_mem_cons.mpr ⟨np_s_goto hX dX12_read_78 (by decide), List.forall_mem_cons.mpr ⟨np_s_iconst hX dX12_read_81 (by decide), List.forall_mem_cons.mpr ⟨np_S.mono (op := np_callV 12 2 sp_X12_can 2 0 0 0 0) (np_s_callV hX C_X12_can dX12_read_82 (q := (RX12, TX12, 77)) rfl rfl gw1890 gw142 gw1887 gw1889 gw63 ⟨by decide, by decide, by decide⟩ (by decide) (by decide)) nq_callV_le, List.forall_mem_cons.mpr ⟨np_S.mono (op := np_ifne 90) (np_s_if_ne hX dX12_read_85 (by decide)) nq_ifne_le, List.forall_mem_cons.mpr ⟨np_s_iconst hX dX12_read_88 (by decide), List.forall_mem_cons.mpr ⟨np_S.mono (op := np_ret X.2.2.1) (np_s_ret hX dX12_read_89) (nq_ret_le hR), List.forall_mem_cons.mpr ⟨np_s_aload_n hX dX12_read_90 rfl, List.forall_mem_cons.mpr ⟨np_s_aload_n hX dX12_read_94 rfl, List.forall_mem_cons.mpr ⟨np_S.mono (op := np_getf 12 58) (np_s_getf hX dX12_read_95 (C := RX12) (T := TX12) (N := 77) rfl guX12 (by decide) gw1694) nq_getf_le, List.forall_mem_cons.mpr ⟨np_S.mono (op := np_ret X.2.2.1) (np_s_ret hX dX12_read_98) (nq_ret_le hR), fun _ h => nomatch h⟩⟩⟩⟩⟩⟩⟩⟩⟩⟩⟩⟩⟩⟩⟩⟩⟩⟩⟩⟩⟩⟩⟩⟩⟩⟩⟩⟩⟩⟩⟩⟩⟩⟩⟩⟩⟩⟩⟩⟩⟩⟩⟩⟩⟩⟩⟩⟩⟩
abbrev sp_X12_read : np_Sp := nq_in is_X12_read (some .int) 0 0 400
theorem C_X12_read : np_C yX12_read cX12_read 8 (some .int) 3 66 0 0 sp_X12_read := nq_inC 400 (by decide) (fun X Rt hX hmn hR => so_X12_read hX hR)
theorem dX12_stream_0 : decode cX12_stream 0 = .ok (.aload_n 0, 1) := by decide +kernel
theorem dX12_stream_1 : decode cX12_stream 1 = .ok (.iload_n 1, 1) := by decide +kernel
theorem dX12_stream_2 : decode cX12_stream 2 = .ok (.invokestatic 356, 3) := by decide +kernel
theorem dX12_stream_5 : decode cX12_stream 5 = .ok (.ifCond .eq 15, 3) := by decide +kernel
theorem dX12_stream_8 : decode cX12_stream 8 = .ok (.aload_n 0, 1) := by decide +kernel
theorem dX12_stream_9 : decode cX12_stream 9 = .ok (.iload_n 2, 1) := by decide +kernel
theorem dX12_stream_10 : decode cX12_stream 10 = .ok (.invokevirtual 219, 3) := by decide +kernel
theorem dX12_stream_13 : decode cX12_stream 13 = .ok (.ifCond .eq 7, 3) := by decide +kernel
theorem dX12_stream_16 : decode cX12_stream 16 = .ok (.iconst 0, 1) := by decide +kernel
theorem dX12_stream_17 : decode cX12_stream 17 = .ok (.goto 4, 3) := by decide +kernel
theorem dX12_stream_20 : decode cX12_stream 20 = .ok (.iconst 1, 1) := by decide +kernel
theorem dX12_stream_21 : decode cX12_stream 21 = .ok (.invokevirtual 202, 3) := by decide +kernel
theorem dX12_stream_24 : decode cX12_stream 24 = .ok (.ifCond .ne 5, 3) := by decide +kernel
theorem dX12_stream_27 : decode cX12_stream 27 = .ok (.iconst 0, 1) := by decide +kernel
theorem dX12_stream_28 : decode cX12_stream 28 = .ok (.ireturn, 1) := by decide +kernel
theorem dX12_stream_29 : decode cX12_stream 29 = .ok (.aload_n 0, 1) := by decide +kernel
theorem dX12_stream_30 : decode cX12_stream 30 = .ok (.getfield 71, 3) := by decide +kernel
theorem dX12_stream_33 : decode cX12_stream 33 = .ok (.iload_n 1, 1) := by decide +kernel
theorem dX12_stream_34 : decode cX12_stream 34 = .ok (.iaload, 1) := by decide +kernel
theorem dX12_stream_35 : decode cX12_stream 35 = .ok (.iconst (-1), 1) := by decide +kernel
theorem dX12_stream_36 : decode cX12_stream 36 = .ok (.if_icmp .ne 7, 3) := by decide +kernel
theorem dX12_stream_39 : decode cX12_stream 39 = .ok (.iconst 0, 1) := by decide +kernel
theorem dX12_stream_40 : decode cX12_stream 40 = .ok (.goto 9, 3) := by decide +kernel
theorem dX12_stream_43 : decode cX12_stream 43 = .ok (.aload_n 0, 1) := by decide +kernel
theorem dX12_stream_44 : decode cX12_stream 44 = .ok (.getfield 74, 3) := by decide +kernel
theorem dX12_stream_47 : decode cX12_stream 47 = .ok (.iload_n 1, 1) := by decide +kernel
theorem dX12_stream_48 : decode cX12_stream 48 = .ok (.iaload, 1) := by decide +kernel
theorem dX12_stream_49 : decode cX12_stream 49 = .ok (.istore_n 3, 1) := by decide +kernel
theorem dX12_stream_50 : decode cX12_stream 50 = .ok (.aload_n 0, 1) := by decide +kernel
theorem dX12_stream_51 : decode cX12_stream 51 = .ok (.getfield 71, 3) := by decide +kernel
theorem dX12_stream_54 : decode cX12_stream 54 = .ok (.iload_n 1, 1) := by decide +kernel
theorem dX12_stream_55 : decode cX12_stream 55 = .ok (.iload_n 2, 1) := by decide +kernel
theorem dX12_stream_56 : decode cX12_stream 56 = .ok (.iastore, 1) := by decide +kernel
theorem dX12_stream_57 : decode cX12_stream 57 = .ok (.aload_n 0, 1) := by decide +kernel
theorem dX12_stream_58 : decode cX12_stream 58 = .ok (.getfield 74, 3) := by decide +kernel
theorem dX12_stream_61 : decode cX12_stream 61 = .ok (.iload_n 1, 1) := by decide +kernel
theorem dX12_stream_62 : decode cX12_stream 62 = .ok (.iconst 0, 1) := by decide +kernel
theorem dX12_stream_63 : decode cX12_stream 63 = .ok (.iastore, 1) := by decide +kernel
theorem dX12_stream_64 : decode cX12_stream 64 = .ok (.aload_n 0, 1) := by decide +kernel
theorem dX12_stream_65 : decode cX12_stream 65 = .ok (.getfield 77, 3) := by decide +kernel
theorem dX12_stream_68 : decode cX12_stream 68 = .ok (.iload_n 1, 1) := by decide +kernel
theorem dX12_stream_69 : decode cX12_stream 69 = .ok (.iconst 0, 1) := by decide +kernel
theorem dX12_stream_70 : decode cX12_stream 70 = .ok (.iastore, 1) := by decide +kernel
theorem dX12_stream_71 : decode cX12_stream 71 = .ok (.aload_n 0, 1) := by decide +kernel
theorem dX12_stream_72 : decode cX12_stream 72 = .ok (.getfield 80, 3) := by decide +kernel
theorem dX12_stream_75 : decode cX12_stream 75 = .ok (.iload_n 1, 1) := by decide +kernel
theorem dX12_stream_76 : decode cX12_stream 76 = .ok (.iconst 0, 1) := by decide +kernel
theorem dX12_stream_77 : decode cX12_stream 77 = .ok (.iastore, 1) := by decide +kernel
theorem dX12_stream_78 : decode cX12_stream 78 = .ok (.aload_n 0, 1) := by decide +kernel
theorem dX12_stream_79 : decode cX12_stream 79 = .ok (.getfield 89, 3) := by decide +kernel
theorem dX12_stream_82 : decode cX12_stream 82 = .ok (.iload_n 1, 1) := by decide +kernel
theorem dX12_stream_83 : decode cX12_stream 83 = .ok (.iconst 0, 1) := by decide +kernel
theorem dX12_stream_84 : decode cX12_stream 84 = .ok (.iastore, 1) := by decide +kernel
theorem dX12_stream_85 : decode cX12_stream 85 = .ok (.iload_n 3, 1) := by decide +kernel
theorem dX12_stream_86 : decode cX12_stream 86 = .ok (.ireturn, 1) := by decide +kernel
def is_X12_stream (Rt : np_Rt) : List (Nat × np_Op) := [(0, np_ald 1 0), (1, np_ild 1 1), (2, nq_call 1 sp_X12_isFile 1 0 0 0 0), (5, nq_if (fun x => x = 0) 20), (8, np_ald 1 0), (9, np_ild 1 2), (10, nq_callV 12 2 sp_X12_isDescription 2 0 0 0 0), (13, nq_if (fun x => x = 0) 20), (16, np_push 1 (.int 0)), (17, np_goto 21), (20, np_push 1 (.int 1)), (21, nq_callV 12 2 sp_X12_can 2 0 0 0 0), (24, nq_ifne 29), (27, np_push 1 (.int 0)), (28, np_ret Rt), (29, np_ald 1 0), (30, nq_getf 12 23), (33, np_ild 1 1), (34, nq_ialdT .int), (35, np_push 1 (.int (-1))), (36, nq_icne 43), (39, np_push 1 (.int 0)), (40, np_goto 49), (43, np_ald 1 0), (44, nq_getf 12 24), (47, np_ild 1 1), (48, nq_ialdT .int), (49, np_ist 1 3), (50, np_ald 1 0), (51, nq_getf 12 23), (54, np_ild 1 1), (55, np_ild 1 2), (56, nq_iastT .int), (57, np_ald 1 0), (58, nq_getf 12 24), (61, np_ild 1 1), (62, np_push 1 (.int 0)), (63, nq_iastT .int), (64, np_ald 1 0), (65, nq_getf 12 25), (68, np_ild 1 1), (69, np_push 1 (.int 0)), (70, nq_iastT .int), (71, np_ald 1 0), (72, nq_getf 12 26), (75, np_ild 1 1), (76, np_push 1 (.int 0)), (77, nq_iastT .int), (78, np_ald 1 0), (79, nq_getf 12 29), (82, np_ild 1 1), (83, np_push 1 (.int 0)), (84, nq_iastT .int), (85, np_ild 1 3), (86, np_ret Rt)]
set_option maxRecDepth 20000 in
theorem so_X12_stream {X : np_Ctx} {Rt : np_Rt} (hX : np_ok RX12 cX12_stream 4 2 43 0 0 .ireturn X) (hR : ∀ st w ce sl, Rt st w ce sl → X.2.2.1 st w ce sl) : ∀ q ∈ is_X12_stream Rt, np_S X q.1 q.2 :=
  List.forall_mem_cons.mpr ⟨np_s_aload_n hX dX12_stream_0 rfl, List.forall_mem_cons.mpr ⟨np_s_iload_n hX dX12_stream_1 rfl, List.forall_mem_cons.mpr ⟨np_S.mono (op := np_call 1 sp_X12_isFile 1 0 0 0 0) (np_s_callS hX C_X12_isFile dX12_stream_2 gw2062 gw142 gw2060 gw2061 ⟨by decide, by decide, by decide⟩ (by decide) (by decide)) nq_call_le, List.forall_mem_cons.mpr ⟨np_S.mono (op := np_if (fun x => x = 0) 20) (np_s_if_eq hX dX12_stream_5 (by decide)) nq_if_le, List.forall_mem_cons.mpr ⟨np_s_aload_n hX dX12_stream_8 rfl, List.forall_mem_cons.mpr ⟨np_s_iload_n hX dX12_stream_9 rfl, List.forall_mem_cons.mpr ⟨np_S.mono (op := np_callV 12 2 sp_X12_isDescription 2 0 0 0 0) (np_s_callV hX C_X12_isDescription dX12_stream_10 (q := (RX12, TX12, 77)) rfl rfl gw1921 gw142 gw1918 gw1920 gw67 ⟨by decide, by decide, by decide⟩ (by decide) (by decide)) nq_callV_le, List.forall_mem_cons.mpr ⟨np_S.mono (op := np_if (fun x => x = 0) 20) (np_s_if_eq hX dX12_stream_13 (by decide)) nq_if_le, List.forall_mem_cons.mpr ⟨np_s_iconst hX dX12_stream_16 (by decide), List.forall_mem_cons.mpr ⟨np_s_goto hX dX12_stream_17 (by decide), List.forall_mem_cons.mpr ⟨np_s_iconst hX dX12_stream_20 (by decide), List.forall_mem_cons.mpr ⟨np_S.mono (op := np_callV 12 2 sp_X12_can 2 0 0 0 0) (np_s_callV hX C_X12_can dX12_stream_21 (q := (RX12, TX12, 77)) rfl rfl gw1890 gw142 gw1887 gw1889 gw63 ⟨by decide, by decide, by decide⟩ (by decide) (by decide)) nq_callV_le, List.forall_mem_cons.mpr ⟨np_S.mono (op := np_ifne 29) (np_s_if_ne hX dX12_stream_24 (by decide)) nq_ifne_le, List.forall_mem_cons.mpr ⟨np_s_iconst hX dX12_stream_27 (by decide), List.forall_mem_cons.mpr ⟨np_S.mono (op := np_ret X.2.2.1) (np_s_ret hX dX12_stream_28) (nq_ret_le hR), List.forall_mem_cons.mpr ⟨np_s_aload_n hX dX12_stream_29 rfl, List.forall_mem_cons.mpr ⟨np_S.mono (op := np_getf 12 23) (np_s_getf hX dX12_stream_30 (C := RX12) (T := TX12) (N := 77) rfl guX12 (by decide) gw1659) nq_getf_le, List.forall_mem_cons.mpr ⟨np_s_iload_n hX dX12_stream_33 rfl, List.forall_mem_cons.mpr ⟨np_S.mono (op := np_ialdT .int) (np_s_iald hX dX12_stream_34) nq_ialdT_le, List.forall_mem_cons.mpr ⟨np_s_iconst hX dX12_stream_35 (by decide), List.forall_mem_cons.mpr ⟨np_S.mono (op := np_icne 43) (np_s_icmp_ne hX dX12_stream_36 (by decide)) nq_icne_le, List.forall_mem_cons.mpr ⟨np_s_iconst hX dX12_stream_39 (by decide), List.forall_mem_cons.mpr ⟨np_s_goto hX dX12_stream_40 (by decide), List.forall_mem_cons.mpr ⟨np_s_aload_n hX dX12_stream_43 rfl, List.forall_mem_cons.mpr ⟨np_S.mono (op := np_getf 12 24) (np_s_getf hX dX12_stream_44 (C := RX12) (T := TX12) (N := 77) rfl guX12 (by decide) gw1660) nq_getf_le, List.forall_mem_cons.mpr ⟨np_s_iload_n hX dX12_stream_47 rfl, List.forall_mem_cons.mpr ⟨np_S.mono (op := np_ialdT .int) (np_s_iald hX dX12_stream_48) nq_ialdT_le, List.forall_mem_cons.mpr ⟨np_s_istore_n hX dX12_stream_49 rfl (by decide), List.forall_mem_cons.mpr ⟨np_s_aload_n hX dX12_stream_50 rfl, List.forall_mem_cons.mpr ⟨np_S.mono (op := np_getf 12 23) (np_s_getf hX dX12_stream_51 (C := RX12) (T := TX12) (N := 77) rfl guX12 (by decide) gw1659) nq_getf_le, List.forall_mem_cons.mpr ⟨np_s_iload_n hX dX12_stream_54 rfl, List.forall_mem_cons.mpr ⟨np_s_iload_n hX dX12_stream_55 rfl, List.forall_mem_cons.mpr ⟨np_S.mono (op := np_iastT .int) (np_s_iast hX dX12_stream_56) nq_iastT_le, List.forall_mem_cons.mpr ⟨np_s_aload_n hX dX12_stream_57 rfl, List.forall_mem_cons.mpr ⟨np_S.mono (op := np_getf 12 24) (np_s_getf hX dX12_stream_58 (C := RX12) (T := TX12) (N := 77) rfl guX12 (by decide) gw1660) nq_getf_le, List.forall_mem_cons.mpr ⟨np_s_iload_n hX dX12_stream_61 rfl, List.forall_mem_cons.mpr ⟨np_s_iconst hX dX12_stream_62 (by decide), List.forall_mem_cons.mpr ⟨np_S.mono (op := np_iastT .int) (np_s_iast hX dX12_stream_63) nq_iastT_le, List.forall_mem_cons.mpr ⟨np_s_aload_n hX dX12_stream_64 rfl, List.forall_mem_cons.mpr ⟨np_S.mono (op := np_getf 12 25) (np_s_getf hX dX12_stream_65 (C := RX12) (T := TX12) (N := 77) rfl guX12 (by decide) gw1661) nq_getf_le, List.forall_mem_cons.mpr ⟨np_s_iload_n hX dX12_stream_68 rfl, List.forall_mem_cons.mpr ⟨np_s_iconst hX dX12_stream_69 (by decide), List.forall_mem_cons.mpr ⟨np_S.mono (op := np_iastT .int) (np_s_iast hX dX12_stream_70) nq_iastT_le, List.forall_mem_cons.mpr ⟨np_s_aload_n hX dX12_stream_71 rfl, List.forall_mem_cons.mpr ⟨np_S.mono (op := np_getf 12 26) (np_s_getf hX dX12_stream_72 (C := RX12) (T := TX12) (N := 77) rfl guX12 (by decide) gw1662) nq_getf_le, List.forall_mem_cons.mpr ⟨np_s_iload_n hX dX12_stream_75 rfl, List.forall_mem_cons.mpr ⟨np_s_iconst hX dX12_stream_76 (by decide), List.forall_mem_cons.mpr ⟨np_S.mono (op := np_iastT .int) (np_s_iast hX dX12_stream_77) nq_iastT_le, List.forall_mem_cons.mpr ⟨np_s_aload_n hX dX12_stream_78 rfl, List.forall_mem_cons.mpr ⟨np_S.mono (op := np_getf 12 29) (np_s_getf hX dX12_stream_79 (C := RX12) (T := TX12) (N := 77) rfl guX12 (by decide) gw1665) nq_getf_le, List.forall_mem_cons.mpr ⟨np_s_iload_n hX dX12_stream_82 rfl, List.forall_mem_cons.mpr ⟨np_s_iconst hX dX12_stream_83 (by decide), List.forall_mem_cons.mpr ⟨np_S.mono (op := np_iastT .int) (np_s_iast hX dX12_stream_84) nq_iastT_le, List.forall_mem_cons.mpr ⟨np_s_iload_n hX dX12_stream_85 rfl, List.forall_mem_cons.mpr ⟨np_S.mono (op := np_ret X.2.2.1) (np_s_ret hX dX12_stream_86) (nq_ret_le hR), fun _ h => nomatch h⟩⟩⟩⟩⟩⟩⟩⟩⟩⟩⟩⟩⟩⟩⟩⟩⟩⟩⟩⟩⟩⟩⟩⟩⟩⟩⟩⟩⟩⟩⟩⟩⟩⟩⟩⟩⟩⟩⟩⟩⟩⟩⟩⟩⟩⟩⟩⟩⟩⟩⟩⟩⟩⟩⟩
abbrev sp_X12_stream : np_Sp := nq_in is_X12_stream (some .int) 0 0 400
theorem C_X12_stream : np_C yX12_stream cX12_stream 4 (some .int) 2 43 0 0 sp_X12_stream := nq_inC 400 (by decide) (fun X Rt hX hmn hR => so_X12_stream hX hR)
theorem dX12_step_0 : decode cX12_step 0 = .ok (.iload_n 1, 1) := by decide +kernel
theorem dX12_step_1 : decode cX12_step 1 = .ok (.invokestatic 356, 3) := by decide +kernel
theorem dX12_step_4 : decode cX12_step 4 = .ok (.istore_n 2, 1) := by decide +kernel
theorem dX12_step_5 : decode cX12_step 5 = .ok (.iload_n 2, 1) := by decide +kernel
theorem dX12_step_6 : decode cX12_step 6 = .ok (.ifCond .eq 17, 3) := by decide +kernel
theorem dX12_step_9 : decode cX12_step 9 = .ok (.aload_n 0, 1) := by decide +kernel
theorem dX12_step_10 : decode cX12_step 10 = .ok (.getfield 71, 3) := by decide +kernel
theorem dX12_step_13 : decode cX12_step 13 = .ok (.iload_n 1, 1) := by decide +kernel
theorem dX12_step_14 : decode cX12_step 14 = .ok (.iaload, 1) := by decide +kernel
theorem dX12_step_15 : decode cX12_step 15 = .ok (.iconst (-1), 1) := by decide +kernel
theorem dX12_step_16 : decode cX12_step 16 = .ok (.if_icmp .ne 7, 3) := by decide +kernel
theorem dX12_step_19 : decode cX12_step 19 = .ok (.iconst 1, 1) := by decide +kernel
theorem dX12_step_20 : decode cX12_step 20 = .ok (.goto 4, 3) := by decide +kernel
theorem dX12_step_23 : decode cX12_step 23 = .ok (.iconst 0, 1) := by decide +kernel
theorem dX12_step_24 : decode cX12_step 24 = .ok (.istore_n 3, 1) := by decide +kernel
theorem dX12_step_25 : decode cX12_step 25 = .ok (.iload_n 2, 1) := by decide +kernel
theorem dX12_step_26 : decode cX12_step 26 = .ok (.ifCond .eq 15, 3) := by decide +kernel
theorem dX12_step_29 : decode cX12_step 29 = .ok (.iload_n 3, 1) := by decide +kernel
theorem dX12_step_30 : decode cX12_step 30 = .ok (.ifCond .ne 11, 3) := by decide +kernel
theorem dX12_step_33 : decode cX12_step 33 = .ok (.aload_n 0, 1) := by decide +kernel
theorem dX12_step_34 : decode cX12_step 34 = .ok (.iload_n 1, 1) := by decide +kernel
theorem dX12_step_35 : decode cX12_step 35 = .ok (.invokevirtual 434, 3) := by decide +kernel
theorem dX12_step_38 : decode cX12_step 38 = .ok (.goto 4, 3) := by decide +kernel
theorem dX12_step_41 : decode cX12_step 41 = .ok (.iconst 0, 1) := by decide +kernel
theorem dX12_step_42 : decode cX12_step 42 = .ok (.istore 4, 2) := by decide +kernel
theorem dX12_step_44 : decode cX12_step 44 = .ok (.iload_n 2, 1) := by decide +kernel
theorem dX12_step_45 : decode cX12_step 45 = .ok (.ifCond .eq 31, 3) := by decide +kernel
theorem dX12_step_48 : decode cX12_step 48 = .ok (.iload_n 3, 1) := by decide +kernel
theorem dX12_step_49 : decode cX12_step 49 = .ok (.ifCond .ne 27, 3) := by decide +kernel
theorem dX12_step_52 : decode cX12_step 52 = .ok (.iload 4, 2) := by decide +kernel
theorem dX12_step_54 : decode cX12_step 54 = .ok (.aload_n 0, 1) := by decide +kernel
theorem dX12_step_55 : decode cX12_step 55 = .ok (.getfield 64, 3) := by decide +kernel
theorem dX12_step_58 : decode cX12_step 58 = .ok (.iload_n 1, 1) := by decide +kernel
theorem dX12_step_59 : decode cX12_step 59 = .ok (.iaload, 1) := by decide +kernel
theorem dX12_step_60 : decode cX12_step 60 = .ok (.if_icmp .ne 16, 3) := by decide +kernel
theorem dX12_step_63 : decode cX12_step 63 = .ok (.aload_n 0, 1) := by decide +kernel
theorem dX12_step_64 : decode cX12_step 64 = .ok (.getfield 67, 3) := by decide +kernel
theorem dX12_step_67 : decode cX12_step 67 = .ok (.iload_n 1, 1) := by decide +kernel
theorem dX12_step_68 : decode cX12_step 68 = .ok (.baload, 1) := by decide +kernel
theorem dX12_step_69 : decode cX12_step 69 = .ok (.ifCond .ne 7, 3) := by decide +kernel
theorem dX12_step_72 : decode cX12_step 72 = .ok (.iconst 1, 1) := by decide +kernel
theorem dX12_step_73 : decode cX12_step 73 = .ok (.goto 4, 3) := by decide +kernel
theorem dX12_step_76 : decode cX12_step 76 = .ok (.iconst 0, 1) := by decide +kernel
theorem dX12_step_77 : decode cX12_step 77 = .ok (.istore 5, 2) := by decide +kernel
theorem dX12_step_79 : decode cX12_step 79 = .ok (.iload_n 2, 1) := by decide +kernel
theorem dX12_step_80 : decode cX12_step 80 = .ok (.ifCond .eq 42, 3) := by decide +kernel
theorem dX12_step_83 : decode cX12_step 83 = .ok (.iload_n 3, 1) := by decide +kernel
theorem dX12_step_84 : decode cX12_step 84 = .ok (.ifCond .ne 38, 3) := by decide +kernel
theorem dX12_step_87 : decode cX12_step 87 = .ok (.iload 4, 2) := by decide +kernel
theorem dX12_step_89 : decode cX12_step 89 = .ok (.aload_n 0, 1) := by decide +kernel
theorem dX12_step_90 : decode cX12_step 90 = .ok (.getfield 64, 3) := by decide +kernel
theorem dX12_step_93 : decode cX12_step 93 = .ok (.iload_n 1, 1) := by decide +kernel
theorem dX12_step_94 : decode cX12_step 94 = .ok (.iaload, 1) := by decide +kernel
theorem dX12_step_95 : decode cX12_step 95 = .ok (.if_icmp .ne 27, 3) := by decide +kernel
theorem dX12_step_98 : decode cX12_step 98 = .ok (.aload_n 0, 1) := by decide +kernel
theorem dX12_step_99 : decode cX12_step 99 = .ok (.getfield 67, 3) := by decide +kernel
theorem dX12_step_102 : decode cX12_step 102 = .ok (.iload_n 1, 1) := by decide +kernel
theorem dX12_step_103 : decode cX12_step 103 = .ok (.baload, 1) := by decide +kernel
theorem dX12_step_104 : decode cX12_step 104 = .ok (.ifCond .eq 18, 3) := by decide +kernel
theorem dX12_step_107 : decode cX12_step 107 = .ok (.aload_n 0, 1) := by decide +kernel
theorem dX12_step_108 : decode cX12_step 108 = .ok (.getfield 74, 3) := by decide +kernel
theorem dX12_step_111 : decode cX12_step 111 = .ok (.iload_n 1, 1) := by decide +kernel
theorem dX12_step_112 : decode cX12_step 112 = .ok (.iaload, 1) := by decide +kernel
theorem dX12_step_113 : decode cX12_step 113 = .ok (.iload 4, 2) := by decide +kernel
theorem dX12_step_115 : decode cX12_step 115 = .ok (.if_icmp .ne 7, 3) := by decide +kernel
theorem dX12_step_118 : decode cX12_step 118 = .ok (.iconst 1, 1) := by decide +kernel
theorem dX12_step_119 : decode cX12_step 119 = .ok (.goto 4, 3) := by decide +kernel
theorem dX12_step_122 : decode cX12_step 122 = .ok (.iconst 0, 1) := by decide +kernel
theorem dX12_step_123 : decode cX12_step 123 = .ok (.istore 6, 2) := by decide +kernel
theorem dX12_step_125 : decode cX12_step 125 = .ok (.iload_n 3, 1) := by decide +kernel
theorem dX12_step_126 : decode cX12_step 126 = .ok (.ifCond .ne 28, 3) := by decide +kernel
theorem dX12_step_129 : decode cX12_step 129 = .ok (.iload_n 2, 1) := by decide +kernel
theorem dX12_step_130 : decode cX12_step 130 = .ok (.ifCond .eq 28, 3) := by decide +kernel
theorem dX12_step_133 : decode cX12_step 133 = .ok (.iload 5, 2) := by decide +kernel
theorem dX12_step_135 : decode cX12_step 135 = .ok (.ifCond .ne 23, 3) := by decide +kernel
theorem dX12_step_138 : decode cX12_step 138 = .ok (.iload 6, 2) := by decide +kernel
theorem dX12_step_140 : decode cX12_step 140 = .ok (.ifCond .ne 18, 3) := by decide +kernel
theorem dX12_step_143 : decode cX12_step 143 = .ok (.aload_n 0, 1) := by decide +kernel
theorem dX12_step_144 : decode cX12_step 144 = .ok (.getfield 77, 3) := by decide +kernel
theorem dX12_step_147 : decode cX12_step 147 = .ok (.iload_n 1, 1) := by decide +kernel
theorem dX12_step_148 : decode cX12_step 148 = .ok (.iaload, 1) := by decide +kernel
theorem dX12_step_149 : decode cX12_step 149 = .ok (.bipush 24, 2) := by decide +kernel
theorem dX12_step_151 : decode cX12_step 151 = .ok (.if_icmp .ne 7, 3) := by decide +kernel
theorem dX12_step_154 : decode cX12_step 154 = .ok (.iconst 1, 1) := by decide +kernel
theorem dX12_step_155 : decode cX12_step 155 = .ok (.goto 4, 3) := by decide +kernel
theorem dX12_step_158 : decode cX12_step 158 = .ok (.iconst 0, 1) := by decide +kernel
theorem dX12_step_159 : decode cX12_step 159 = .ok (.istore_n 3, 1) := by decide +kernel
theorem dX12_step_160 : decode cX12_step 160 = .ok (.aload_n 0, 1) := by decide +kernel
theorem dX12_step_161 : decode cX12_step 161 = .ok (.iload_n 2, 1) := by decide +kernel
theorem dX12_step_162 : decode cX12_step 162 = .ok (.ifCond .ne 7, 3) := by decide +kernel
theorem dX12_step_165 : decode cX12_step 165 = .ok (.iconst 1, 1) := by decide +kernel
theorem dX12_step_166 : decode cX12_step 166 = .ok (.goto 12, 3) := by decide +kernel
theorem dX12_step_169 : decode cX12_step 169 = .ok (.iload_n 3, 1) := by decide +kernel
theorem dX12_step_170 : decode cX12_step 170 = .ok (.ifCond .eq 7, 3) := by decide +kernel
theorem dX12_step_173 : decode cX12_step 173 = .ok (.iconst 2, 1) := by decide +kernel
theorem dX12_step_174 : decode cX12_step 174 = .ok (.goto 4, 3) := by decide +kernel
theorem dX12_step_177 : decode cX12_step 177 = .ok (.iconst 0, 1) := by decide +kernel
theorem dX12_step_178 : decode cX12_step 178 = .ok (.invokevirtual 202, 3) := by decide +kernel
theorem dX12_step_181 : decode cX12_step 181 = .ok (.ifCond .ne 5, 3) := by decide +kernel
theorem dX12_step_184 : decode cX12_step 184 = .ok (.iconst 0, 1) := by decide +kernel
theorem dX12_step_185 : decode cX12_step 185 = .ok (.ireturn, 1) := by decide +kernel
theorem dX12_step_186 : decode cX12_step 186 = .ok (.iload 5, 2) := by decide +kernel
theorem dX12_step_188 : decode cX12_step 188 = .ok (.ifCond .ne 8, 3) := by decide +kernel
theorem dX12_step_191 : decode cX12_step 191 = .ok (.iload 6, 2) := by decide +kernel
theorem dX12_step_193 : decode cX12_step 193 = .ok (.ifCond .eq 15, 3) := by decide +kernel
theorem dX12_step_196 : decode cX12_step 196 = .ok (.iload 5, 2) := by decide +kernel
theorem dX12_step_198 : decode cX12_step 198 = .ok (.ifCond .eq 7, 3) := by decide +kernel
theorem dX12_step_201 : decode cX12_step 201 = .ok (.iconst (-1), 1) := by decide +kernel
theorem dX12_step_202 : decode cX12_step 202 = .ok (.goto 5, 3) := by decide +kernel
theorem dX12_step_205 : decode cX12_step 205 = .ok (.bipush (-2), 2) := by decide +kernel
theorem dX12_step_207 : decode cX12_step 207 = .ok (.ireturn, 1) := by decide +kernel
theorem dX12_step_208 : decode cX12_step 208 = .ok (.aload_n 0, 1) := by decide +kernel
theorem dX12_step_209 : decode cX12_step 209 = .ok (.iload_n 1, 1) := by decide +kernel
theorem dX12_step_210 : decode cX12_step 210 = .ok (.iload 4, 2) := by decide +kernel
theorem dX12_step_212 : decode cX12_step 212 = .ok (.invokevirtual 437, 3) := by decide +kernel
theorem dX12_step_215 : decode cX12_step 215 = .ok (.istore 7, 2) := by decide +kernel
theorem dX12_step_217 : decode cX12_step 217 = .ok (.iload 4, 2) := by decide +kernel
theorem dX12_step_219 : decode cX12_step 219 = .ok (.aload_n 0, 1) := by decide +kernel
theorem dX12_step_220 : decode cX12_step 220 = .ok (.getfield 64, 3) := by decide +kernel
theorem dX12_step_223 : decode cX12_step 223 = .ok (.iload_n 1, 1) := by decide +kernel
theorem dX12_step_224 : decode cX12_step 224 = .ok (.iaload, 1) := by decide +kernel
theorem dX12_step_225 : decode cX12_step 225 = .ok (.if_icmp .ge 10, 3) := by decide +kernel
theorem dX12_step_228 : decode cX12_step 228 = .ok (.iload 4, 2) := by decide +kernel
theorem dX12_step_230 : decode cX12_step 230 = .ok (.iconst 1, 1) := by decide +kernel
theorem dX12_step_231 : decode cX12_step 231 = .ok (.iadd, 1) := by decide +kernel
theorem dX12_step_232 : decode cX12_step 232 = .ok (.goto 5, 3) := by decide +kernel
theorem dX12_step_235 : decode cX12_step 235 = .ok (.iload 4, 2) := by decide +kernel
theorem dX12_step_237 : decode cX12_step 237 = .ok (.istore 8, 2) := by decide +kernel
theorem dX12_step_239 : decode cX12_step 239 = .ok (.iload 7, 2) := by decide +kernel
theorem dX12_step_241 : decode cX12_step 241 = .ok (.iconst (-1), 1) := by decide +kernel
theorem dX12_step_242 : decode cX12_step 242 = .ok (.if_icmp .ne 16, 3) := by decide +kernel
theorem dX12_step_245 : decode cX12_step 245 = .ok (.aload_n 0, 1) := by decide +kernel
theorem dX12_step_246 : decode cX12_step 246 = .ok (.getfield 77, 3) := by decide +kernel
theorem dX12_step_249 : decode cX12_step 249 = .ok (.iload_n 1, 1) := by decide +kernel
theorem dX12_step_250 : decode cX12_step 250 = .ok (.dup2, 1) := by decide +kernel
theorem dX12_step_251 : decode cX12_step 251 = .ok (.iaload, 1) := by decide +kernel
theorem dX12_step_252 : decode cX12_step 252 = .ok (.iconst 1, 1) := by decide +kernel
theorem dX12_step_253 : decode cX12_step 253 = .ok (.iadd, 1) := by decide +kernel
theorem dX12_step_254 : decode cX12_step 254 = .ok (.iastore, 1) := by decide +kernel
theorem dX12_step_255 : decode cX12_step 255 = .ok (.goto 58, 3) := by decide +kernel
theorem dX12_step_258 : decode cX12_step 258 = .ok (.sipush 301, 3) := by decide +kernel
theorem dX12_step_261 : decode cX12_step 261 = .ok (.iload_n 1, 1) := by decide +kernel
theorem dX12_step_262 : decode cX12_step 262 = .ok (.imul, 1) := by decide +kernel
theorem dX12_step_263 : decode cX12_step 263 = .ok (.aload_n 0, 1) := by decide +kernel
theorem dX12_step_264 : decode cX12_step 264 = .ok (.getfield 89, 3) := by decide +kernel
theorem dX12_step_267 : decode cX12_step 267 = .ok (.iload_n 1, 1) := by decide +kernel
theorem dX12_step_268 : decode cX12_step 268 = .ok (.iaload, 1) := by decide +kernel
theorem dX12_step_269 : decode cX12_step 269 = .ok (.iadd, 1) := by decide +kernel
theorem dX12_step_270 : decode cX12_step 270 = .ok (.istore 9, 2) := by decide +kernel
theorem dX12_step_272 : decode cX12_step 272 = .ok (.aload_n 0, 1) := by decide +kernel
theorem dX12_step_273 : decode cX12_step 273 = .ok (.getfield 92, 3) := by decide +kernel
theorem dX12_step_276 : decode cX12_step 276 = .ok (.iload 9, 2) := by decide +kernel
theorem dX12_step_278 : decode cX12_step 278 = .ok (.iload 7, 2) := by decide +kernel
theorem dX12_step_280 : decode cX12_step 280 = .ok (.iastore, 1) := by decide +kernel
theorem dX12_step_281 : decode cX12_step 281 = .ok (.aload_n 0, 1) := by decide +kernel
theorem dX12_step_282 : decode cX12_step 282 = .ok (.getfield 95, 3) := by decide +kernel
theorem dX12_step_285 : decode cX12_step 285 = .ok (.iload 9, 2) := by decide +kernel
theorem dX12_step_287 : decode cX12_step 287 = .ok (.aload_n 0, 1) := by decide +kernel
theorem dX12_step_288 : decode cX12_step 288 = .ok (.getfield 74, 3) := by decide +kernel
theorem dX12_step_291 : decode cX12_step 291 = .ok (.iload_n 1, 1) := by decide +kernel
theorem dX12_step_292 : decode cX12_step 292 = .ok (.iaload, 1) := by decide +kernel
theorem dX12_step_293 : decode cX12_step 293 = .ok (.iastore, 1) := by decide +kernel
theorem dX12_step_294 : decode cX12_step 294 = .ok (.aload_n 0, 1) := by decide +kernel
theorem dX12_step_295 : decode cX12_step 295 = .ok (.getfield 98, 3) := by decide +kernel
theorem dX12_step_298 : decode cX12_step 298 = .ok (.iload 9, 2) := by decide +kernel
theorem dX12_step_300 : decode cX12_step 300 = .ok (.iload 8, 2) := by decide +kernel
theorem dX12_step_302 : decode cX12_step 302 = .ok (.iastore, 1) := by decide +kernel
theorem dX12_step_303 : decode cX12_step 303 = .ok (.aload_n 0, 1) := by decide +kernel
theorem dX12_step_304 : decode cX12_step 304 = .ok (.getfield 89, 3) := by decide +kernel
theorem dX12_step_307 : decode cX12_step 307 = .ok (.iload_n 1, 1) := by decide +kernel
theorem dX12_step_308 : decode cX12_step 308 = .ok (.dup2, 1) := by decide +kernel
theorem dX12_step_309 : decode cX12_step 309 = .ok (.iaload, 1) := by decide +kernel
theorem dX12_step_310 : decode cX12_step 310 = .ok (.iconst 1, 1) := by decide +kernel
theorem dX12_step_311 : decode cX12_step 311 = .ok (.iadd, 1) := by decide +kernel
theorem dX12_step_312 : decode cX12_step 312 = .ok (.iastore, 1) := by decide +kernel
theorem dX12_step_313 : decode cX12_step 313 = .ok (.aload_n 0, 1) := by decide +kernel
theorem dX12_step_314 : decode cX12_step 314 = .ok (.getfield 74, 3) := by decide +kernel
theorem dX12_step_317 : decode cX12_step 317 = .ok (.iload_n 1, 1) := by decide +kernel
theorem dX12_step_318 : decode cX12_step 318 = .ok (.iload 8, 2) := by decide +kernel
theorem dX12_step_320 : decode cX12_step 320 = .ok (.iastore, 1) := by decide +kernel
theorem dX12_step_321 : decode cX12_step 321 = .ok (.iload 7, 2) := by decide +kernel
theorem dX12_step_323 : decode cX12_step 323 = .ok (.iconst (-1), 1) := by decide +kernel
theorem dX12_step_324 : decode cX12_step 324 = .ok (.if_icmp .ne 7, 3) := by decide +kernel
theorem dX12_step_327 : decode cX12_step 327 = .ok (.iconst 1, 1) := by decide +kernel
theorem dX12_step_328 : decode cX12_step 328 = .ok (.goto 4, 3) := by decide +kernel
theorem dX12_step_331 : decode cX12_step 331 = .ok (.iconst 0, 1) := by decide +kernel
theorem dX12_step_332 : decode cX12_step 332 = .ok (.ireturn, 1) := by decide +kernel
def is_X12_step (Rt : np_Rt) : List (Nat × np_Op) := [(0, np_ild 1 1), (1, nq_call 1 sp_X12_isFile 1 0 0 0 0), (4, np_ist 1 2), (5, np_ild 1 2), (6, nq_if (fun x => x = 0) 23), (9, np_ald 1 0), (10, nq_getf 12 23), (13, np_ild 1 1), (14, nq_ialdT .int), (15, np_push 1 (.int (-1))), (16, nq_icne 23), (19, np_push 1 (.int 1)), (20, np_goto 24), (23, np_push 1 (.int 0)), (24, np_ist 1 3), (25, np_ild 1 2), (26, nq_if (fun x => x = 0) 41), (29, np_ild 1 3), (30, nq_ifne 41), (33, np_ald 1 0), (34, np_ild 1 1), (38, np_goto 42), (41, np_push 1 (.int 0)), (42, np_ist 2 4), (44, np_ild 1 2), (45, nq_if (fun x => x = 0) 76), (48, np_ild 1 3), (49, nq_ifne 76), (52, np_ild 2 4), (54, np_ald 1 0), (55, nq_getf 12 21), (58, np_ild 1 1), (59, nq_ialdT .int), (60, nq_icne 76), (63, np_ald 1 0), (64, nq_getf 12 22), (67, np_ild 1 1), (68, nq_ialdT .boolean), (69, nq_ifne 76), (72, np_push 1 (.int 1)), (73, np_goto 77), (76, np_push 1 (.int 0)), (77, np_ist 2 5), (79, np_ild 1 2), (80, nq_if (fun x => x = 0) 122), (83, np_ild 1 3), (84, nq_ifne 122), (87, np_ild 2 4), (89, np_ald 1 0), (90, nq_getf 12 21), (93, np_ild 1 1), (94, nq_ialdT .int), (95, nq_icne 122), (98, np_ald 1 0), (99, nq_getf 12 22), (102, np_ild 1 1), (103, nq_ialdT .boolean), (104, nq_if (fun x => x = 0) 122), (107, np_ald 1 0), (108, nq_getf 12 24), (111, np_ild 1 1), (112, nq_ialdT .int), (113, np_ild 2 4), (115, nq_icne 122), (118, np_push 1 (.int 1)), (119, np_goto 123), (122, np_push 1 (.int 0)), (123, np_ist 2 6), (125, np_ild 1 3), (126, nq_ifne 154), (129, np_ild 1 2), (130, nq_if (fun x => x = 0) 158), (133, np_ild 2 5), (135, nq_ifne 158), (138, np_ild 2 6), (140, nq_ifne 158), (143, np_ald 1 0), (144, nq_getf 12 25), (147, np_ild 1 1), (148, nq_ialdT .int), (149, np_push 2 (.int 24)), (151, nq_icne 158), (154, np_push 1 (.int 1)), (155, np_goto 159), (158, np_push 1 (.int 0)), (159, np_ist 1 3), (160, np_ald 1 0), (161, np_ild 1 2), (162, nq_ifne 169), (165, np_push 1 (.int 1)), (166, np_goto 178), (169, np_ild 1 3), (170, nq_if (fun x => x = 0) 177), (173, np_push 1 (.int 2)), (174, np_goto 178), (177, np_push 1 (.int 0)), (178, nq_callV 12 2 sp_X12_can 2 0 0 0 0), (181, nq_ifne 186), (184, np_push 1 (.int 0)), (185, np_ret Rt), (186, np_ild 2 5), (188, nq_ifne 196), (191, np_ild 2 6), (193, nq_if (fun x => x = 0) 208), (196, np_ild 2 5), (198, nq_if (fun x => x = 0) 205), (201, np_push 1 (.int (-1))), (202, np_goto 207), (205, np_push 2 (.int (-2))), (207, np_ret Rt), (208, np_ald 1 0), (209, np_ild 1 1), (210, np_ild 2 4), (215, np_ist 2 7), (217, np_ild 2 4), (219, np_ald 1 0), (220, nq_getf 12 21), (223, np_ild 1 1), (224, nq_ialdT .int), (225, nq_ic (fun x y => y ≤ x) 235), (228, np_ild 2 4), (230, np_push 1 (.int 1)), (231, np_ib (fun x y => x + y)), (232, np_goto 237), (235, np_ild 2 4), (237, np_ist 2 8), (239, np_ild 2 7), (241, np_push 1 (.int (-1))), (242, nq_icne 258), (245, np_ald 1 0), (246, nq_getf 12 25), (249, np_ild 1 1), (250, nq_dup2), (251, nq_ialdT .int), (252, np_push 1 (.int 1)), (253, np_ib (fun x y => x + y)), (254, nq_iastT .int), (255, np_goto 313), (258, np_push 3 (.int 301)), (261, np_ild 1 1), (262, np_ib (fun x y => x * y)), (263, np_ald 1 0), (264, nq_getf 12 29), (267, np_ild 1 1), (268, nq_ialdT .int), (269, np_ib (fun x y => x + y)), (270, np_ist 2 9), (272, np_ald 1 0), (273, nq_getf 12 30), (276, np_ild 2 9), (278, np_ild 2 7), (280, nq_iastT .int), (281, np_ald 1 0), (282, nq_getf 12 31), (285, np_ild 2 9), (287, np_ald 1 0), (288, nq_getf 12 24), (291, np_ild 1 1), (292, nq_ialdT .int), (293, nq_iastT .int), (294, np_ald 1 0), (295, nq_getf 12 32), (298, np_ild 2 9), (300, np_ild 2 8), (302, nq_iastT .int), (303, np_ald 1 0), (304, nq_getf 12 29), (307, np_ild 1 1), (308, nq_dup2), (309, nq_ialdT .int), (310, np_push 1 (.int 1)), (311, np_ib (fun x y => x + y)), (312, nq_iastT .int), (313, np_ald 1 0), (314, nq_getf 12 24), (317, np_ild 1 1), (318, np_ild 2 8), (320, nq_iastT .int), (321, np_ild 2 7), (323, np_push 1 (.int (-1))), (324, nq_icne 331), (327, np_push 1 (.int 1)), (328, np_goto 332), (331, np_push 1 (.int 0)), (332, np_ret Rt)]
set_option maxRecDepth 20000 in
theorem so_X12_step {X : np_Ctx} {Rt : np_Rt} (hX : np_ok RX12 cX12_step 10 2 42 0 0 .ireturn X) (hR : ∀ st w ce sl, Rt st w ce sl → X.2.2.1 st w ce sl) : ∀ q ∈ is_X12_step Rt, np_S X q.1 q.2 :=
  List.forall_mem_cons.mpr ⟨np_s_iload_n hX dX12_step_0 rfl, List.forall_mem_cons.mpr ⟨np_S.mono (op := np_call 1 sp_X12_isFile 1 0 0 0 0) (np_s_callS hX C_X12_isFile dX12_step_1 gw2062 gw142 gw2060 gw2061 ⟨by decide, by decide, by decide⟩ (by decide) (by decide)) nq_call_le, List.forall_mem_cons.mpr ⟨np_s_istore_n hX dX12_step_4 rfl (by decide), List.forall_mem_cons.mpr ⟨np_s_iload_n hX dX12_step_5 rfl, List.forall_mem_cons.mpr ⟨np_S.mono (op := np_if (fun x => x = 0) 23) (np_s_if_eq hX dX12_step_6 (by decide)) nq_if_le, List.forall_mem_cons.mpr ⟨np_s_aload_n hX dX12_step_9 rfl, List.forall_mem_cons.mpr ⟨np_S.mono (op := np_getf 12 23) (np_s_getf hX dX12_step_10 (C := RX12) (T := TX12) (N := 77) rfl guX12 (by decide) gw1659) nq_getf_le, List.forall_mem_cons.mpr ⟨np_s_iload_n hX dX12_step_13 rfl, List.forall_mem_cons.mpr ⟨np_S.mono (op := np_ialdT .int) (np_s_iald hX dX12_step_14) nq_ialdT_le, List.forall_mem_cons.mpr ⟨np_s_iconst hX dX12_step_15 (by decide), List.forall_mem_cons.mpr ⟨np_S.mono (op := np_icne 23) (np_s_icmp_ne hX dX12_step_16 (by decide)) nq_icne_le, List.forall_mem_cons.mpr ⟨np_s_iconst hX dX12_step_19 (by decide), List.forall_mem_cons.mpr ⟨np_s_goto hX dX12_step_20 (by decide), List.forall_mem_cons.mpr ⟨np_s_iconst hX dX12_step_23 (by decide), List.forall_mem_cons.mpr ⟨np_s_istore_n hX dX12_step_24 rfl (by decide), List.forall_mem_cons.mpr ⟨np_s_iload_n hX dX12_step_25 rfl, List.forall_mem_cons.mpr ⟨np_S.mono (op := np_if (fun x => x = 0) 41) (np_s_if_eq hX dX12_step_26 (by decide)) nq_if_le, List.forall_mem_cons.mpr ⟨np_s_iload_n hX dX12_step_29 rfl, List.forall_mem_cons.mpr ⟨np_S.mono (op := np_ifne 41) (np_s_if_ne hX dX12_step_30 (by decide)) nq_ifne_le, List.forall_mem_cons.mpr ⟨np_s_aload_n hX dX12_step_33 rfl, List.forall_mem_cons.mpr ⟨np_s_iload_n hX dX12_step_34 rfl, List.forall_mem_cons.mpr ⟨np_s_goto hX dX12_step_38 (by decide), List.forall_mem_cons.mpr ⟨np_s_iconst hX dX12_step_41 (by decide), List.forall_mem_cons.mpr ⟨np_s_istore hX dX12_step_42 (by decide), List.forall_mem_cons.mpr ⟨np_s_iload_n hX dX12_step_44 rfl, List.forall_mem_cons.mpr ⟨np_S.mono (op := np_if (fun x => x = 0) 76) (np_s_if_eq hX dX12_step_45 (by decide)) nq_if_le, List.forall_mem_cons.mpr ⟨np_s_iload_n hX dX12_step_48 rfl, List.forall_mem_cons.mpr ⟨np_S.mono (op := np_ifne 76) (np_s_if_ne hX dX12_step_49 (by decide)) nq_ifne_le, List.forall_mem_cons.mpr ⟨np_s_iload hX dX12_step_52, List.forall_mem_cons.mpr ⟨np_s_aload_n hX dX12_step_54 rfl, List.forall_mem_cons.mpr ⟨np_S.mono (op := np_getf 12 21) (np_s_getf hX dX12_step_55 (C := RX12) (T := TX12) (N := 77) rfl guX12 (by decide) gw1657) nq_getf_le, List.forall_mem_cons.mpr ⟨np_s_iload_n hX dX12_step_58 rfl, List.forall_mem_cons.mpr ⟨np_S.mono (op := np_ialdT .int) (np_s_iald hX dX12_step_59) nq_ialdT_le, List.forall_mem_cons.mpr ⟨np_S.mono (op := np_icne 76) (np_s_icmp_ne hX dX12_step_60 (by decide)) nq_icne_le, List.forall_mem_cons.mpr ⟨np_s_aload_n hX dX12_step_63 rfl, List.forall_mem_cons.mpr ⟨np_S.mono (op := np_getf 12 22) (np_s_getf hX dX12_step_64 (C := RX12) (T := TX12) (N := 77) rfl guX12 (by decide) gw1658) nq_getf_le, List.forall_mem_cons.mpr ⟨np_s_iload_n hX dX12_step_67 rfl, List.forall_mem_cons.mpr ⟨np_S.mono (op := np_ialdT .boolean) (np_s_zald hX dX12_step_68) nq_ialdT_le, List.forall_mem_cons.mpr ⟨np_S.mono (op := np_ifne 76) (np_s_if_ne hX dX12_step_69 (by decide)) nq_ifne_le, List.forall_mem_cons.mpr ⟨np_s_iconst hX dX12_step_72 (by decide), List.forall_mem_cons.mpr ⟨np_s_goto hX dX12_step_73 (by decide), List.forall_mem_cons.mpr ⟨np_s_iconst hX dX12_step_76 (by decide), List.forall_mem_cons.mpr ⟨np_s_istore hX dX12_step_77 (by decide), List.forall_mem_cons.mpr ⟨np_s_iload_n hX dX12_step_79 rfl, List.forall_mem_cons.mpr ⟨np_S.mono (op := np_if (fun x => x = 0) 122) (np_s_if_eq hX dX12_step_80 (by decide)) nq_if_le, List.forall_mem_cons.mpr ⟨np_s_iload_n hX dX12_step_83 rfl, List.forall_mem_cons.mpr ⟨np_S.mono (op := np_ifne 122) (np_s_if_ne hX dX12_step_84 (by decide)) nq_ifne_le, List.forall_mem_cons.mpr ⟨np_s_iload hX dX12_step_87, List.forall_mem_cons.mpr ⟨np_s_aload_n hX dX12_step_89 rfl, List.forall_mem_cons.mpr ⟨np_S.mono (op := np_getf 12 21) (np_s_getf hX dX12_step_90 (C := RX12) (T := TX12) (N := 77) rfl guX12 (by decide) gw1657) nq_getf_le, List.forall_mem_cons.mpr ⟨np_s_iload_n hX dX12_step_93 rfl, List.forall_mem_cons.mpr ⟨np_S.mono (op := np_ialdT .int) (np_s_iald hX dX12_step_94) nq_ialdT_le, List.forall_mem_cons.mpr ⟨np_S.mono (op := np_icne 122) (np_s_icmp_ne hX dX12_step_95 (by decide)) nq_icne_le, List.forall_mem_cons.mpr ⟨np_s_aload_n hX dX12_step_98 rfl, List.forall_mem_cons.mpr ⟨np_S.mono (op := np_getf 12 22) (np_s_getf hX dX12_step_99 (C := RX12) (T := TX12) (N := 77) rfl guX12 (by decide) gw1658) nq_getf_le, List.forall_mem_cons.mpr ⟨np_s_iload_n hX dX12_step_102 rfl, List.forall_mem_cons.mpr ⟨np_S.mono (op := np_ialdT .boolean) (np_s_zald hX dX12_step_103) nq_ialdT_le, List.forall_mem_cons.mpr ⟨np_S.mono (op := np_if (fun x => x = 0) 122) (np_s_if_eq hX dX12_step_104 (by decide)) nq_if_le, List.forall_mem_cons.mpr ⟨np_s_aload_n hX dX12_step_107 rfl, List.forall_mem_cons.mpr ⟨np_S.mono (op := np_getf 12 24) (np_s_getf hX dX12_step_108 (C := RX12) (T := TX12) (N := 77) rfl guX12 (by decide) gw1660) nq_getf_le, List.forall_mem_cons.mpr ⟨np_s_iload_n hX dX12_step_111 rfl, List.forall_mem_cons.mpr ⟨np_S.mono (op := np_ialdT .int) (np_s_iald hX dX12_step_112) nq_ialdT_le, List.forall_mem_cons.mpr ⟨np_s_iload hX dX12_step_113, List.forall_mem_cons.mpr ⟨np_S.mono (op := np_icne 122) (np_s_icmp_ne hX dX12_step_115 (by decide)) nq_icne_le, List.forall_mem_cons.mpr ⟨np_s_iconst hX dX12_step_118 (by decide), List.forall_mem_cons.mpr ⟨np_s_goto hX dX12_step_119 (by decide), List.forall_mem_cons.mpr ⟨np_s_iconst hX dX12_step_122 (by decide), List.forall_mem_cons.mpr ⟨np_s_istore hX dX12_step_123 (by decide), List.forall_mem_cons.mpr ⟨np_s_iload_n hX dX12_step_125 rfl, List.forall_mem_cons.mpr ⟨np_S.mono (op := np_ifne 154) (np_s_if_ne hX dX12_step_126 (by decide)) nq_ifne_le, List.forall_mem_cons.mpr ⟨np_s_iload_n hX dX12_step_129 rfl, List.forall_mem_cons.mpr ⟨np_S.mono (op := np_if (fun x => x = 0) 158) (np_s_if_eq hX dX12_step_130 (by decide)) nq_if_le, List.forall_mem_cons.mpr ⟨np_s_iload hX dX12_step_133, List.forall_mem_cons.mpr ⟨np_S.mono (op := np_ifne 158) (np_s_if_ne hX dX12_step_135 (by decide)) nq_ifne_le, List.forall_mem_cons.mpr ⟨np_s_iload hX dX12_step_138, List.forall_mem_cons.mpr ⟨np_S.mono (op := np_ifne 158) (np_s_if_ne hX dX12_step_140 (by decide)) nq_ifne_le, List.forall_mem_cons.mpr ⟨np_s_aload_n hX dX12_step_143 rfl, List.forall_mem_cons.mpr ⟨np_S.mono (op := np_getf 12 25) (np_s_getf hX dX12_step_144 (C := RX12) (T := TX12) (N := 77) rfl guX12 (by decide) gw1661) nq_getf_le, List.forall_mem_cons.mpr ⟨np_s_iload_n hX dX12_step_147 rfl, List.forall_mem_cons.mpr ⟨np_S.mono (op := np_ialdT .int) (np_s_iald hX dX12_step_148) nq_ialdT_le, List.forall_mem_cons.mpr ⟨np_s_bipush hX dX12_step_149 (by decide), List.forall_mem_cons.mpr ⟨np_S.mono (op := np_icne 158) (np_s_icmp_ne hX dX12_step_151 (by decide)) nq_icne_le, List.forall_mem_cons.mpr ⟨np_s_iconst hX dX12_step_154 (by decide), List.forall_mem_cons.mpr ⟨np_s_goto hX dX12_step_155 (by decide), List.forall_mem_cons.mpr ⟨np_s_iconst hX dX12_step_158 (by decide), List.forall_mem_cons.mpr ⟨np_s_istore_n hX dX12_step_159 rfl (by decide), List.forall_mem_cons.mpr ⟨np_s_aload_n hX dX12_step_160 rfl, List.forall_mem_cons.mpr ⟨np_s_iload_n hX dX12_step_161 rfl, List.forall_mem_cons.mpr ⟨np_S.mono (op := np_ifne 169) (np_s_if_ne hX dX12_step_162 (by decide)) nq_ifne_le, List.forall_mem_cons.mpr ⟨np_s_iconst hX dX12_step_165 (by decide), List.forall_mem_cons.mpr ⟨np_s_goto hX dX12_step_166 (by decide), List.forall_mem_cons.mpr ⟨np_s_iload_n hX dX12_step_169 rfl, List.forall_mem_cons.mpr ⟨np_S.mono (op := np_if (fun x => x = 0) 177) (np_s_if_eq hX dX12_step_170 (by decide)) nq_if_le, List.forall_mem_cons.mpr ⟨np_s_iconst hX dX12_step_173 (by decide), List.forall_mem_cons.mpr ⟨np_s_goto hX dX12_step_174 (by decide), List.forall_mem_cons.mpr ⟨np_s_iconst hX dX12_step_177 (by decide), List.forall_mem_cons.mpr ⟨np_S.mono (op := np_callV 12 2 sp_X12_can 2 0 0 0 0) (np_s_callV hX C_X12_can dX12_step_178 (q := (RX12, TX12, 77)) rfl rfl gw1890 gw142 gw1887 gw1889 gw63 ⟨by decide, by decide, by decide⟩ (by decide) (by decide)) nq_callV_le, List.forall_mem_cons.mpr ⟨np_S.mono (op := np_ifne 186) (np_s_if_ne hX dX12_step_181 (by decide)) nq_ifne_le, List.forall_mem_cons.mpr ⟨np_s_iconst hX dX12_step_184 (by decide), List.forall_mem_cons.mpr ⟨np_S.mono (op := np_ret X.2.2.1) (np_s_ret hX dX12_step_185) (nq_ret_le hR), List.forall_mem_cons.mpr ⟨np_s_iload hX dX12_step_186, List.forall_mem_cons.mpr ⟨np_S.mono (op := np_ifne 196) (np_s_if_ne hX dX12_step_188 (by decide)) nq_ifne_le, List.forall_mem_cons.mpr ⟨np_s_iload hX dX12_step_191, List.forall_mem_cons.mpr ⟨np_S.mono (op := np_if (fun x => x = 0) 208) (np_s_if_eq hX dX12_step_193 (by decide)) nq_if_le, List.forall_mem_cons.mpr ⟨np_s_iload hX dX12_step_196, List.forall_mem_cons.mpr ⟨np_S.mono (op := np_if (fun x => x = 0) 205) (np_s_if_eq hX dX12_step_198 (by decide)) nq_if_le, List.forall_mem_cons.mpr ⟨np_s_iconst hX dX12_step_201 (by decide), List.forall_mem_cons.mpr ⟨np_s_goto hX dX12_step_202 (by decide), List.forall_mem_cons.mpr ⟨np_s_bipush hX dX12_step_205 (by decide), List.forall_mem_cons.mpr ⟨np_S.mono (op := np_ret X.2.2.1) (np_s_ret hX dX12_step_207) (nq_ret_le hR), List.forall_mem_cons.mpr ⟨np_s_aload_n hX dX12_step_208 rfl, List.forall_mem_cons.mpr ⟨np_s_iload_n hX dX12_step_209 rfl, List.forall_mem_cons.mpr ⟨np_s_iload hX dX12_step_210, List.forall_mem_cons.mpr ⟨np_s_istore hX dX12_step_215 (by decide), List.forall_mem_cons.mpr ⟨np_s_iload hX dX12_step_217, List.forall_mem_cons.mpr ⟨np_s_aload_n hX dX12_step_219 rfl, List.forall_mem_cons.mpr ⟨np_S.mono (op := np_getf 12 21) (np_s_getf hX dX12_step_220 (C := RX12) (T := TX12) (N := 77) rfl guX12 (by decide) gw1657) nq_getf_le, List.forall_mem_cons.mpr ⟨np_s_iload_n hX dX12_step_223 rfl, List.forall_mem_cons.mpr ⟨np_S.mono (op := np_ialdT .int) (np_s_iald hX dX12_step_224) nq_ialdT_le, List.forall_mem_cons.mpr ⟨np_S.mono (op := np_ic (fun x y => y ≤ x) 235) (np_s_icmp_ge hX dX12_step_225 (by decide)) nq_ic_le, List.forall_mem_cons.mpr ⟨np_s_iload hX dX12_step_228, List.forall_mem_cons.mpr ⟨np_s_iconst hX dX12_step_230 (by decide), List.forall_mem_cons.mpr ⟨np_s_iadd hX dX12_step_231, List.forall_mem_cons.mpr ⟨np_s_goto hX dX12_step_232 (by decide), List.forall_mem_cons.mpr ⟨np_s_iload hX dX12_step_235, List.forall_mem_cons.mpr ⟨np_s_istore hX dX12_step_237 (by decide), List.forall_mem_cons.mpr ⟨np_s_iload hX dX12_step_239, List.forall_mem_cons.mpr ⟨np_s_iconst hX dX12_step_241 (by decide), List.forall_mem_cons.mpr ⟨np_S.mono (op := np_icne 258) (np_s_icmp_ne hX dX12_step_242 (by decide)) nq_icne_le, List.forall_mem_cons.mpr ⟨np_s_aload_n hX dX12_step_245 rfl, List.forall_mem_cons.mpr ⟨np_S.mono (op := np_getf 12 25) (np_s_getf hX dX12_step_246 (C := RX12) (T := TX12) (N := 77) rfl guX12 (by decide) gw1661) nq_getf_le, List.forall_mem_cons.mpr ⟨np_s_iload_n hX dX12_step_249 rfl, List.forall_mem_cons.mpr ⟨np_S.mono (op := np_dup2) (np_s_dup2 hX dX12_step_250) nq_dup2_le, List.forall_mem_cons.mpr ⟨np_S.mono (op := np_ialdT .int) (np_s_iald hX dX12_step_251) nq_ialdT_le, List.forall_mem_cons.mpr ⟨np_s_iconst hX dX12_step_252 (by decide), List.forall_mem_cons.mpr ⟨np_s_iadd hX dX12_step_253, List.forall_mem_cons.mpr ⟨np_S.mono (op := np_iastT .int) (np_s_iast hX dX12_step_254) nq_iastT_le, List.forall_mem_cons.mpr ⟨np_s_goto hX dX12_step_255 (by decide), List.forall_mem_cons.mpr ⟨np_s_sipush hX dX12_step_258 (by decide), List.forall_mem_cons.mpr ⟨np_s_iload_n hX dX12_step_261 rfl, List.forall_mem_cons.mpr ⟨np_s_imul hX dX12_step_262, List.forall_mem_cons.mpr ⟨np_s_aload_n hX dX12_step_263 rfl, List.forall_mem_cons.mpr ⟨np_S.mono (op := np_getf 12 29) (np_s_getf hX dX12_step_264 (C := RX12) (T := TX12) (N := 77) rfl guX12 (by decide) gw1665) nq_getf_le, List.forall_mem_cons.mpr ⟨np_s_iload_n hX dX12_step_267 rfl, List.forall_mem_cons.mpr ⟨np_S.mono (op := np_ialdT .int) (np_s_iald hX dX12_step_268) nq_ialdT_le, List.forall_mem_cons.mpr ⟨np_s_iadd hX dX12_step_269, List.forall_mem_cons.mpr ⟨np_s_istore hX dX12_step_270 (by decide), List.forall_mem_cons.mpr ⟨np_s_aload_n hX dX12_step_272 rfl, List.forall_mem_cons.mpr ⟨np_S.mono (op := np_getf 12 30) (np_s_getf hX dX12_step_273 (C := RX12) (T := TX12) (N := 77) rfl guX12 (by decide) gw1666) nq_getf_le, List.forall_mem_cons.mpr ⟨np_s_iload hX dX12_step_276, List.forall_mem_cons.mpr ⟨np_s_iload hX dX12_step_278, List.forall_mem_cons.mpr ⟨np_S.mono (op := np_iastT .int) (np_s_iast hX dX12_step_280) nq_iastT_le, List.forall_mem_cons.mpr ⟨np_s_aload_n hX dX12_step_281 rfl, List.forall_mem_cons.mpr ⟨np_S.mono (op := np_getf 12 31) (np_s_getf hX dX12_step_282 (C := RX12) (T := TX12) (N := 77) rfl guX12 (by decide) gw1667) nq_getf_le, List.forall_mem_cons.mpr ⟨np_s_iload hX dX12_step_285, List.forall_mem_cons.mpr ⟨np_s_aload_n hX dX12_step_287 rfl, List.forall_mem_cons.mpr ⟨np_S.mono (op := np_getf 12 24) (np_s_getf hX dX12_step_288 (C := RX12) (T := TX12) (N := 77) rfl guX12 (by decide) gw1660) nq_getf_le, List.forall_mem_cons.mpr ⟨np_s_iload_n hX dX12_step_291 rfl, List.forall_mem_cons.mpr ⟨np_S.mono (op := np_ialdT .int) (np_s_iald hX dX12_step_292) nq_ialdT_le, List.forall_mem_cons.mpr ⟨np_S.mono (op := np_iastT .int) (np_s_iast hX dX12_step_293) nq_iastT_le, List.forall_mem_cons.mpr ⟨np_s_aload_n hX dX12_step_294 rfl, List.forall_mem_cons.mpr ⟨np_S.mono (op := np_getf 12 32) (np_s_getf hX dX12_step_295 (C := RX12) (T := TX12) (N := 77) rfl guX12 (by decide) gw1668) nq_getf_le, List.forall_mem_cons.mpr ⟨np_s_iload hX dX12_step_298, List.forall_mem_cons.mpr ⟨np_s_iload hX dX12_step_300, List.forall_mem_cons.mpr ⟨np_S.mono (op := np_iastT .int) (np_s_iast hX dX12_step_302) nq_iastT_le, List.forall_mem_cons.mpr ⟨np_s_aload_n hX dX12_step_303 rfl, List.forall_mem_cons.mpr ⟨np_S.mono (op := np_getf 12 29) (np_s_getf hX dX12_step_304 (C := RX12) (T := TX12) (N := 77) rfl guX12 (by decide) gw1665) nq_getf_le, List.forall_mem_cons.mpr ⟨np_s_iload_n hX dX12_step_307 rfl, List.forall_mem_cons.mpr ⟨np_S.mono (op := np_dup2) (np_s_dup2 hX dX12_step_308) nq_dup2_le, List.forall_mem_cons.mpr ⟨np_S.mono (op := np_ialdT .int) (np_s_iald hX dX12_step_309) nq_ialdT_le, List.forall_mem_cons.mpr ⟨np_s_iconst hX dX12_step_310 (by decide), List.forall_mem_cons.mpr ⟨np_s_iadd hX dX12_step_311, List.forall_mem_cons.mpr ⟨np_S.mono (op := np_iastT .int) (np_s_iast hX dX12_step_312) nq_iastT_le, List.forall_mem_cons.mpr ⟨np_s_aload_n hX dX12_step_313 rfl, List.forall_mem_cons.mpr ⟨np_S.mono (op := np_getf 12 24) (np_s_getf hX dX12_step_314 (C := RX12) (T := TX12) (N := 77) rfl guX12 (by decide) gw1660) nq_getf_le, List.forall_mem_cons.mpr ⟨np_s_iload_n hX dX12_step_317 rfl, List.forall_mem_cons.mpr ⟨np_s_iload hX dX12_step_318, List.forall_mem_cons.mpr ⟨np_S.mono (op := np_iastT .int) (np_s_iast hX dX12_step_320) nq_iastT_le, List.forall_mem_cons.mpr ⟨np_s_iload hX dX12_step_321, List.forall_mem_cons.mpr ⟨np_s_iconst hX dX12_step_323 (by decide), List.forall_mem_cons.mpr ⟨np_S.mono (op := np_icne 331) (np_s_icmp_ne hX dX12_step_324 (by decide)) nq_icne_le, List.forall_mem_cons.mpr ⟨np_s_iconst hX dX12_step_327 (by decide), List.forall_mem_cons.mpr ⟨np_s_goto hX dX12_step_328 (by decide), List.forall_mem_cons.mpr ⟨np_s_iconst hX dX12_step_331 (by decide), List.forall_mem_cons.mpr ⟨np_S.mono (op := np_ret X.2.2.1) (np_s_ret hX dX12_step_332) (nq_ret_le hR), fun _ h => nomatch h⟩⟩⟩⟩⟩⟩⟩⟩⟩⟩⟩⟩⟩⟩⟩⟩⟩⟩⟩⟩⟩⟩⟩⟩⟩⟩⟩⟩⟩⟩⟩⟩⟩⟩⟩⟩⟩⟩⟩⟩⟩⟩⟩⟩⟩⟩⟩⟩⟩⟩⟩⟩⟩⟩⟩⟩⟩⟩⟩⟩⟩⟩⟩⟩⟩⟩⟩⟩⟩⟩⟩⟩⟩⟩⟩⟩⟩⟩⟩⟩⟩⟩⟩⟩⟩⟩⟩⟩⟩⟩⟩⟩⟩⟩⟩⟩⟩⟩⟩⟩⟩⟩⟩⟩⟩⟩⟩⟩⟩⟩⟩⟩⟩⟩⟩⟩⟩⟩⟩⟩⟩⟩⟩⟩⟩⟩⟩⟩⟩⟩⟩⟩⟩⟩⟩⟩⟩⟩⟩⟩⟩⟩⟩⟩⟩⟩⟩⟩⟩⟩⟩⟩⟩⟩⟩⟩⟩⟩⟩⟩⟩⟩⟩⟩⟩⟩⟩⟩⟩⟩⟩⟩⟩⟩⟩⟩⟩⟩⟩⟩⟩⟩⟩⟩⟩
abbrev sp_X12_step : np_Sp := nq_in is_X12_step (some .int) 0 0 400
theorem C_X12_step : np_C yX12_step cX12_step 10 (some .int) 2 42 0 0 sp_X12_step := nq_inC 400 (by decide) (fun X Rt hX hmn hR => so_X12_step hX hR)
theorem dX12_progress_0 : decode cX12_progress 0 = .ok (.aload_n 0, 1) := by decide +kernel
theorem dX12_progress_1 : decode cX12_progress 1 = .ok (.iload_n 1, 1) := by decide +kernel
theorem dX12_progress_2 : decode cX12_progress 2 = .ok (.invokestatic 356, 3) := by decide +kernel
theorem dX12_progress_5 : decode cX12_progress 5 = .ok (.ifCond .eq 7, 3) := by decide +kernel
theorem dX12_progress_8 : decode cX12_progress 8 = .ok (.iconst 0, 1) := by decide +kernel
theorem dX12_progress_9 : decode cX12_progress 9 = .ok (.goto 4, 3) := by decide +kernel
theorem dX12_progress_12 : decode cX12_progress 12 = .ok (.iconst 1, 1) := by decide +kernel
theorem dX12_progress_13 : decode cX12_progress 13 = .ok (.invokevirtual 202, 3) := by decide +kernel
theorem dX12_progress_16 : decode cX12_progress 16 = .ok (.ifCond .ne 5, 3) := by decide +kernel
theorem dX12_progress_19 : decode cX12_progress 19 = .ok (.iconst 0, 1) := by decide +kernel
theorem dX12_progress_20 : decode cX12_progress 20 = .ok (.ireturn, 1) := by decide +kernel
theorem dX12_progress_21 : decode cX12_progress 21 = .ok (.aload_n 0, 1) := by decide +kernel
theorem dX12_progress_22 : decode cX12_progress 22 = .ok (.getfield 71, 3) := by decide +kernel
theorem dX12_progress_25 : decode cX12_progress 25 = .ok (.iload_n 1, 1) := by decide +kernel
theorem dX12_progress_26 : decode cX12_progress 26 = .ok (.iaload, 1) := by decide +kernel
theorem dX12_progress_27 : decode cX12_progress 27 = .ok (.iconst (-1), 1) := by decide +kernel
theorem dX12_progress_28 : decode cX12_progress 28 = .ok (.if_icmp .ne 7, 3) := by decide +kernel
theorem dX12_progress_31 : decode cX12_progress 31 = .ok (.iconst 0, 1) := by decide +kernel
theorem dX12_progress_32 : decode cX12_progress 32 = .ok (.goto 47, 3) := by decide +kernel
theorem dX12_progress_35 : decode cX12_progress 35 = .ok (.sipush 10000, 3) := by decide +kernel
theorem dX12_progress_38 : decode cX12_progress 38 = .ok (.aload_n 0, 1) := by decide +kernel
theorem dX12_progress_39 : decode cX12_progress 39 = .ok (.getfield 77, 3) := by decide +kernel
theorem dX12_progress_42 : decode cX12_progress 42 = .ok (.iload_n 1, 1) := by decide +kernel
theorem dX12_progress_43 : decode cX12_progress 43 = .ok (.iaload, 1) := by decide +kernel
theorem dX12_progress_44 : decode cX12_progress 44 = .ok (.imul, 1) := by decide +kernel
theorem dX12_progress_45 : decode cX12_progress 45 = .ok (.sipush 1000, 3) := by decide +kernel
theorem dX12_progress_48 : decode cX12_progress 48 = .ok (.aload_n 0, 1) := by decide +kernel
theorem dX12_progress_49 : decode cX12_progress 49 = .ok (.getfield 80, 3) := by decide +kernel
theorem dX12_progress_52 : decode cX12_progress 52 = .ok (.iload_n 1, 1) := by decide +kernel
theorem dX12_progress_53 : decode cX12_progress 53 = .ok (.iaload, 1) := by decide +kernel
theorem dX12_progress_54 : decode cX12_progress 54 = .ok (.bipush 9, 2) := by decide +kernel
theorem dX12_progress_56 : decode cX12_progress 56 = .ok (.if_icmp .ge 12, 3) := by decide +kernel
theorem dX12_progress_59 : decode cX12_progress 59 = .ok (.aload_n 0, 1) := by decide +kernel
theorem dX12_progress_60 : decode cX12_progress 60 = .ok (.getfield 80, 3) := by decide +kernel
theorem dX12_progress_63 : decode cX12_progress 63 = .ok (.iload_n 1, 1) := by decide +kernel
theorem dX12_progress_64 : decode cX12_progress 64 = .ok (.iaload, 1) := by decide +kernel
theorem dX12_progress_65 : decode cX12_progress 65 = .ok (.goto 5, 3) := by decide +kernel
theorem dX12_progress_68 : decode cX12_progress 68 = .ok (.bipush 9, 2) := by decide +kernel
theorem dX12_progress_70 : decode cX12_progress 70 = .ok (.imul, 1) := by decide +kernel
theorem dX12_progress_71 : decode cX12_progress 71 = .ok (.iadd, 1) := by decide +kernel
theorem dX12_progress_72 : decode cX12_progress 72 = .ok (.aload_n 0, 1) := by decide +kernel
theorem dX12_progress_73 : decode cX12_progress 73 = .ok (.getfield 74, 3) := by decide +kernel
theorem dX12_progress_76 : decode cX12_progress 76 = .ok (.iload_n 1, 1) := by decide +kernel
theorem dX12_progress_77 : decode cX12_progress 77 = .ok (.iaload, 1) := by decide +kernel
theorem dX12_progress_78 : decode cX12_progress 78 = .ok (.iadd, 1) := by decide +kernel
theorem dX12_progress_79 : decode cX12_progress 79 = .ok (.ireturn, 1) := by decide +kernel
def is_X12_progress (Rt : np_Rt) : List (Nat × np_Op) := [(0, np_ald 1 0), (1, np_ild 1 1), (2, nq_call 1 sp_X12_isFile 1 0 0 0 0), (5, nq_if (fun x => x = 0) 12), (8, np_push 1 (.int 0)), (9, np_goto 13), (12, np_push 1 (.int 1)), (13, nq_callV 12 2 sp_X12_can 2 0 0 0 0), (16, nq_ifne 21), (19, np_push 1 (.int 0)), (20, np_ret Rt), (21, np_ald 1 0), (22, nq_getf 12 23), (25, np_ild 1 1), (26, nq_ialdT .int), (27, np_push 1 (.int (-1))), (28, nq_icne 35), (31, np_push 1 (.int 0)), (32, np_goto 79), (35, np_push 3 (.int 10000)), (38, np_ald 1 0), (39, nq_getf 12 25), (42, np_ild 1 1), (43, nq_ialdT .int), (44, np_ib (fun x y => x * y)), (45, np_push 3 (.int 1000)), (48, np_ald 1 0), (49, nq_getf 12 26), (52, np_ild 1 1), (53, nq_ialdT .int), (54, np_push 2 (.int 9)), (56, nq_ic (fun x y => y ≤ x) 68), (59, np_ald 1 0), (60, nq_getf 12 26), (63, np_ild 1 1), (64, nq_ialdT .int), (65, np_goto 70), (68, np_push 2 (.int 9)), (70, np_ib (fun x y => x * y)), (71, np_ib (fun x y => x + y)), (72, np_ald 1 0), (73, nq_getf 12 24), (76, np_ild 1 1), (77, nq_ialdT .int), (78, np_ib (fun x y => x + y)), (79, np_ret Rt)]
set_option maxRecDepth 20000 in
theorem so_X12_progress {X : np_Ctx} {Rt : np_Rt} (hX : np_ok RX12 cX12_progress 2 2 42 0 0 .ireturn X) (hR : ∀ st w ce sl, Rt st w ce sl → X.2.2.1 st w ce sl) : ∀ q ∈ is_X12_progress Rt, np_S X q.1 q.2 :=
  List.forall_mem_cons.mpr ⟨np_s_aload_n hX dX12_progress_0 rfl, List.forall_mem_cons.mpr ⟨np_s_iload_n hX dX12_progress_1 rfl, List.forall_mem_cons.mpr ⟨np_S.mono (op := np_call 1 sp_X12_isFile 1 0 0 0 0) (np_s_callS hX C_X12_isFile dX12_progress_2 gw2062 gw142 gw2060 gw2061 ⟨by decide, by decide, by decide⟩ (by decide) (by decide)) nq_call_le, List.forall_mem_cons.mpr ⟨np_S.mono (op := np_if (fun x => x = 0) 12) (np_s_if_eq hX dX12_progress_5 (by decide)) nq_if_le, List.forall_mem_cons.mpr ⟨np_s_iconst hX dX12_progress_8 (by decide), List.forall_mem_cons.mpr ⟨np_s_goto hX dX12_progress_9 (by decide), List.forall_mem_cons.mpr ⟨np_s_iconst hX dX12_progress_12 (by decide), List.forall_mem_cons.mpr ⟨np_S.mono (op := np_callV 12 2 sp_X12_can 2 0 0 0 0) (np_s_callV hX C_X12_can dX12_progress_13 (q := (RX12, TX12, 77)) rfl rfl gw1890 gw142 gw1887 gw1889 gw63 ⟨by decide, by decide, by decide⟩ (by decide) (by decide)) nq_callV_le, List.forall_mem_cons.mpr ⟨np_S.mono (op := np_ifne 21) (np_s_if_ne hX dX12_progress_16 (by decide)) nq_ifne_le, List.forall_mem_cons.mpr ⟨np_s_iconst hX dX12_progress_19 (by decide), List.forall_mem_cons.mpr ⟨np_S.mono (op := np_ret X.2.2.1) (np_s_ret hX dX12_progress_20) (nq_ret_le hR), List.forall_mem_cons.mpr ⟨np_s_aload_n hX dX12_progress_21 rfl, List.forall_mem_cons.mpr ⟨np_S.mono (op := np_getf 12 23) (np_s_getf hX dX12_progress_22 (C := RX12) (T := TX12) (N := 77) rfl guX12 (by decide) gw1659) nq_getf_le, List.forall_mem_cons.mpr ⟨np_s_iload_n hX dX12_progress_25 rfl, List.forall_mem_cons.mpr ⟨np_S.mono (op := np_ialdT .int) (np_s_iald hX dX12_progress_26) nq_ialdT_le, List.forall_mem_cons.mpr ⟨np_s_iconst hX dX12_progress_27 (by decide), List.forall_mem_cons.mpr ⟨np_S.mono (op := np_icne 35) (np_s_icmp_ne hX dX12_progress_28 (by decide)) nq_icne_le, List.forall_mem_cons.mpr ⟨np_s_iconst hX dX12_progress_31 (by decide), List.forall_mem_cons.mpr ⟨np_s_goto hX dX12_progress_32 (by decide), List.forall_mem_cons.mpr ⟨np_s_sipush hX dX12_progress_35 (by decide), List.forall_mem_cons.mpr ⟨np_s_aload_n hX dX12_progress_38 rfl, List.forall_mem_cons.mpr ⟨np_S.mono (op := np_getf 12 25) (np_s_getf hX dX12_progress_39 (C := RX12) (T := TX12) (N := 77) rfl guX12 (by decide) gw1661) nq_getf_le, List.forall_mem_cons.mpr ⟨np_s_iload_n hX dX12_progress_42 rfl, List.forall_mem_cons.mpr ⟨np_S.mono (op := np_ialdT .int) (np_s_iald hX dX12_progress_43) nq_ialdT_le, List.forall_mem_cons.mpr ⟨np_s_imul hX dX12_progress_44, List.forall_mem_cons.mpr ⟨np_s_sipush hX dX12_progress_45 (by decide), List.forall_mem_cons.mpr ⟨np_s_aload_n hX dX12_progress_48 rfl, List.forall_mem_cons.mpr ⟨np_S.mono (op := np_getf 12 26) (np_s_getf hX dX12_progress_49 (C := RX12) (T := TX12) (N := 77) rfl guX12 (by decide) gw1662) nq_getf_le, List.forall_mem_cons.mpr ⟨np_s_iload_n hX dX12_progress_52 rfl, List.forall_mem_cons.mpr ⟨np_S.mono (op := np_ialdT .int) (np_s_iald hX dX12_progress_53) nq_ialdT_le, List.forall_mem_cons.mpr ⟨np_s_bipush hX dX12_progress_54 (by decide), List.forall_mem_cons.mpr ⟨np_S.mono (op := np_ic (fun x y => y ≤ x) 68) (np_s_icmp_ge hX dX12_progress_56 (by decide)) nq_ic_le, List.forall_mem_cons.mpr ⟨np_s_aload_n hX dX12_progress_59 rfl, List.forall_mem_cons.mpr ⟨np_S.mono (op := np_getf 12 26) (np_s_getf hX dX12_progress_60 (C := RX12) (T := TX12) (N := 77) rfl guX12 (by decide) gw1662) nq_getf_le, List.forall_mem_cons.mpr ⟨np_s_iload_n hX dX12_progress_63 rfl, List.forall_mem_cons.mpr ⟨np_S.mono (op := np_ialdT .int) (np_s_iald hX dX12_progress_64) nq_ialdT_le, List.forall_mem_cons.mpr ⟨np_s_goto hX dX12_progress_65 (by decide), List.forall_mem_cons.mpr ⟨np_s_bipush hX dX12_progress_68 (by decide), List.forall_mem_cons.mpr ⟨np_s_imul hX dX12_progress_70, List.forall_mem_cons.mpr ⟨np_s_iadd hX dX12_progress_71, List.forall_mem_cons.mpr ⟨np_s_aload_n hX dX12_progress_72 rfl, List.forall_mem_cons.mpr ⟨np_S.mono (op := np_getf 12 24) (np_s_getf hX dX12_progress_73 (C := RX12) (T := TX12) (N := 77) rfl guX12 (by decide) gw1660) nq_getf_le, List.forall_mem_cons.mpr ⟨np_s_iload_n hX dX12_progress_76 rfl, List.forall_mem_cons.mpr ⟨np_S.mono (op := np_ialdT .int) (np_s_iald hX dX12_progress_77) nq_ialdT_le, List.forall_mem_cons.mpr ⟨np_s_iadd hX dX12_progress_78, List.forall_mem_cons.mpr ⟨np_S.mono (op := np_ret X.2.2.1) (np_s_ret hX dX12_progress_79) (nq_ret_le hR), fun _ h => nomatch h⟩⟩⟩⟩⟩⟩⟩⟩⟩⟩⟩⟩⟩⟩⟩⟩⟩⟩⟩⟩⟩⟩⟩⟩⟩⟩⟩⟩⟩⟩⟩⟩⟩⟩⟩⟩⟩⟩⟩⟩⟩⟩⟩⟩⟩⟩
abbrev sp_X12_progress : np_Sp := nq_in is_X12_progress (some .int) 0 0 400
theorem C_X12_progress : np_C yX12_progress cX12_progress 2 (some .int) 2 42 0 0 sp_X12_progress := nq_inC 400 (by decide) (fun X Rt hX hmn hR => so_X12_progress hX hR)
theorem dX12_skipped_0 : decode cX12_skipped 0 = .ok (.iload_n 1, 1) := by decide +kernel
theorem dX12_skipped_1 : decode cX12_skipped 1 = .ok (.invokestatic 356, 3) := by decide +kernel
theorem dX12_skipped_4 : decode cX12_skipped 4 = .ok (.ifCond .eq 23, 3) := by decide +kernel
theorem dX12_skipped_7 : decode cX12_skipped 7 = .ok (.iload_n 2, 1) := by decide +kernel
theorem dX12_skipped_8 : decode cX12_skipped 8 = .ok (.iconst 0, 1) := by decide +kernel
theorem dX12_skipped_9 : decode cX12_skipped 9 = .ok (.aload_n 0, 1) := by decide +kernel
theorem dX12_skipped_10 : decode cX12_skipped 10 = .ok (.getfield 89, 3) := by decide +kernel
theorem dX12_skipped_13 : decode cX12_skipped 13 = .ok (.iload_n 1, 1) := by decide +kernel
theorem dX12_skipped_14 : decode cX12_skipped 14 = .ok (.iaload, 1) := by decide +kernel
theorem dX12_skipped_15 : decode cX12_skipped 15 = .ok (.iconst 1, 1) := by decide +kernel
theorem dX12_skipped_16 : decode cX12_skipped 16 = .ok (.isub, 1) := by decide +kernel
theorem dX12_skipped_17 : decode cX12_skipped 17 = .ok (.invokestatic 184, 3) := by decide +kernel
theorem dX12_skipped_20 : decode cX12_skipped 20 = .ok (.ifCond .eq 7, 3) := by decide +kernel
theorem dX12_skipped_23 : decode cX12_skipped 23 = .ok (.iconst 1, 1) := by decide +kernel
theorem dX12_skipped_24 : decode cX12_skipped 24 = .ok (.goto 4, 3) := by decide +kernel
theorem dX12_skipped_27 : decode cX12_skipped 27 = .ok (.iconst 0, 1) := by decide +kernel
theorem dX12_skipped_28 : decode cX12_skipped 28 = .ok (.istore_n 3, 1) := by decide +kernel
theorem dX12_skipped_29 : decode cX12_skipped 29 = .ok (.iload_n 3, 1) := by decide +kernel
theorem dX12_skipped_30 : decode cX12_skipped 30 = .ok (.ifCond .eq 13, 3) := by decide +kernel
theorem dX12_skipped_33 : decode cX12_skipped 33 = .ok (.sipush 301, 3) := by decide +kernel
theorem dX12_skipped_36 : decode cX12_skipped 36 = .ok (.iload_n 1, 1) := by decide +kernel
theorem dX12_skipped_37 : decode cX12_skipped 37 = .ok (.imul, 1) := by decide +kernel
theorem dX12_skipped_38 : decode cX12_skipped 38 = .ok (.iload_n 2, 1) := by decide +kernel
theorem dX12_skipped_39 : decode cX12_skipped 39 = .ok (.iadd, 1) := by decide +kernel
theorem dX12_skipped_40 : decode cX12_skipped 40 = .ok (.goto 4, 3) := by decide +kernel
theorem dX12_skipped_43 : decode cX12_skipped 43 = .ok (.iconst 0, 1) := by decide +kernel
theorem dX12_skipped_44 : decode cX12_skipped 44 = .ok (.istore 4, 2) := by decide +kernel
theorem dX12_skipped_46 : decode cX12_skipped 46 = .ok (.aload_n 0, 1) := by decide +kernel
theorem dX12_skipped_47 : decode cX12_skipped 47 = .ok (.iload_n 3, 1) := by decide +kernel
theorem dX12_skipped_48 : decode cX12_skipped 48 = .ok (.ifCond .eq 7, 3) := by decide +kernel
theorem dX12_skipped_51 : decode cX12_skipped 51 = .ok (.iconst 0, 1) := by decide +kernel
theorem dX12_skipped_52 : decode cX12_skipped 52 = .ok (.goto 4, 3) := by decide +kernel
theorem dX12_skipped_55 : decode cX12_skipped 55 = .ok (.iconst 1, 1) := by decide +kernel
theorem dX12_skipped_56 : decode cX12_skipped 56 = .ok (.invokevirtual 202, 3) := by decide +kernel
theorem dX12_skipped_59 : decode cX12_skipped 59 = .ok (.ifCond .eq 37, 3) := by decide +kernel
theorem dX12_skipped_62 : decode cX12_skipped 62 = .ok (.ldc_w 346, 3) := by decide +kernel
theorem dX12_skipped_65 : decode cX12_skipped 65 = .ok (.aload_n 0, 1) := by decide +kernel
theorem dX12_skipped_66 : decode cX12_skipped 66 = .ok (.getfield 92, 3) := by decide +kernel
theorem dX12_skipped_69 : decode cX12_skipped 69 = .ok (.iload 4, 2) := by decide +kernel
theorem dX12_skipped_71 : decode cX12_skipped 71 = .ok (.iaload, 1) := by decide +kernel
theorem dX12_skipped_72 : decode cX12_skipped 72 = .ok (.imul, 1) := by decide +kernel
theorem dX12_skipped_73 : decode cX12_skipped 73 = .ok (.sipush 1000, 3) := by decide +kernel
theorem dX12_skipped_76 : decode cX12_skipped 76 = .ok (.aload_n 0, 1) := by decide +kernel
theorem dX12_skipped_77 : decode cX12_skipped 77 = .ok (.getfield 95, 3) := by decide +kernel
theorem dX12_skipped_80 : decode cX12_skipped 80 = .ok (.iload 4, 2) := by decide +kernel
theorem dX12_skipped_82 : decode cX12_skipped 82 = .ok (.iaload, 1) := by decide +kernel
theorem dX12_skipped_83 : decode cX12_skipped 83 = .ok (.imul, 1) := by decide +kernel
theorem dX12_skipped_84 : decode cX12_skipped 84 = .ok (.iadd, 1) := by decide +kernel
theorem dX12_skipped_85 : decode cX12_skipped 85 = .ok (.aload_n 0, 1) := by decide +kernel
theorem dX12_skipped_86 : decode cX12_skipped 86 = .ok (.getfield 98, 3) := by decide +kernel
theorem dX12_skipped_89 : decode cX12_skipped 89 = .ok (.iload 4, 2) := by decide +kernel
theorem dX12_skipped_91 : decode cX12_skipped 91 = .ok (.iaload, 1) := by decide +kernel
theorem dX12_skipped_92 : decode cX12_skipped 92 = .ok (.iadd, 1) := by decide +kernel
theorem dX12_skipped_93 : decode cX12_skipped 93 = .ok (.goto 4, 3) := by decide +kernel
theorem dX12_skipped_96 : decode cX12_skipped 96 = .ok (.iconst 0, 1) := by decide +kernel
theorem dX12_skipped_97 : decode cX12_skipped 97 = .ok (.ireturn, 1) := by decide +kernel
def is_X12_skipped (Rt : np_Rt) : List (Nat × np_Op) := [(0, np_ild 1 1), (1, nq_call 1 sp_X12_isFile 1 0 0 0 0), (4, nq_if (fun x => x = 0) 27), (7, np_ild 1 2), (8, np_push 1 (.int 0)), (9, np_ald 1 0), (10, nq_getf 12 29), (13, np_ild 1 1), (14, nq_ialdT .int), (15, np_push 1 (.int 1)), (16, np_ib (fun x y => x - y)), (17, nq_call 3 sp_X12_isIn 3 0 0 0 0), (20, nq_if (fun x => x = 0) 27), (23, np_push 1 (.int 1)), (24, np_goto 28), (27, np_push 1 (.int 0)), (28, np_ist 1 3), (29, np_ild 1 3), (30, nq_if (fun x => x = 0) 43), (33, np_push 3 (.int 301)), (36, np_ild 1 1), (37, np_ib (fun x y => x * y)), (38, np_ild 1 2), (39, np_ib (fun x y => x + y)), (40, np_goto 44), (43, np_push 1 (.int 0)), (44, np_ist 2 4), (46, np_ald 1 0), (47, np_ild 1 3), (48, nq_if (fun x => x = 0) 55), (51, np_push 1 (.int 0)), (52, np_goto 56), (55, np_push 1 (.int 1)), (56, nq_callV 12 2 sp_X12_can 2 0 0 0 0), (59, nq_if (fun x => x = 0) 96), (62, np_push 3 (.int 1000000)), (65, np_ald 1 0), (66, nq_getf 12 30), (69, np_ild 2 4), (71, nq_ialdT .int), (72, np_ib (fun x y => x * y)), (73, np_push 3 (.int 1000)), (76, np_ald 1 0), (77, nq_getf 12 31), (80, np_ild 2 4), (82, nq_ialdT .int), (83, np_ib (fun x y => x * y)), (84, np_ib (fun x y => x + y)), (85, np_ald 1 0), (86, nq_getf 12 32), (89, np_ild 2 4), (91, nq_ialdT .int), (92, np_ib (fun x y => x + y)), (93, np_goto 97), (96, np_push 1 (.int 0)), (97, np_ret Rt)]
set_option maxRecDepth 20000 in
theorem so_X12_skipped {X : np_Ctx} {Rt : np_Rt} (hX : np_ok RX12 cX12_skipped 5 2 42 0 0 .ireturn X) (hR : ∀ st w ce sl, Rt st w ce sl → X.2.2.1 st w ce sl) : ∀ q ∈ is_X12_skipped Rt, np_S X q.1 q.2 :=
  List.forall_mem_cons.mpr ⟨np_s_iload_n hX dX12_skipped_0 rfl, List.forall_mem_cons.mpr ⟨np_S.mono (op := np_call 1 sp_X12_isFile 1 0 0 0 0) (np_s_callS hX C_X12_isFile dX12_skipped_1 gw2062 gw142 gw2060 gw2061 ⟨by decide, by decide, by decide⟩ (by decide) (by decide)) nq_call_le, List.forall_mem_cons.mpr ⟨np_S.mono (op := np_if (fun x => x = 0) 27) (np_s_if_eq hX dX12_skipped_4 (by decide)) nq_if_le, List.forall_mem_cons.mpr ⟨np_s_iload_n hX dX12_skipped_7 rfl, List.forall_mem_cons.mpr ⟨np_s_iconst hX dX12_skipped_8 (by decide), List.forall_mem_cons.mpr ⟨np_s_aload_n hX dX12_skipped_9 rfl, List.forall_mem_cons.mpr ⟨np_S.mono (op := np_getf 12 29) (np_s_getf hX dX12_skipped_10 (C := RX12) (T := TX12) (N := 77) rfl guX12 (by decide) gw1665) nq_getf_le, List.forall_mem_cons.mpr ⟨np_s_iload_n hX dX12_skipped_13 rfl, List.forall_mem_cons.mpr ⟨np_S.mono (op := np_ialdT .int) (np_s_iald hX dX12_skipped_14) nq_ialdT_le, List.forall_mem_cons.mpr ⟨np_s_iconst hX dX12_skipped_15 (by decide), List.forall_mem_cons.mpr ⟨np_s_isub hX dX12_skipped_16, List.forall_mem_cons.mpr ⟨np_S.mono (op := np_call 3 sp_X12_isIn 3 0 0 0 0) (np_s_callS hX C_X12_isIn dX12_skipped_17 gw1880 gw142 gw1878 gw1879 ⟨by decide, by decide, by decide⟩ (by decide) (by decide)) nq_call_le, List.forall_mem_cons.mpr ⟨np_S.mono (op := np_if (fun x => x = 0) 27) (np_s_if_eq hX dX12_skipped_20 (by decide)) nq_if_le, List.forall_mem_cons.mpr ⟨np_s_iconst hX dX12_skipped_23 (by decide), List.forall_mem_cons.mpr ⟨np_s_goto hX dX12_skipped_24 (by decide), List.forall_mem_cons.mpr ⟨np_s_iconst hX dX12_skipped_27 (by decide), List.forall_mem_cons.mpr ⟨np_s_istore_n hX dX12_skipped_28 rfl (by decide), List.forall_mem_cons.mpr ⟨np_s_iload_n hX dX12_skipped_29 rfl, List.forall_mem_cons.mpr ⟨np_S.mono (op := np_if (fun x => x = 0) 43) (np_s_if_eq hX dX12_skipped_30 (by decide)) nq_if_le, List.forall_mem_cons.mpr ⟨np_s_sipush hX dX12_skipped_33 (by decide), List.forall_mem_cons.mpr ⟨np_s_iload_n hX dX12_skipped_36 rfl, List.forall_mem_cons.mpr ⟨np_s_imul hX dX12_skipped_37, List.forall_mem_cons.mpr ⟨np_s_iload_n hX dX12_skipped_38 rfl, List.forall_mem_cons.mpr ⟨np_s_iadd hX dX12_skipped_39, List.forall_mem_cons.mpr ⟨np_s_goto hX dX12_skipped_40 (by decide), List.forall_mem_cons.mpr ⟨np_s_iconst hX dX12_skipped_43 (by decide), List.forall_mem_cons.mpr ⟨np_s_istore hX dX12_skipped_44 (by decide), List.forall_mem_cons.mpr ⟨np_s_aload_n hX dX12_skipped_46 rfl, List.forall_mem_cons.mpr ⟨np_s_iload_n hX dX12_skipped_47 rfl, List.forall_mem_cons.mpr ⟨np_S.mono (op := np_if (fun x => x = 0) 55) (np_s_if_eq hX dX12_skipped_48 (by decide)) nq_if_le, List.forall_mem_cons.mpr ⟨np_s_iconst hX dX12_skipped_51 (by decide), List.forall_mem_cons.mpr ⟨np_s_goto hX dX12_skipped_52 (by decide), List.forall_mem_cons.mpr ⟨np_s_iconst hX dX12_skipped_55 (by decide), List.forall_mem_cons.mpr ⟨np_S.mono (op := np_callV 12 2 sp_X12_can 2 0 0 0 0) (np_s_callV hX C_X12_can dX12_skipped_56 (q := (RX12, TX12, 77)) rfl rfl gw1890 gw142 gw1887 gw1889 gw63 ⟨by decide, by decide, by decide⟩ (by decide) (by decide)) nq_callV_le, List.forall_mem_cons.mpr ⟨np_S.mono (op := np_if (fun x => x = 0) 96) (np_s_if_eq hX dX12_skipped_59 (by decide)) nq_if_le, List.forall_mem_cons.mpr ⟨np_s_ldcw hX dX12_skipped_62 gw1965, List.forall_mem_cons.mpr ⟨np_s_aload_n hX dX12_skipped_65 rfl, List.forall_mem_cons.mpr ⟨np_S.mono (op := np_getf 12 30) (np_s_getf hX dX12_skipped_66 (C := RX12) (T := TX12) (N := 77) rfl guX12 (by decide) gw1666) nq_getf_le, List.forall_mem_cons.mpr ⟨np_s_iload hX dX12_skipped_69, List.forall_mem_cons.mpr ⟨np_S.mono (op := np_ialdT .int) (np_s_iald hX dX12_skipped_71) nq_ialdT_le, List.forall_mem_cons.mpr ⟨np_s_imul hX dX12_skipped_72, List.forall_mem_cons.mpr ⟨np_s_sipush hX dX12_skipped_73 (by decide), List.forall_mem_cons.mpr ⟨np_s_aload_n hX dX12_skipped_76 rfl, List.forall_mem_cons.mpr ⟨np_S.mono (op := np_getf 12 31) (np_s_getf hX dX12_skipped_77 (C := RX12) (T := TX12) (N := 77) rfl guX12 (by decide) gw1667) nq_getf_le, List.forall_mem_cons.mpr ⟨np_s_iload hX dX12_skipped_80, List.forall_mem_cons.mpr ⟨np_S.mono (op := np_ialdT .int) (np_s_iald hX dX12_skipped_82) nq_ialdT_le, List.forall_mem_cons.mpr ⟨np_s_imul hX dX12_skipped_83, List.forall_mem_cons.mpr ⟨np_s_iadd hX dX12_skipped_84, List.forall_mem_cons.mpr ⟨np_s_aload_n hX dX12_skipped_85 rfl, List.forall_mem_cons.mpr ⟨np_S.mono (op := np_getf 12 32) (np_s_getf hX dX12_skipped_86 (C := RX12) (T := TX12) (N := 77) rfl guX12 (by decide) gw1668) nq_getf_le, List.forall_mem_cons.mpr ⟨np_s_iload hX dX12_skipped_89, List.forall_mem_cons.mpr ⟨np_S.mono (op := np_ialdT .int) (np_s_iald hX dX12_skipped_91) nq_ialdT_le, List.forall_mem_cons.mpr ⟨np_s_iadd hX dX12_skipped_92, List.forall_mem_cons.mpr ⟨np_s_goto hX dX12_skipped_93 (by decide), List.forall_mem_cons.mpr ⟨np_s_iconst hX dX12_skipped_96 (by decide), List.forall_mem_cons.mpr ⟨np_S.mono (op := np_ret X.2.2.1) (np_s_ret hX dX12_skipped_97) (nq_ret_le hR), fun _ h => nomatch h⟩⟩⟩⟩⟩⟩⟩⟩⟩⟩⟩⟩⟩⟩⟩⟩⟩⟩⟩⟩⟩⟩⟩⟩⟩⟩⟩⟩⟩⟩⟩⟩⟩⟩⟩⟩⟩⟩⟩⟩⟩⟩⟩⟩⟩⟩⟩⟩⟩⟩⟩⟩⟩⟩⟩⟩
abbrev sp_X12_skipped : np_Sp := nq_in is_X12_skipped (some .int) 0 0 400
theorem C_X12_skipped : np_C yX12_skipped cX12_skipped 5 (some .int) 2 42 0 0 sp_X12_skipped := nq_inC 400 (by decide) (fun X Rt hX hmn hR => so_X12_skipped hX hR)
theorem dX12_cell_0 : decode cX12_cell 0 = .ok (.iload_n 1, 1) := by decide +kernel
theorem dX12_cell_1 : decode cX12_cell 1 = .ok (.invokestatic 356, 3) := by decide +kernel
theorem dX12_cell_4 : decode cX12_cell 4 = .ok (.ifCond .eq 25, 3) := by decide +kernel
theorem dX12_cell_7 : decode cX12_cell 7 = .ok (.aload_n 0, 1) := by decide +kernel
theorem dX12_cell_8 : decode cX12_cell 8 = .ok (.iload_n 1, 1) := by decide +kernel
theorem dX12_cell_9 : decode cX12_cell 9 = .ok (.iload_n 2, 1) := by decide +kernel
theorem dX12_cell_10 : decode cX12_cell 10 = .ok (.invokevirtual 440, 3) := by decide +kernel
theorem dX12_cell_13 : decode cX12_cell 13 = .ok (.ifCond .eq 16, 3) := by decide +kernel
theorem dX12_cell_16 : decode cX12_cell 16 = .ok (.iload_n 3, 1) := by decide +kernel
theorem dX12_cell_17 : decode cX12_cell 17 = .ok (.iload 4, 2) := by decide +kernel
theorem dX12_cell_19 : decode cX12_cell 19 = .ok (.invokestatic 239, 3) := by decide +kernel
theorem dX12_cell_22 : decode cX12_cell 22 = .ok (.ifCond .eq 7, 3) := by decide +kernel
theorem dX12_cell_25 : decode cX12_cell 25 = .ok (.iconst 1, 1) := by decide +kernel
theorem dX12_cell_26 : decode cX12_cell 26 = .ok (.goto 4, 3) := by decide +kernel
theorem dX12_cell_29 : decode cX12_cell 29 = .ok (.iconst 0, 1) := by decide +kernel
theorem dX12_cell_30 : decode cX12_cell 30 = .ok (.istore 5, 2) := by decide +kernel
theorem dX12_cell_32 : decode cX12_cell 32 = .ok (.aload_n 0, 1) := by decide +kernel
theorem dX12_cell_33 : decode cX12_cell 33 = .ok (.iload 5, 2) := by decide +kernel
theorem dX12_cell_35 : decode cX12_cell 35 = .ok (.ifCond .eq 7, 3) := by decide +kernel
theorem dX12_cell_38 : decode cX12_cell 38 = .ok (.iconst 0, 1) := by decide +kernel
theorem dX12_cell_39 : decode cX12_cell 39 = .ok (.goto 4, 3) := by decide +kernel
theorem dX12_cell_42 : decode cX12_cell 42 = .ok (.iconst 1, 1) := by decide +kernel
theorem dX12_cell_43 : decode cX12_cell 43 = .ok (.invokevirtual 202, 3) := by decide +kernel
theorem dX12_cell_46 : decode cX12_cell 46 = .ok (.ifCond .eq 15, 3) := by decide +kernel
theorem dX12_cell_49 : decode cX12_cell 49 = .ok (.aload_n 0, 1) := by decide +kernel
theorem dX12_cell_50 : decode cX12_cell 50 = .ok (.iload_n 1, 1) := by decide +kernel
theorem dX12_cell_51 : decode cX12_cell 51 = .ok (.iload_n 2, 1) := by decide +kernel
theorem dX12_cell_52 : decode cX12_cell 52 = .ok (.iload_n 3, 1) := by decide +kernel
theorem dX12_cell_53 : decode cX12_cell 53 = .ok (.iload 4, 2) := by decide +kernel
theorem dX12_cell_55 : decode cX12_cell 55 = .ok (.invokevirtual 443, 3) := by decide +kernel
theorem dX12_cell_58 : decode cX12_cell 58 = .ok (.goto 4, 3) := by decide +kernel
theorem dX12_cell_61 : decode cX12_cell 61 = .ok (.iconst 0, 1) := by decide +kernel
theorem dX12_cell_62 : decode cX12_cell 62 = .ok (.ireturn, 1) := by decide +kernel
def is_X12_cell (Rt : np_Rt) : List (Nat × np_Op) := [(0, np_ild 1 1), (1, nq_call 1 sp_X12_isFile 1 0 0 0 0), (4, nq_if (fun x => x = 0) 29), (7, np_ald 1 0), (8, np_ild 1 1), (9, np_ild 1 2), (10, nq_callV 12 3 sp_X12_isRow 3 0 0 0 0), (13, nq_if (fun x => x = 0) 29), (16, np_ild 1 3), (17, np_ild 2 4), (19, nq_call 2 sp_X12_isValue 2 0 0 0 0), (22, nq_if (fun x => x = 0) 29), (25, np_push 1 (.int 1)), (26, np_goto 30), (29, np_push 1 (.int 0)), (30, np_ist 2 5), (32, np_ald 1 0), (33, np_ild 2 5), (35, nq_if (fun x => x = 0) 42), (38, np_push 1 (.int 0)), (39, np_goto 43), (42, np_push 1 (.int 1)), (43, nq_callV 12 2 sp_X12_can 2 0 0 0 0), (46, nq_if (fun x => x = 0) 61), (49, np_ald 1 0), (50, np_ild 1 1), (51, np_ild 1 2), (52, np_ild 1 3), (53, np_ild 2 4), (58, np_goto 62), (61, np_push 1 (.int 0)), (62, np_ret Rt)]
set_option maxRecDepth 20000 in
theorem so_X12_cell {X : np_Ctx} {Rt : np_Rt} (hX : np_ok RX12 cX12_cell 6 3 63 0 0 .ireturn X) (hR : ∀ st w ce sl, Rt st w ce sl → X.2.2.1 st w ce sl) : ∀ q ∈ is_X12_cell Rt, np_S X q.1 q.2 :=
  List.forall_mem_cons.mpr ⟨np_s_iload_n hX dX12_cell_0 rfl, List.forall_mem_cons.mpr ⟨np_S.mono (op := np_call 1 sp_X12_isFile 1 0 0 0 0) (np_s_callS hX C_X12_isFile dX12_cell_1 gw2062 gw142 gw2060 gw2061 ⟨by decide, by decide, by decide⟩ (by decide) (by decide)) nq_call_le, List.forall_mem_cons.mpr ⟨np_S.mono (op := np_if (fun x => x = 0) 29) (np_s_if_eq hX dX12_cell_4 (by decide)) nq_if_le, List.forall_mem_cons.mpr ⟨np_s_aload_n hX dX12_cell_7 rfl, List.forall_mem_cons.mpr ⟨np_s_iload_n hX dX12_cell_8 rfl, List.forall_mem_cons.mpr ⟨np_s_iload_n hX dX12_cell_9 rfl, List.forall_mem_cons.mpr ⟨np_S.mono (op := np_callV 12 3 sp_X12_isRow 3 0 0 0 0) (np_s_callV hX C_X12_isRow dX12_cell_10 (q := (RX12, TX12, 77)) rfl rfl gw2193 gw142 gw2190 gw2192 gw110 ⟨by decide, by decide, by decide⟩ (by decide) (by decide)) nq_callV_le, List.forall_mem_cons.mpr ⟨np_S.mono (op := np_if (fun x => x = 0) 29) (np_s_if_eq hX dX12_cell_13 (by decide)) nq_if_le, List.forall_mem_cons.mpr ⟨np_s_iload_n hX dX12_cell_16 rfl, List.forall_mem_cons.mpr ⟨np_s_iload hX dX12_cell_17, List.forall_mem_cons.mpr ⟨np_S.mono (op := np_call 2 sp_X12_isValue 2 0 0 0 0) (np_s_callS hX C_X12_isValue dX12_cell_19 gw1936 gw142 gw1934 gw1935 ⟨by decide, by decide, by decide⟩ (by decide) (by decide)) nq_call_le, List.forall_mem_cons.mpr ⟨np_S.mono (op := np_if (fun x => x = 0) 29) (np_s_if_eq hX dX12_cell_22 (by decide)) nq_if_le, List.forall_mem_cons.mpr ⟨np_s_iconst hX dX12_cell_25 (by decide), List.forall_mem_cons.mpr ⟨np_s_goto hX dX12_cell_26 (by decide), List.forall_mem_cons.mpr ⟨np_s_iconst hX dX12_cell_29 (by decide), List.forall_mem_cons.mpr ⟨np_s_istore hX dX12_cell_30 (by decide), List.forall_mem_cons.mpr ⟨np_s_aload_n hX dX12_cell_32 rfl, List.forall_mem_cons.mpr ⟨np_s_iload hX dX12_cell_33, List.forall_mem_cons.mpr ⟨np_S.mono (op := np_if (fun x => x = 0) 42) (np_s_if_eq hX dX12_cell_35 (by decide)) nq_if_le, List.forall_mem_cons.mpr ⟨np_s_iconst hX dX12_cell_38 (by decide), List.forall_mem_cons.mpr ⟨np_s_goto hX dX12_cell_39 (by decide), List.forall_mem_cons.mpr ⟨np_s_iconst hX dX12_cell_42 (by decide), List.forall_mem_cons.mpr ⟨np_S.mono (op := np_callV 12 2 sp_X12_can 2 0 0 0 0) (np_s_callV hX C_X12_can dX12_cell_43 (q := (RX12, TX12, 77)) rfl rfl gw1890 gw142 gw1887 gw1889 gw63 ⟨by decide, by decide, by decide⟩ (by decide) (by decide)) nq_callV_le, List.forall_mem_cons.mpr ⟨np_S.mono (op := np_if (fun x => x = 0) 61) (np_s_if_eq hX dX12_cell_46 (by decide)) nq_if_le, List.forall_mem_cons.mpr ⟨np_s_aload_n hX dX12_cell_49 rfl, List.forall_mem_cons.mpr ⟨np_s_iload_n hX dX12_cell_50 rfl, List.forall_mem_cons.mpr ⟨np_s_iload_n hX dX12_cell_51 rfl, List.forall_mem_cons.mpr ⟨np_s_iload_n hX dX12_cell_52 rfl, List.forall_mem_cons.mpr ⟨np_s_iload hX dX12_cell_53, List.forall_mem_cons.mpr ⟨np_s_goto hX dX12_cell_58 (by decide), List.forall_mem_cons.mpr ⟨np_s_iconst hX dX12_cell_61 (by decide), List.forall_mem_cons.mpr ⟨np_S.mono (op := np_ret X.2.2.1) (np_s_ret hX dX12_cell_62) (nq_ret_le hR), fun _ h => nomatch h⟩⟩⟩⟩⟩⟩⟩⟩⟩⟩⟩⟩⟩⟩⟩⟩⟩⟩⟩⟩⟩⟩⟩⟩⟩⟩⟩⟩⟩⟩⟩⟩
abbrev sp_X12_cell : np_Sp := nq_in is_X12_cell (some .int) 0 0 400
theorem C_X12_cell : np_C yX12_cell cX12_cell 6 (some .int) 3 63 0 0 sp_X12_cell := nq_inC 400 (by decide) (fun X Rt hX hmn hR => so_X12_cell hX hR)
theorem dX12_take_0 : decode cX12_take 0 = .ok (.aload_n 0, 1) := by decide +kernel
theorem dX12_take_1 : decode cX12_take 1 = .ok (.iload_n 1, 1) := by decide +kernel
theorem dX12_take_2 : decode cX12_take 2 = .ok (.invokestatic 356, 3) := by decide +kernel
theorem dX12_take_5 : decode cX12_take 5 = .ok (.ifCond .eq 16, 3) := by decide +kernel
theorem dX12_take_8 : decode cX12_take 8 = .ok (.aload_n 0, 1) := by decide +kernel
theorem dX12_take_9 : decode cX12_take 9 = .ok (.iload_n 1, 1) := by decide +kernel
theorem dX12_take_10 : decode cX12_take 10 = .ok (.iload_n 2, 1) := by decide +kernel
theorem dX12_take_11 : decode cX12_take 11 = .ok (.invokevirtual 440, 3) := by decide +kernel
theorem dX12_take_14 : decode cX12_take 14 = .ok (.ifCond .eq 7, 3) := by decide +kernel
theorem dX12_take_17 : decode cX12_take 17 = .ok (.iconst 0, 1) := by decide +kernel
theorem dX12_take_18 : decode cX12_take 18 = .ok (.goto 4, 3) := by decide +kernel
theorem dX12_take_21 : decode cX12_take 21 = .ok (.iconst 1, 1) := by decide +kernel
theorem dX12_take_22 : decode cX12_take 22 = .ok (.invokevirtual 202, 3) := by decide +kernel
theorem dX12_take_25 : decode cX12_take 25 = .ok (.ifCond .ne 5, 3) := by decide +kernel
theorem dX12_take_28 : decode cX12_take 28 = .ok (.iconst 0, 1) := by decide +kernel
theorem dX12_take_29 : decode cX12_take 29 = .ok (.ireturn, 1) := by decide +kernel
theorem dX12_take_30 : decode cX12_take 30 = .ok (.iconst 0, 1) := by decide +kernel
theorem dX12_take_31 : decode cX12_take 31 = .ok (.istore_n 3, 1) := by decide +kernel
theorem dX12_take_32 : decode cX12_take 32 = .ok (.aload_n 0, 1) := by decide +kernel
theorem dX12_take_33 : decode cX12_take 33 = .ok (.aload_n 0, 1) := by decide +kernel
theorem dX12_take_34 : decode cX12_take 34 = .ok (.getfield 86, 3) := by decide +kernel
theorem dX12_take_37 : decode cX12_take 37 = .ok (.bipush 24, 2) := by decide +kernel
theorem dX12_take_39 : decode cX12_take 39 = .ok (.iload_n 1, 1) := by decide +kernel
theorem dX12_take_40 : decode cX12_take 40 = .ok (.imul, 1) := by decide +kernel
theorem dX12_take_41 : decode cX12_take 41 = .ok (.iload_n 2, 1) := by decide +kernel
theorem dX12_take_42 : decode cX12_take 42 = .ok (.iadd, 1) := by decide +kernel
theorem dX12_take_43 : decode cX12_take 43 = .ok (.iaload, 1) := by decide +kernel
theorem dX12_take_44 : decode cX12_take 44 = .ok (.putfield 235, 3) := by decide +kernel
theorem dX12_take_47 : decode cX12_take 47 = .ok (.iconst 0, 1) := by decide +kernel
theorem dX12_take_48 : decode cX12_take 48 = .ok (.istore 4, 2) := by decide +kernel
theorem dX12_take_50 : decode cX12_take 50 = .ok (.iload 4, 2) := by decide +kernel
theorem dX12_take_52 : decode cX12_take 52 = .ok (.bipush 24, 2) := by decide +kernel
theorem dX12_take_54 : decode cX12_take 54 = .ok (.if_icmp .ge 53, 3) := by decide +kernel
theorem dX12_take_57 : decode cX12_take 57 = .ok (.aload_n 0, 1) := by decide +kernel
theorem dX12_take_58 : decode cX12_take 58 = .ok (.getfield 58, 3) := by decide +kernel
theorem dX12_take_61 : decode cX12_take 61 = .ok (.iload 4, 2) := by decide +kernel
theorem dX12_take_63 : decode cX12_take 63 = .ok (.aload_n 0, 1) := by decide +kernel
theorem dX12_take_64 : decode cX12_take 64 = .ok (.getfield 83, 3) := by decide +kernel
theorem dX12_take_67 : decode cX12_take 67 = .ok (.bipush 24, 2) := by decide +kernel
theorem dX12_take_69 : decode cX12_take 69 = .ok (.bipush 24, 2) := by decide +kernel
theorem dX12_take_71 : decode cX12_take 71 = .ok (.iload_n 1, 1) := by decide +kernel
theorem dX12_take_72 : decode cX12_take 72 = .ok (.imul, 1) := by decide +kernel
theorem dX12_take_73 : decode cX12_take 73 = .ok (.iload_n 2, 1) := by decide +kernel
theorem dX12_take_74 : decode cX12_take 74 = .ok (.iadd, 1) := by decide +kernel
theorem dX12_take_75 : decode cX12_take 75 = .ok (.imul, 1) := by decide +kernel
theorem dX12_take_76 : decode cX12_take 76 = .ok (.iload 4, 2) := by decide +kernel
theorem dX12_take_78 : decode cX12_take 78 = .ok (.iadd, 1) := by decide +kernel
theorem dX12_take_79 : decode cX12_take 79 = .ok (.iaload, 1) := by decide +kernel
theorem dX12_take_80 : decode cX12_take 80 = .ok (.iastore, 1) := by decide +kernel
theorem dX12_take_81 : decode cX12_take 81 = .ok (.iload_n 3, 1) := by decide +kernel
theorem dX12_take_82 : decode cX12_take 82 = .ok (.aload_n 0, 1) := by decide +kernel
theorem dX12_take_83 : decode cX12_take 83 = .ok (.getfield 235, 3) := by decide +kernel
theorem dX12_take_86 : decode cX12_take 86 = .ok (.iload 4, 2) := by decide +kernel
theorem dX12_take_88 : decode cX12_take 88 = .ok (.invokestatic 229, 3) := by decide +kernel
theorem dX12_take_91 : decode cX12_take 91 = .ok (.ifCond .eq 7, 3) := by decide +kernel
theorem dX12_take_94 : decode cX12_take 94 = .ok (.iconst 1, 1) := by decide +kernel
theorem dX12_take_95 : decode cX12_take 95 = .ok (.goto 4, 3) := by decide +kernel
theorem dX12_take_98 : decode cX12_take 98 = .ok (.iconst 0, 1) := by decide +kernel
theorem dX12_take_99 : decode cX12_take 99 = .ok (.iadd, 1) := by decide +kernel
theorem dX12_take_100 : decode cX12_take 100 = .ok (.istore_n 3, 1) := by decide +kernel
theorem dX12_take_101 : decode cX12_take 101 = .ok (.iinc 4 1, 3) := by decide +kernel
theorem dX12_take_104 : decode cX12_take 104 = .ok (.goto (-54), 3) := by decide +kernel
theorem dX12_take_107 : decode cX12_take 107 = .ok (.iload_n 3, 1) := by decide +kernel
theorem dX12_take_108 : decode cX12_take 108 = .ok (.ireturn, 1) := by decide +kernel
def is_X12_take (Rt : np_Rt) : List (Nat × np_Op) := [(0, np_ald 1 0), (1, np_ild 1 1), (2, nq_call 1 sp_X12_isFile 1 0 0 0 0), (5, nq_if (fun x => x = 0) 21), (8, np_ald 1 0), (9, np_ild 1 1), (10, np_ild 1 2), (11, nq_callV 12 3 sp_X12_isRow 3 0 0 0 0), (14, nq_if (fun x => x = 0) 21), (17, np_push 1 (.int 0)), (18, np_goto 22), (21, np_push 1 (.int 1)), (22, nq_callV 12 2 sp_X12_can 2 0 0 0 0), (25, nq_ifne 30), (28, np_push 1 (.int 0)), (29, np_ret Rt), (30, np_push 1 (.int 0)), (31, np_ist 1 3), (32, np_ald 1 0), (33, np_ald 1 0), (34, nq_getf 12 28), (37, np_push 2 (.int 24)), (39, np_ild 1 1), (40, np_ib (fun x y => x * y)), (41, np_ild 1 2), (42, np_ib (fun x y => x + y)), (43, nq_ialdT .int), (44, nq_putf 12 19 (.int)), (47, np_push 1 (.int 0)), (48, np_ist 2 4), (50, np_ild 2 4), (52, np_push 2 (.int 24)), (54, nq_ic (fun x y => y ≤ x) 107), (57, np_ald 1 0), (58, nq_getf 12 18), (61, np_ild 2 4), (63, np_ald 1 0), (64, nq_getf 12 27), (67, np_push 2 (.int 24)), (69, np_push 2 (.int 24)), (71, np_ild 1 1), (72, np_ib (fun x y => x * y)), (73, np_ild 1 2), (74, np_ib (fun x y => x + y)), (75, np_ib (fun x y => x * y)), (76, np_ild 2 4), (78, np_ib (fun x y => x + y)), (79, nq_ialdT .int), (80, nq_iastT .int), (81, np_ild 1 3), (82, np_ald 1 0), (83, nq_getf 12 19), (86, np_ild 2 4), (88, nq_call 2 sp_X12_has 2 0 0 0 0), (91, nq_if (fun x => x = 0) 98), (94, np_push 1 (.int 1)), (95, np_goto 99), (98, np_push 1 (.int 0)), (99, np_ib (fun x y => x + y)), (100, np_ist 1 3), (101, np_iinc 4 1), (104, np_goto 50), (107, np_ild 1 3), (108, np_ret Rt)]
set_option maxRecDepth 20000 in
theorem so_X12_take {X : np_Ctx} {Rt : np_Rt} (hX : np_ok RX12 cX12_take 5 2 44 0 0 .ireturn X) (hR : ∀ st w ce sl, Rt st w ce sl → X.2.2.1 st w ce sl) : ∀ q ∈ is_X12_take Rt, np_S X q.1 q.2 :=
  List.forall_mem_cons.mpr ⟨np_s_aload_n hX dX12_take_0 rfl, List.forall_mem_cons.mpr ⟨np_s_iload_n hX dX12_take_1 rfl, List.forall_mem_cons.mpr ⟨np_S.mono (op := np_call 1 sp_X12_isFile 1 0 0 0 0) (np_s_callS hX C_X12_isFile dX12_take_2 gw2062 gw142 gw2060 gw2061 ⟨by decide, by decide, by decide⟩ (by decide) (by decide)) nq_call_le, List.forall_mem_cons.mpr ⟨np_S.mono (op := np_if (fun x => x = 0) 21) (np_s_if_eq hX dX12_take_5 (by decide)) nq_if_le, List.forall_mem_cons.mpr ⟨np_s_aload_n hX dX12_take_8 rfl, List.forall_mem_cons.mpr ⟨np_s_iload_n hX dX12_take_9 rfl, List.forall_mem_cons.mpr ⟨np_s_iload_n hX dX12_take_10 rfl, List.forall_mem_cons.mpr ⟨np_S.mono (op := np_callV 12 3 sp_X12_isRow 3 0 0 0 0) (np_s_callV hX C_X12_isRow dX12_take_11 (q := (RX12, TX12, 77)) rfl rfl gw2193 gw142 gw2190 gw2192 gw110 ⟨by decide, by decide, by decide⟩ (by decide) (by decide)) nq_callV_le, List.forall_mem_cons.mpr ⟨np_S.mono (op := np_if (fun x => x = 0) 21) (np_s_if_eq hX dX12_take_14 (by decide)) nq_if_le, List.forall_mem_cons.mpr ⟨np_s_iconst hX dX12_take_17 (by decide), List.forall_mem_cons.mpr ⟨np_s_goto hX dX12_take_18 (by decide), List.forall_mem_cons.mpr ⟨np_s_iconst hX dX12_take_21 (by decide), List.forall_mem_cons.mpr ⟨np_S.mono (op := np_callV 12 2 sp_X12_can 2 0 0 0 0) (np_s_callV hX C_X12_can dX12_take_22 (q := (RX12, TX12, 77)) rfl rfl gw1890 gw142 gw1887 gw1889 gw63 ⟨by decide, by decide, by decide⟩ (by decide) (by decide)) nq_callV_le, List.forall_mem_cons.mpr ⟨np_S.mono (op := np_ifne 30) (np_s_if_ne hX dX12_take_25 (by decide)) nq_ifne_le, List.forall_mem_cons.mpr ⟨np_s_iconst hX dX12_take_28 (by decide), List.forall_mem_cons.mpr ⟨np_S.mono (op := np_ret X.2.2.1) (np_s_ret hX dX12_take_29) (nq_ret_le hR), List.forall_mem_cons.mpr ⟨np_s_iconst hX dX12_take_30 (by decide), List.forall_mem_cons.mpr ⟨np_s_istore_n hX dX12_take_31 rfl (by decide), List.forall_mem_cons.mpr ⟨np_s_aload_n hX dX12_take_32 rfl, List.forall_mem_cons.mpr ⟨np_s_aload_n hX dX12_take_33 rfl, List.forall_mem_cons.mpr ⟨np_S.mono (op := np_getf 12 28) (np_s_getf hX dX12_take_34 (C := RX12) (T := TX12) (N := 77) rfl guX12 (by decide) gw1664) nq_getf_le, List.forall_mem_cons.mpr ⟨np_s_bipush hX dX12_take_37 (by decide), List.forall_mem_cons.mpr ⟨np_s_iload_n hX dX12_take_39 rfl, List.forall_mem_cons.mpr ⟨np_s_imul hX dX12_take_40, List.forall_mem_cons.mpr ⟨np_s_iload_n hX dX12_take_41 rfl, List.forall_mem_cons.mpr ⟨np_s_iadd hX dX12_take_42, List.forall_mem_cons.mpr ⟨np_S.mono (op := np_ialdT .int) (np_s_iald hX dX12_take_43) nq_ialdT_le, List.forall_mem_cons.mpr ⟨np_S.mono (op := np_putf 12 19 (.int)) (np_s_putf hX dX12_take_44 (C := RX12) (T := TX12) (N := 77) (ty0 := tyX12) rfl guX12 tyX12_ok nmX12 (by decide) gw1655 rfl rfl) nq_putf_le, List.forall_mem_cons.mpr ⟨np_s_iconst hX dX12_take_47 (by decide), List.forall_mem_cons.mpr ⟨np_s_istore hX dX12_take_48 (by decide), List.forall_mem_cons.mpr ⟨np_s_iload hX dX12_take_50, List.forall_mem_cons.mpr ⟨np_s_bipush hX dX12_take_52 (by decide), List.forall_mem_cons.mpr ⟨np_S.mono (op := np_ic (fun x y => y ≤ x) 107) (np_s_icmp_ge hX dX12_take_54 (by decide)) nq_ic_le, List.forall_mem_cons.mpr ⟨np_s_aload_n hX dX12_take_57 rfl, List.forall_mem_cons.mpr ⟨np_S.mono (op := np_getf 12 18) (np_s_getf hX dX12_take_58 (C := RX12) (T := TX12) (N := 77) rfl guX12 (by decide) gw1654) nq_getf_le, List.forall_mem_cons.mpr ⟨np_s_iload hX dX12_take_61, List.forall_mem_cons.mpr ⟨np_s_aload_n hX dX12_take_63 rfl, List.forall_mem_cons.mpr ⟨np_S.mono (op := np_getf 12 27) (np_s_getf hX dX12_take_64 (C := RX12) (T := TX12) (N := 77) rfl guX12 (by decide) gw1663) nq_getf_le, List.forall_mem_cons.mpr ⟨np_s_bipush hX dX12_take_67 (by decide), List.forall_mem_cons.mpr ⟨np_s_bipush hX dX12_take_69 (by decide), List.forall_mem_cons.mpr ⟨np_s_iload_n hX dX12_take_71 rfl, List.forall_mem_cons.mpr ⟨np_s_imul hX dX12_take_72, List.forall_mem_cons.mpr ⟨np_s_iload_n hX dX12_take_73 rfl, List.forall_mem_cons.mpr ⟨np_s_iadd hX dX12_take_74, List.forall_mem_cons.mpr ⟨np_s_imul hX dX12_take_75, List.forall_mem_cons.mpr ⟨np_s_iload hX dX12_take_76, List.forall_mem_cons.mpr ⟨np_s_iadd hX dX12_take_78, List.forall_mem_cons.mpr ⟨np_S.mono (op := np_ialdT .int) (np_s_iald hX dX12_take_79) nq_ialdT_le, List.forall_mem_cons.mpr ⟨np_S.mono (op := np_iastT .int) (np_s_iast hX dX12_take_80) nq_iastT_le, List.forall_mem_cons.mpr ⟨np_s_iload_n hX dX12_take_81 rfl, List.forall_mem_cons.mpr ⟨np_s_aload_n hX dX12_take_82 rfl, List.forall_mem_cons.mpr ⟨np_S.mono (op := np_getf 12 19) (np_s_getf hX dX12_take_83 (C := RX12) (T := TX12) (N := 77) rfl guX12 (by decide) gw1655) nq_getf_le, List.forall_mem_cons.mpr ⟨np_s_iload hX dX12_take_86, List.forall_mem_cons.mpr ⟨np_S.mono (op := np_call 2 sp_X12_has 2 0 0 0 0) (np_s_callS hX C_X12_has dX12_take_88 gw1943 gw142 gw1941 gw1942 ⟨by decide, by decide, by decide⟩ (by decide) (by decide)) nq_call_le, List.forall_mem_cons.mpr ⟨np_S.mono (op := np_if (fun x => x = 0) 98) (np_s_if_eq hX dX12_take_91 (by decide)) nq_if_le, List.forall_mem_cons.mpr ⟨np_s_iconst hX dX12_take_94 (by decide), List.forall_mem_cons.mpr ⟨np_s_goto hX dX12_take_95 (by decide), List.forall_mem_cons.mpr ⟨np_s_iconst hX dX12_take_98 (by decide), List.forall_mem_cons.mpr ⟨np_s_iadd hX dX12_take_99, List.forall_mem_cons.mpr ⟨np_s_istore_n hX dX12_take_100 rfl (by decide), List.forall_mem_cons.mpr ⟨np_s_iinc hX dX12_take_101 (by decide), List.forall_mem_cons.mpr ⟨np_s_goto hX dX12_take_104 (by decide), List.forall_mem_cons.mpr ⟨np_s_iload_n hX dX12_take_107 rfl, List.forall_mem_cons.mpr ⟨np_S.mono (op := np_ret X.2.2.1) (np_s_ret hX dX12_take_108) (nq_ret_le hR), fun _ h => nomatch h⟩⟩⟩⟩⟩⟩⟩⟩⟩⟩⟩⟩⟩⟩⟩⟩⟩⟩⟩⟩⟩⟩⟩⟩⟩⟩⟩⟩⟩⟩⟩⟩⟩⟩⟩⟩⟩⟩⟩⟩⟩⟩⟩⟩⟩⟩⟩⟩⟩⟩⟩⟩⟩⟩⟩⟩⟩⟩⟩⟩⟩⟩⟩⟩
abbrev sp_X12_take : np_Sp := nq_in is_X12_take (some .int) 0 0 400
theorem C_X12_take : np_C yX12_take cX12_take 5 (some .int) 2 44 0 0 sp_X12_take := nq_inC 400 (by decide) (fun X Rt hX hmn hR => so_X12_take hX hR)
theorem dX12_column_0 : decode cX12_column 0 = .ok (.iload_n 1, 1) := by decide +kernel
theorem dX12_column_1 : decode cX12_column 1 = .ok (.invokestatic 356, 3) := by decide +kernel
theorem dX12_column_4 : decode cX12_column 4 = .ok (.ifCond .eq 14, 3) := by decide +kernel
theorem dX12_column_7 : decode cX12_column 7 = .ok (.iload_n 3, 1) := by decide +kernel
theorem dX12_column_8 : decode cX12_column 8 = .ok (.invokestatic 191, 3) := by decide +kernel
theorem dX12_column_11 : decode cX12_column 11 = .ok (.ifCond .eq 7, 3) := by decide +kernel
theorem dX12_column_14 : decode cX12_column 14 = .ok (.iconst 1, 1) := by decide +kernel
theorem dX12_column_15 : decode cX12_column 15 = .ok (.goto 4, 3) := by decide +kernel
theorem dX12_column_18 : decode cX12_column 18 = .ok (.iconst 0, 1) := by decide +kernel
theorem dX12_column_19 : decode cX12_column 19 = .ok (.istore 5, 2) := by decide +kernel
theorem dX12_column_21 : decode cX12_column 21 = .ok (.iload_n 2, 1) := by decide +kernel
theorem dX12_column_22 : decode cX12_column 22 = .ok (.iconst 0, 1) := by decide +kernel
theorem dX12_column_23 : decode cX12_column 23 = .ok (.iconst 3, 1) := by decide +kernel
theorem dX12_column_24 : decode cX12_column 24 = .ok (.invokestatic 184, 3) := by decide +kernel
theorem dX12_column_27 : decode cX12_column 27 = .ok (.ifCond .eq 17, 3) := by decide +kernel
theorem dX12_column_30 : decode cX12_column 30 = .ok (.iload 4, 2) := by decide +kernel
theorem dX12_column_32 : decode cX12_column 32 = .ok (.iconst 1, 1) := by decide +kernel
theorem dX12_column_33 : decode cX12_column 33 = .ok (.iconst 5, 1) := by decide +kernel
theorem dX12_column_34 : decode cX12_column 34 = .ok (.invokestatic 184, 3) := by decide +kernel
theorem dX12_column_37 : decode cX12_column 37 = .ok (.ifCond .eq 7, 3) := by decide +kernel
theorem dX12_column_40 : decode cX12_column 40 = .ok (.iconst 1, 1) := by decide +kernel
theorem dX12_column_41 : decode cX12_column 41 = .ok (.goto 4, 3) := by decide +kernel
theorem dX12_column_44 : decode cX12_column 44 = .ok (.iconst 0, 1) := by decide +kernel
theorem dX12_column_45 : decode cX12_column 45 = .ok (.istore 6, 2) := by decide +kernel
theorem dX12_column_47 : decode cX12_column 47 = .ok (.aload_n 0, 1) := by decide +kernel
theorem dX12_column_48 : decode cX12_column 48 = .ok (.iload 5, 2) := by decide +kernel
theorem dX12_column_50 : decode cX12_column 50 = .ok (.ifCond .ne 7, 3) := by decide +kernel
theorem dX12_column_53 : decode cX12_column 53 = .ok (.iconst 1, 1) := by decide +kernel
theorem dX12_column_54 : decode cX12_column 54 = .ok (.goto 26, 3) := by decide +kernel
theorem dX12_column_57 : decode cX12_column 57 = .ok (.iload 6, 2) := by decide +kernel
theorem dX12_column_59 : decode cX12_column 59 = .ok (.ifCond .ne 7, 3) := by decide +kernel
theorem dX12_column_62 : decode cX12_column 62 = .ok (.iconst 2, 1) := by decide +kernel
theorem dX12_column_63 : decode cX12_column 63 = .ok (.goto 17, 3) := by decide +kernel
theorem dX12_column_66 : decode cX12_column 66 = .ok (.aload_n 0, 1) := by decide +kernel
theorem dX12_column_67 : decode cX12_column 67 = .ok (.getfield 447, 3) := by decide +kernel
theorem dX12_column_70 : decode cX12_column 70 = .ok (.bipush 6, 2) := by decide +kernel
theorem dX12_column_72 : decode cX12_column 72 = .ok (.if_icmp .ne 7, 3) := by decide +kernel
theorem dX12_column_75 : decode cX12_column 75 = .ok (.iconst 3, 1) := by decide +kernel
theorem dX12_column_76 : decode cX12_column 76 = .ok (.goto 4, 3) := by decide +kernel
theorem dX12_column_79 : decode cX12_column 79 = .ok (.iconst 0, 1) := by decide +kernel
theorem dX12_column_80 : decode cX12_column 80 = .ok (.invokevirtual 202, 3) := by decide +kernel
theorem dX12_column_83 : decode cX12_column 83 = .ok (.ifCond .ne 5, 3) := by decide +kernel
theorem dX12_column_86 : decode cX12_column 86 = .ok (.iconst 0, 1) := by decide +kernel
theorem dX12_column_87 : decode cX12_column 87 = .ok (.ireturn, 1) := by decide +kernel
theorem dX12_column_88 : decode cX12_column 88 = .ok (.aload_n 0, 1) := by decide +kernel
theorem dX12_column_89 : decode cX12_column 89 = .ok (.getfield 101, 3) := by decide +kernel
theorem dX12_column_92 : decode cX12_column 92 = .ok (.aload_n 0, 1) := by decide +kernel
theorem dX12_column_93 : decode cX12_column 93 = .ok (.getfield 447, 3) := by decide +kernel
theorem dX12_column_96 : decode cX12_column 96 = .ok (.iload_n 1, 1) := by decide +kernel
theorem dX12_column_97 : decode cX12_column 97 = .ok (.iastore, 1) := by decide +kernel
theorem dX12_column_98 : decode cX12_column 98 = .ok (.aload_n 0, 1) := by decide +kernel
theorem dX12_column_99 : decode cX12_column 99 = .ok (.getfield 104, 3) := by decide +kernel
theorem dX12_column_102 : decode cX12_column 102 = .ok (.aload_n 0, 1) := by decide +kernel
theorem dX12_column_103 : decode cX12_column 103 = .ok (.getfield 447, 3) := by decide +kernel
theorem dX12_column_106 : decode cX12_column 106 = .ok (.iload_n 2, 1) := by decide +kernel
theorem dX12_column_107 : decode cX12_column 107 = .ok (.iastore, 1) := by decide +kernel
theorem dX12_column_108 : decode cX12_column 108 = .ok (.aload_n 0, 1) := by decide +kernel
theorem dX12_column_109 : decode cX12_column 109 = .ok (.getfield 107, 3) := by decide +kernel
theorem dX12_column_112 : decode cX12_column 112 = .ok (.aload_n 0, 1) := by decide +kernel
theorem dX12_column_113 : decode cX12_column 113 = .ok (.getfield 447, 3) := by decide +kernel
theorem dX12_column_116 : decode cX12_column 116 = .ok (.iload_n 3, 1) := by decide +kernel
theorem dX12_column_117 : decode cX12_column 117 = .ok (.iastore, 1) := by decide +kernel
theorem dX12_column_118 : decode cX12_column 118 = .ok (.aload_n 0, 1) := by decide +kernel
theorem dX12_column_119 : decode cX12_column 119 = .ok (.getfield 110, 3) := by decide +kernel
theorem dX12_column_122 : decode cX12_column 122 = .ok (.aload_n 0, 1) := by decide +kernel
theorem dX12_column_123 : decode cX12_column 123 = .ok (.getfield 447, 3) := by decide +kernel
theorem dX12_column_126 : decode cX12_column 126 = .ok (.iload 4, 2) := by decide +kernel
theorem dX12_column_128 : decode cX12_column 128 = .ok (.iastore, 1) := by decide +kernel
theorem dX12_column_129 : decode cX12_column 129 = .ok (.aload_n 0, 1) := by decide +kernel
theorem dX12_column_130 : decode cX12_column 130 = .ok (.dup, 1) := by decide +kernel
theorem dX12_column_131 : decode cX12_column 131 = .ok (.getfield 447, 3) := by decide +kernel
theorem dX12_column_134 : decode cX12_column 134 = .ok (.iconst 1, 1) := by decide +kernel
theorem dX12_column_135 : decode cX12_column 135 = .ok (.iadd, 1) := by decide +kernel
theorem dX12_column_136 : decode cX12_column 136 = .ok (.putfield 447, 3) := by decide +kernel
theorem dX12_column_139 : decode cX12_column 139 = .ok (.aload_n 0, 1) := by decide +kernel
theorem dX12_column_140 : decode cX12_column 140 = .ok (.getfield 447, 3) := by decide +kernel
theorem dX12_column_143 : decode cX12_column 143 = .ok (.iconst 1, 1) := by decide +kernel
theorem dX12_column_144 : decode cX12_column 144 = .ok (.isub, 1) := by decide +kernel
theorem dX12_column_145 : decode cX12_column 145 = .ok (.ireturn, 1) := by decide +kernel
def is_X12_column (Rt : np_Rt) : List (Nat × np_Op) := [(0, np_ild 1 1), (1, nq_call 1 sp_X12_isFile 1 0 0 0 0), (4, nq_if (fun x => x = 0) 18), (7, np_ild 1 3), (8, nq_call 1 sp_X12_isSlot 1 0 0 0 0), (11, nq_if (fun x => x = 0) 18), (14, np_push 1 (.int 1)), (15, np_goto 19), (18, np_push 1 (.int 0)), (19, np_ist 2 5), (21, np_ild 1 2), (22, np_push 1 (.int 0)), (23, np_push 1 (.int 3)), (24, nq_call 3 sp_X12_isIn 3 0 0 0 0), (27, nq_if (fun x => x = 0) 44), (30, np_ild 2 4), (32, np_push 1 (.int 1)), (33, np_push 1 (.int 5)), (34, nq_call 3 sp_X12_isIn 3 0 0 0 0), (37, nq_if (fun x => x = 0) 44), (40, np_push 1 (.int 1)), (41, np_goto 45), (44, np_push 1 (.int 0)), (45, np_ist 2 6), (47, np_ald 1 0), (48, np_ild 2 5), (50, nq_ifne 57), (53, np_push 1 (.int 1)), (54, np_goto 80), (57, np_ild 2 6), (59, nq_ifne 66), (62, np_push 1 (.int 2)), (63, np_goto 80), (66, np_ald 1 0), (67, nq_getf 12 33), (70, np_push 2 (.int 6)), (72, nq_icne 79), (75, np_push 1 (.int 3)), (76, np_goto 80), (79, np_push 1 (.int 0)), (80, nq_callV 12 2 sp_X12_can 2 0 0 0 0), (83, nq_ifne 88), (86, np_push 1 (.int 0)), (87, np_ret Rt), (88, np_ald 1 0), (89, nq_getf 12 34), (92, np_ald 1 0), (93, nq_getf 12 33), (96, np_ild 1 1), (97, nq_iastT .int), (98, np_ald 1 0), (99, nq_getf 12 35), (102, np_ald 1 0), (103, nq_getf 12 33), (106, np_ild 1 2), (107, nq_iastT .int), (108, np_ald 1 0), (109, nq_getf 12 36), (112, np_ald 1 0), (113, nq_getf 12 33), (116, np_ild 1 3), (117, nq_iastT .int), (118, np_ald 1 0), (119, nq_getf 12 37), (122, np_ald 1 0), (123, nq_getf 12 33), (126, np_ild 2 4), (128, nq_iastT .int), (129, np_ald 1 0), (130, nq_dup), (131, nq_getf 12 33), (134, np_push 1 (.int 1)), (135, np_ib (fun x y => x + y)), (136, nq_putf 12 33 (.int)), (139, np_ald 1 0), (140, nq_getf 12 33), (143, np_push 1 (.int 1)), (144, np_ib (fun x y => x - y)), (145, np_ret Rt)]
set_option maxRecDepth 20000 in
theorem so_X12_column {X : np_Ctx} {Rt : np_Rt} (hX : np_ok RX12 cX12_column 7 2 42 0 0 .ireturn X) (hR : ∀ st w ce sl, Rt st w ce sl → X.2.2.1 st w ce sl) : ∀ q ∈ is_X12_column Rt, np_S X q.1 q.2 :=
  List.forall_mem_cons.mpr ⟨np_s_iload_n hX dX12_column_0 rfl, List.forall_mem_cons.mpr ⟨np_S.mono (op := np_call 1 sp_X12_isFile 1 0 0 0 0) (np_s_callS hX C_X12_isFile dX12_column_1 gw2062 gw142 gw2060 gw2061 ⟨by decide, by decide, by decide⟩ (by decide) (by decide)) nq_call_le, List.forall_mem_cons.mpr ⟨np_S.mono (op := np_if (fun x => x = 0) 18) (np_s_if_eq hX dX12_column_4 (by decide)) nq_if_le, List.forall_mem_cons.mpr ⟨np_s_iload_n hX dX12_column_7 rfl, List.forall_mem_cons.mpr ⟨np_S.mono (op := np_call 1 sp_X12_isSlot 1 0 0 0 0) (np_s_callS hX C_X12_isSlot dX12_column_8 gw1883 gw142 gw1881 gw1882 ⟨by decide, by decide, by decide⟩ (by decide) (by decide)) nq_call_le, List.forall_mem_cons.mpr ⟨np_S.mono (op := np_if (fun x => x = 0) 18) (np_s_if_eq hX dX12_column_11 (by decide)) nq_if_le, List.forall_mem_cons.mpr ⟨np_s_iconst hX dX12_column_14 (by decide), List.forall_mem_cons.mpr ⟨np_s_goto hX dX12_column_15 (by decide), List.forall_mem_cons.mpr ⟨np_s_iconst hX dX12_column_18 (by decide), List.forall_mem_cons.mpr ⟨np_s_istore hX dX12_column_19 (by decide), List.forall_mem_cons.mpr ⟨np_s_iload_n hX dX12_column_21 rfl, List.forall_mem_cons.mpr ⟨np_s_iconst hX dX12_column_22 (by decide), List.forall_mem_cons.mpr ⟨np_s_iconst hX dX12_column_23 (by decide), List.forall_mem_cons.mpr ⟨np_S.mono (op := np_call 3 sp_X12_isIn 3 0 0 0 0) (np_s_callS hX C_X12_isIn dX12_column_24 gw1880 gw142 gw1878 gw1879 ⟨by decide, by decide, by decide⟩ (by decide) (by decide)) nq_call_le, List.forall_mem_cons.mpr ⟨np_S.mono (op := np_if (fun x => x = 0) 44) (np_s_if_eq hX dX12_column_27 (by decide)) nq_if_le, List.forall_mem_cons.mpr ⟨np_s_iload hX dX12_column_30, List.forall_mem_cons.mpr ⟨np_s_iconst hX dX12_column_32 (by decide), List.forall_mem_cons.mpr ⟨np_s_iconst hX dX12_column_33 (by decide), List.forall_mem_cons.mpr ⟨np_S.mono (op := np_call 3 sp_X12_isIn 3 0 0 0 0) (np_s_callS hX C_X12_isIn dX12_column_34 gw1880 gw142 gw1878 gw1879 ⟨by decide, by decide, by decide⟩ (by decide) (by decide)) nq_call_le, List.forall_mem_cons.mpr ⟨np_S.mono (op := np_if (fun x => x = 0) 44) (np_s_if_eq hX dX12_column_37 (by decide)) nq_if_le, List.forall_mem_cons.mpr ⟨np_s_iconst hX dX12_column_40 (by decide), List.forall_mem_cons.mpr ⟨np_s_goto hX dX12_column_41 (by decide), List.forall_mem_cons.mpr ⟨np_s_iconst hX dX12_column_44 (by decide), List.forall_mem_cons.mpr ⟨np_s_istore hX dX12_column_45 (by decide), List.forall_mem_cons.mpr ⟨np_s_aload_n hX dX12_column_47 rfl, List.forall_mem_cons.mpr ⟨np_s_iload hX dX12_column_48, List.forall_mem_cons.mpr ⟨np_S.mono (op := np_ifne 57) (np_s_if_ne hX dX12_column_50 (by decide)) nq_ifne_le, List.forall_mem_cons.mpr ⟨np_s_iconst hX dX12_column_53 (by decide), List.forall_mem_cons.mpr ⟨np_s_goto hX dX12_column_54 (by decide), List.forall_mem_cons.mpr ⟨np_s_iload hX dX12_column_57, List.forall_mem_cons.mpr ⟨np_S.mono (op := np_ifne 66) (np_s_if_ne hX dX12_column_59 (by decide)) nq_ifne_le, List.forall_mem_cons.mpr ⟨np_s_iconst hX dX12_column_62 (by decide), List.forall_mem_cons.mpr ⟨np_s_goto hX dX12_column_63 (by decide), List.forall_mem_cons.mpr ⟨np_s_aload_n hX dX12_column_66 rfl, List.forall_mem_cons.mpr ⟨np_S.mono (op := np_getf 12 33) (np_s_getf hX dX12_column_67 (C := RX12) (T := TX12) (N := 77) rfl guX12 (by decide) gw1669) nq_getf_le, List.forall_mem_cons.mpr ⟨np_s_bipush hX dX12_column_70 (by decide), List.forall_mem_cons.mpr ⟨np_S.mono (op := np_icne 79) (np_s_icmp_ne hX dX12_column_72 (by decide)) nq_icne_le, List.forall_mem_cons.mpr ⟨np_s_iconst hX dX12_column_75 (by decide), List.forall_mem_cons.mpr ⟨np_s_goto hX dX12_column_76 (by decide), List.forall_mem_cons.mpr ⟨np_s_iconst hX dX12_column_79 (by decide), List.forall_mem_cons.mpr ⟨np_S.mono (op := np_callV 12 2 sp_X12_can 2 0 0 0 0) (np_s_callV hX C_X12_can dX12_column_80 (q := (RX12, TX12, 77)) rfl rfl gw1890 gw142 gw1887 gw1889 gw63 ⟨by decide, by decide, by decide⟩ (by decide) (by decide)) nq_callV_le, List.forall_mem_cons.mpr ⟨np_S.mono (op := np_ifne 88) (np_s_if_ne hX dX12_column_83 (by decide)) nq_ifne_le, List.forall_mem_cons.mpr ⟨np_s_iconst hX dX12_column_86 (by decide), List.forall_mem_cons.mpr ⟨np_S.mono (op := np_ret X.2.2.1) (np_s_ret hX dX12_column_87) (nq_ret_le hR), List.forall_mem_cons.mpr ⟨np_s_aload_n hX dX12_column_88 rfl, List.forall_mem_cons.mpr ⟨np_S.mono (op := np_getf 12 34) (np_s_getf hX dX12_column_89 (C := RX12) (T := TX12) (N := 77) rfl guX12 (by decide) gw1670) nq_getf_le, List.forall_mem_cons.mpr ⟨np_s_aload_n hX dX12_column_92 rfl, List.forall_mem_cons.mpr ⟨np_S.mono (op := np_getf 12 33) (np_s_getf hX dX12_column_93 (C := RX12) (T := TX12) (N := 77) rfl guX12 (by decide) gw1669) nq_getf_le, List.forall_mem_cons.mpr ⟨np_s_iload_n hX dX12_column_96 rfl, List.forall_mem_cons.mpr ⟨np_S.mono (op := np_iastT .int) (np_s_iast hX dX12_column_97) nq_iastT_le, List.forall_mem_cons.mpr ⟨np_s_aload_n hX dX12_column_98 rfl, List.forall_mem_cons.mpr ⟨np_S.mono (op := np_getf 12 35) (np_s_getf hX dX12_column_99 (C := RX12) (T := TX12) (N := 77) rfl guX12 (by decide) gw1671) nq_getf_le, List.forall_mem_cons.mpr ⟨np_s_aload_n hX dX12_column_102 rfl, List.forall_mem_cons.mpr ⟨np_S.mono (op := np_getf 12 33) (np_s_getf hX dX12_column_103 (C := RX12) (T := TX12) (N := 77) rfl guX12 (by decide) gw1669) nq_getf_le, List.forall_mem_cons.mpr ⟨np_s_iload_n hX dX12_column_106 rfl, List.forall_mem_cons.mpr ⟨np_S.mono (op := np_iastT .int) (np_s_iast hX dX12_column_107) nq_iastT_le, List.forall_mem_cons.mpr ⟨np_s_aload_n hX dX12_column_108 rfl, List.forall_mem_cons.mpr ⟨np_S.mono (op := np_getf 12 36) (np_s_getf hX dX12_column_109 (C := RX12) (T := TX12) (N := 77) rfl guX12 (by decide) gw1672) nq_getf_le, List.forall_mem_cons.mpr ⟨np_s_aload_n hX dX12_column_112 rfl, List.forall_mem_cons.mpr ⟨np_S.mono (op := np_getf 12 33) (np_s_getf hX dX12_column_113 (C := RX12) (T := TX12) (N := 77) rfl guX12 (by decide) gw1669) nq_getf_le, List.forall_mem_cons.mpr ⟨np_s_iload_n hX dX12_column_116 rfl, List.forall_mem_cons.mpr ⟨np_S.mono (op := np_iastT .int) (np_s_iast hX dX12_column_117) nq_iastT_le, List.forall_mem_cons.mpr ⟨np_s_aload_n hX dX12_column_118 rfl, List.forall_mem_cons.mpr ⟨np_S.mono (op := np_getf 12 37) (np_s_getf hX dX12_column_119 (C := RX12) (T := TX12) (N := 77) rfl guX12 (by decide) gw1673) nq_getf_le, List.forall_mem_cons.mpr ⟨np_s_aload_n hX dX12_column_122 rfl, List.forall_mem_cons.mpr ⟨np_S.mono (op := np_getf 12 33) (np_s_getf hX dX12_column_123 (C := RX12) (T := TX12) (N := 77) rfl guX12 (by decide) gw1669) nq_getf_le, List.forall_mem_cons.mpr ⟨np_s_iload hX dX12_column_126, List.forall_mem_cons.mpr ⟨np_S.mono (op := np_iastT .int) (np_s_iast hX dX12_column_128) nq_iastT_le, List.forall_mem_cons.mpr ⟨np_s_aload_n hX dX12_column_129 rfl, List.forall_mem_cons.mpr ⟨np_S.mono (op := np_dup) (np_s_dup hX dX12_column_130) nq_dup_le, List.forall_mem_cons.mpr ⟨np_S.mono (op := np_getf 12 33) (np_s_getf hX dX12_column_131 (C := RX12) (T := TX12) (N := 77) rfl guX12 (by decide) gw1669) nq_getf_le, List.forall_mem_cons.mpr ⟨np_s_iconst hX dX12_column_134 (by decide), List.forall_mem_cons.mpr ⟨np_s_iadd hX dX12_column_135, List.forall_mem_cons.mpr ⟨np_S.mono (op := np_putf 12 33 (.int)) (np_s_putf hX dX12_column_136 (C := RX12) (T := TX12) (N := 77) (ty0 := tyX12) rfl guX12 tyX12_ok nmX12 (by decide) gw1669 rfl rfl) nq_putf_le, List.forall_mem_cons.mpr ⟨np_s_aload_n hX dX12_column_139 rfl, List.forall_mem_cons.mpr ⟨np_S.mono (op := np_getf 12 33) (np_s_getf hX dX12_column_140 (C := RX12) (T := TX12) (N := 77) rfl guX12 (by decide) gw1669) nq_getf_le, List.forall_mem_cons.mpr ⟨np_s_iconst hX dX12_column_143 (by decide), List.forall_mem_cons.mpr ⟨np_s_isub hX dX12_column_144, List.forall_mem_cons.mpr ⟨np_S.mono (op := np_ret X.2.2.1) (np_s_ret hX dX12_column_145) (nq_ret_le hR), fun _ h => nomatch h⟩⟩⟩⟩⟩⟩⟩⟩⟩⟩⟩⟩⟩⟩⟩⟩⟩⟩⟩⟩⟩⟩⟩⟩⟩⟩⟩⟩⟩⟩⟩⟩⟩⟩⟩⟩⟩⟩⟩⟩⟩⟩⟩⟩⟩⟩⟩⟩⟩⟩⟩⟩⟩⟩⟩⟩⟩⟩⟩⟩⟩⟩⟩⟩⟩⟩⟩⟩⟩⟩⟩⟩⟩⟩⟩⟩⟩⟩⟩
abbrev sp_X12_column : np_Sp := nq_in is_X12_column (some .int) 0 0 400
theorem C_X12_column : np_C yX12_column cX12_column 7 (some .int) 2 42 0 0 sp_X12_column := nq_inC 400 (by decide) (fun X Rt hX hmn hR => so_X12_column hX hR)
theorem dX12_derived_0 : decode cX12_derived 0 = .ok (.aload_n 0, 1) := by decide +kernel
theorem dX12_derived_1 : decode cX12_derived 1 = .ok (.aload_n 0, 1) := by decide +kernel
theorem dX12_derived_2 : decode cX12_derived 2 = .ok (.iload_n 1, 1) := by decide +kernel
theorem dX12_derived_3 : decode cX12_derived 3 = .ok (.iload_n 2, 1) := by decide +kernel
theorem dX12_derived_4 : decode cX12_derived 4 = .ok (.invokevirtual 453, 3) := by decide +kernel
theorem dX12_derived_7 : decode cX12_derived 7 = .ok (.ifCond .eq 7, 3) := by decide +kernel
theorem dX12_derived_10 : decode cX12_derived 10 = .ok (.iconst 0, 1) := by decide +kernel
theorem dX12_derived_11 : decode cX12_derived 11 = .ok (.goto 4, 3) := by decide +kernel
theorem dX12_derived_14 : decode cX12_derived 14 = .ok (.iconst 1, 1) := by decide +kernel
theorem dX12_derived_15 : decode cX12_derived 15 = .ok (.invokevirtual 202, 3) := by decide +kernel
theorem dX12_derived_18 : decode cX12_derived 18 = .ok (.ifCond .eq 12, 3) := by decide +kernel
theorem dX12_derived_21 : decode cX12_derived 21 = .ok (.aload_n 0, 1) := by decide +kernel
theorem dX12_derived_22 : decode cX12_derived 22 = .ok (.iload_n 1, 1) := by decide +kernel
theorem dX12_derived_23 : decode cX12_derived 23 = .ok (.iload_n 2, 1) := by decide +kernel
theorem dX12_derived_24 : decode cX12_derived 24 = .ok (.invokevirtual 456, 3) := by decide +kernel
theorem dX12_derived_27 : decode cX12_derived 27 = .ok (.goto 4, 3) := by decide +kernel
theorem dX12_derived_30 : decode cX12_derived 30 = .ok (.iconst 0, 1) := by decide +kernel
theorem dX12_derived_31 : decode cX12_derived 31 = .ok (.ireturn, 1) := by decide +kernel
def is_X12_derived (Rt : np_Rt) : List (Nat × np_Op) := [(0, np_ald 1 0), (1, np_ald 1 0), (2, np_ild 1 1), (3, np_ild 1 2), (4, nq_callV 12 3 sp_X12_isDerived 3 0 0 0 0), (7, nq_if (fun x => x = 0) 14), (10, np_push 1 (.int 0)), (11, np_goto 15), (14, np_push 1 (.int 1)), (15, nq_callV 12 2 sp_X12_can 2 0 0 0 0), (18, nq_if (fun x => x = 0) 30), (21, np_ald 1 0), (22, np_ild 1 1), (23, np_ild 1 2), (27, np_goto 31), (30, np_push 1 (.int 0)), (31, np_ret Rt)]
set_option maxRecDepth 20000 in
theorem so_X12_derived {X : np_Ctx} {Rt : np_Rt} (hX : np_ok RX12 cX12_derived 3 3 66 0 0 .ireturn X) (hR : ∀ st w ce sl, Rt st w ce sl → X.2.2.1 st w ce sl) : ∀ q ∈ is_X12_derived Rt, np_S X q.1 q.2 :=
  List.forall_mem_cons.mpr ⟨np_s_aload_n hX dX12_derived_0 rfl, List.forall_mem_cons.mpr ⟨np_s_aload_n hX dX12_derived_1 rfl, List.forall_mem_cons.mpr ⟨np_s_iload_n hX dX12_derived_2 rfl, List.forall_mem_cons.mpr ⟨np_s_iload_n hX dX12_derived_3 rfl, List.forall_mem_cons.mpr ⟨np_S.mono (op := np_callV 12 3 sp_X12_isDerived 3 0 0 0 0) (np_s_callV hX C_X12_isDerived dX12_derived_4 (q := (RX12, TX12, 77)) rfl rfl gw2213 gw142 gw2210 gw2212 gw112 ⟨by decide, by decide, by decide⟩ (by decide) (by decide)) nq_callV_le, List.forall_mem_cons.mpr ⟨np_S.mono (op := np_if (fun x => x = 0) 14) (np_s_if_eq hX dX12_derived_7 (by decide)) nq_if_le, List.forall_mem_cons.mpr ⟨np_s_iconst hX dX12_derived_10 (by decide), List.forall_mem_cons.mpr ⟨np_s_goto hX dX12_derived_11 (by decide), List.forall_mem_cons.mpr ⟨np_s_iconst hX dX12_derived_14 (by decide), List.forall_mem_cons.mpr ⟨np_S.mono (op := np_callV 12 2 sp_X12_can 2 0 0 0 0) (np_s_callV hX C_X12_can dX12_derived_15 (q := (RX12, TX12, 77)) rfl rfl gw1890 gw142 gw1887 gw1889 gw63 ⟨by decide, by decide, by decide⟩ (by decide) (by decide)) nq_callV_le, List.forall_mem_cons.mpr ⟨np_S.mono (op := np_if (fun x => x = 0) 30) (np_s_if_eq hX dX12_derived_18 (by decide)) nq_if_le, List.forall_mem_cons.mpr ⟨np_s_aload_n hX dX12_derived_21 rfl, List.forall_mem_cons.mpr ⟨np_s_iload_n hX dX12_derived_22 rfl, List.forall_mem_cons.mpr ⟨np_s_iload_n hX dX12_derived_23 rfl, List.forall_mem_cons.mpr ⟨np_s_goto hX dX12_derived_27 (by decide), List.forall_mem_cons.mpr ⟨np_s_iconst hX dX12_derived_30 (by decide), List.forall_mem_cons.mpr ⟨np_S.mono (op := np_ret X.2.2.1) (np_s_ret hX dX12_derived_31) (nq_ret_le hR), fun _ h => nomatch h⟩⟩⟩⟩⟩⟩⟩⟩⟩⟩⟩⟩⟩⟩⟩⟩⟩
abbrev sp_X12_derived : np_Sp := nq_in is_X12_derived (some .int) 0 0 400
theorem C_X12_derived : np_C yX12_derived cX12_derived 3 (some .int) 3 66 0 0 sp_X12_derived := nq_inC 400 (by decide) (fun X Rt hX hmn hR => so_X12_derived hX hR)
theorem dX12_derivedByBatch_0 : decode cX12_derivedByBatch 0 = .ok (.aload_n 0, 1) := by decide +kernel
theorem dX12_derivedByBatch_1 : decode cX12_derivedByBatch 1 = .ok (.aload_n 0, 1) := by decide +kernel
theorem dX12_derivedByBatch_2 : decode cX12_derivedByBatch 2 = .ok (.iload_n 1, 1) := by decide +kernel
theorem dX12_derivedByBatch_3 : decode cX12_derivedByBatch 3 = .ok (.iload_n 2, 1) := by decide +kernel
theorem dX12_derivedByBatch_4 : decode cX12_derivedByBatch 4 = .ok (.invokevirtual 453, 3) := by decide +kernel
theorem dX12_derivedByBatch_7 : decode cX12_derivedByBatch 7 = .ok (.ifCond .eq 7, 3) := by decide +kernel
theorem dX12_derivedByBatch_10 : decode cX12_derivedByBatch 10 = .ok (.iconst 0, 1) := by decide +kernel
theorem dX12_derivedByBatch_11 : decode cX12_derivedByBatch 11 = .ok (.goto 4, 3) := by decide +kernel
theorem dX12_derivedByBatch_14 : decode cX12_derivedByBatch 14 = .ok (.iconst 1, 1) := by decide +kernel
theorem dX12_derivedByBatch_15 : decode cX12_derivedByBatch 15 = .ok (.invokevirtual 202, 3) := by decide +kernel
theorem dX12_derivedByBatch_18 : decode cX12_derivedByBatch 18 = .ok (.ifCond .eq 12, 3) := by decide +kernel
theorem dX12_derivedByBatch_21 : decode cX12_derivedByBatch 21 = .ok (.aload_n 0, 1) := by decide +kernel
theorem dX12_derivedByBatch_22 : decode cX12_derivedByBatch 22 = .ok (.iload_n 1, 1) := by decide +kernel
theorem dX12_derivedByBatch_23 : decode cX12_derivedByBatch 23 = .ok (.iload_n 2, 1) := by decide +kernel
theorem dX12_derivedByBatch_24 : decode cX12_derivedByBatch 24 = .ok (.invokevirtual 456, 3) := by decide +kernel
theorem dX12_derivedByBatch_27 : decode cX12_derivedByBatch 27 = .ok (.goto 4, 3) := by decide +kernel
theorem dX12_derivedByBatch_30 : decode cX12_derivedByBatch 30 = .ok (.iconst 0, 1) := by decide +kernel
theorem dX12_derivedByBatch_31 : decode cX12_derivedByBatch 31 = .ok (.ireturn, 1) := by decide +kernel
def is_X12_derivedByBatch (Rt : np_Rt) : List (Nat × np_Op) := [(0, np_ald 1 0), (1, np_ald 1 0), (2, np_ild 1 1), (3, np_ild 1 2), (4, nq_callV 12 3 sp_X12_isDerived 3 0 0 0 0), (7, nq_if (fun x => x = 0) 14), (10, np_push 1 (.int 0)), (11, np_goto 15), (14, np_push 1 (.int 1)), (15, nq_callV 12 2 sp_X12_can 2 0 0 0 0), (18, nq_if (fun x => x = 0) 30), (21, np_ald 1 0), (22, np_ild 1 1), (23, np_ild 1 2), (27, np_goto 31), (30, np_push 1 (.int 0)), (31, np_ret Rt)]
set_option maxRecDepth 20000 in
theorem so_X12_derivedByBatch {X : np_Ctx} {Rt : np_Rt} (hX : np_ok RX12 cX12_derivedByBatch 3 3 66 0 0 .ireturn X) (hR : ∀ st w ce sl, Rt st w ce sl → X.2.2.1 st w ce sl) : ∀ q ∈ is_X12_derivedByBatch Rt, np_S X q.1 q.2 :=
  List.forall_mem_cons.mpr ⟨np_s_aload_n hX dX12_derivedByBatch_0 rfl, List.forall_mem_cons.mpr ⟨np_s_aload_n hX dX12_derivedByBatch_1 rfl, List.forall_mem_cons.mpr ⟨np_s_iload_n hX dX12_derivedByBatch_2 rfl, List.forall_mem_cons.mpr ⟨np_s_iload_n hX dX12_derivedByBatch_3 rfl, List.forall_mem_cons.mpr ⟨np_S.mono (op := np_callV 12 3 sp_X12_isDerived 3 0 0 0 0) (np_s_callV hX C_X12_isDerived dX12_derivedByBatch_4 (q := (RX12, TX12, 77)) rfl rfl gw2213 gw142 gw2210 gw2212 gw112 ⟨by decide, by decide, by decide⟩ (by decide) (by decide)) nq_callV_le, List.forall_mem_cons.mpr ⟨np_S.mono (op := np_if (fun x => x = 0) 14) (np_s_if_eq hX dX12_derivedByBatch_7 (by decide)) nq_if_le, List.forall_mem_cons.mpr ⟨np_s_iconst hX dX12_derivedByBatch_10 (by decide), List.forall_mem_cons.mpr ⟨np_s_goto hX dX12_derivedByBatch_11 (by decide), List.forall_mem_cons.mpr ⟨np_s_iconst hX dX12_derivedByBatch_14 (by decide), List.forall_mem_cons.mpr ⟨np_S.mono (op := np_callV 12 2 sp_X12_can 2 0 0 0 0) (np_s_callV hX C_X12_can dX12_derivedByBatch_15 (q := (RX12, TX12, 77)) rfl rfl gw1890 gw142 gw1887 gw1889 gw63 ⟨by decide, by decide, by decide⟩ (by decide) (by decide)) nq_callV_le, List.forall_mem_cons.mpr ⟨np_S.mono (op := np_if (fun x => x = 0) 30) (np_s_if_eq hX dX12_derivedByBatch_18 (by decide)) nq_if_le, List.forall_mem_cons.mpr ⟨np_s_aload_n hX dX12_derivedByBatch_21 rfl, List.forall_mem_cons.mpr ⟨np_s_iload_n hX dX12_derivedByBatch_22 rfl, List.forall_mem_cons.mpr ⟨np_s_iload_n hX dX12_derivedByBatch_23 rfl, List.forall_mem_cons.mpr ⟨np_s_goto hX dX12_derivedByBatch_27 (by decide), List.forall_mem_cons.mpr ⟨np_s_iconst hX dX12_derivedByBatch_30 (by decide), List.forall_mem_cons.mpr ⟨np_S.mono (op := np_ret X.2.2.1) (np_s_ret hX dX12_derivedByBatch_31) (nq_ret_le hR), fun _ h => nomatch h⟩⟩⟩⟩⟩⟩⟩⟩⟩⟩⟩⟩⟩⟩⟩⟩⟩
abbrev sp_X12_derivedByBatch : np_Sp := nq_in is_X12_derivedByBatch (some .int) 0 0 400
theorem C_X12_derivedByBatch : np_C yX12_derivedByBatch cX12_derivedByBatch 3 (some .int) 3 66 0 0 sp_X12_derivedByBatch := nq_inC 400 (by decide) (fun X Rt hX hmn hR => so_X12_derivedByBatch hX hR)
theorem dX12_change_0 : decode cX12_change 0 = .ok (.iload_n 1, 1) := by decide +kernel
theorem dX12_change_1 : decode cX12_change 1 = .ok (.iconst 1, 1) := by decide +kernel
theorem dX12_change_2 : decode cX12_change 2 = .ok (.if_icmp .eq 7, 3) := by decide +kernel
theorem dX12_change_5 : decode cX12_change 5 = .ok (.iconst 1, 1) := by decide +kernel
theorem dX12_change_6 : decode cX12_change 6 = .ok (.goto 4, 3) := by decide +kernel
theorem dX12_change_9 : decode cX12_change 9 = .ok (.iconst 0, 1) := by decide +kernel
theorem dX12_change_10 : decode cX12_change 10 = .ok (.istore 5, 2) := by decide +kernel
theorem dX12_change_12 : decode cX12_change 12 = .ok (.iload_n 2, 1) := by decide +kernel
theorem dX12_change_13 : decode cX12_change 13 = .ok (.invokestatic 191, 3) := by decide +kernel
theorem dX12_change_16 : decode cX12_change 16 = .ok (.ifCond .eq 32, 3) := by decide +kernel
theorem dX12_change_19 : decode cX12_change 19 = .ok (.iload 5, 2) := by decide +kernel
theorem dX12_change_21 : decode cX12_change 21 = .ok (.ifCond .eq 10, 3) := by decide +kernel
theorem dX12_change_24 : decode cX12_change 24 = .ok (.iload_n 3, 1) := by decide +kernel
theorem dX12_change_25 : decode cX12_change 25 = .ok (.invokestatic 191, 3) := by decide +kernel
theorem dX12_change_28 : decode cX12_change 28 = .ok (.ifCond .eq 20, 3) := by decide +kernel
theorem dX12_change_31 : decode cX12_change 31 = .ok (.iload_n 1, 1) := by decide +kernel
theorem dX12_change_32 : decode cX12_change 32 = .ok (.iconst 4, 1) := by decide +kernel
theorem dX12_change_33 : decode cX12_change 33 = .ok (.if_icmp .ne 11, 3) := by decide +kernel
theorem dX12_change_36 : decode cX12_change 36 = .ok (.iload 4, 2) := by decide +kernel
theorem dX12_change_38 : decode cX12_change 38 = .ok (.invokestatic 191, 3) := by decide +kernel
theorem dX12_change_41 : decode cX12_change 41 = .ok (.ifCond .eq 7, 3) := by decide +kernel
theorem dX12_change_44 : decode cX12_change 44 = .ok (.iconst 1, 1) := by decide +kernel
theorem dX12_change_45 : decode cX12_change 45 = .ok (.goto 4, 3) := by decide +kernel
theorem dX12_change_48 : decode cX12_change 48 = .ok (.iconst 0, 1) := by decide +kernel
theorem dX12_change_49 : decode cX12_change 49 = .ok (.istore 6, 2) := by decide +kernel
theorem dX12_change_51 : decode cX12_change 51 = .ok (.iload_n 1, 1) := by decide +kernel
theorem dX12_change_52 : decode cX12_change 52 = .ok (.iconst 0, 1) := by decide +kernel
theorem dX12_change_53 : decode cX12_change 53 = .ok (.iconst 4, 1) := by decide +kernel
theorem dX12_change_54 : decode cX12_change 54 = .ok (.invokestatic 184, 3) := by decide +kernel
theorem dX12_change_57 : decode cX12_change 57 = .ok (.ifCond .eq 70, 3) := by decide +kernel
theorem dX12_change_60 : decode cX12_change 60 = .ok (.iload_n 1, 1) := by decide +kernel
theorem dX12_change_61 : decode cX12_change 61 = .ok (.iconst 1, 1) := by decide +kernel
theorem dX12_change_62 : decode cX12_change 62 = .ok (.if_icmp .ne 16, 3) := by decide +kernel
theorem dX12_change_65 : decode cX12_change 65 = .ok (.iload_n 3, 1) := by decide +kernel
theorem dX12_change_66 : decode cX12_change 66 = .ok (.sipush (-999), 3) := by decide +kernel
theorem dX12_change_69 : decode cX12_change 69 = .ok (.sipush 999, 3) := by decide +kernel
theorem dX12_change_72 : decode cX12_change 72 = .ok (.invokestatic 184, 3) := by decide +kernel
theorem dX12_change_75 : decode cX12_change 75 = .ok (.ifCond .eq 52, 3) := by decide +kernel
theorem dX12_change_78 : decode cX12_change 78 = .ok (.iload_n 1, 1) := by decide +kernel
theorem dX12_change_79 : decode cX12_change 79 = .ok (.iconst 1, 1) := by decide +kernel
theorem dX12_change_80 : decode cX12_change 80 = .ok (.if_icmp .gt 8, 3) := by decide +kernel
theorem dX12_change_83 : decode cX12_change 83 = .ok (.iload 4, 2) := by decide +kernel
theorem dX12_change_85 : decode cX12_change 85 = .ok (.ifCond .ne 42, 3) := by decide +kernel
theorem dX12_change_88 : decode cX12_change 88 = .ok (.iload_n 1, 1) := by decide +kernel
theorem dX12_change_89 : decode cX12_change 89 = .ok (.iconst 2, 1) := by decide +kernel
theorem dX12_change_90 : decode cX12_change 90 = .ok (.if_icmp .ne 17, 3) := by decide +kernel
theorem dX12_change_93 : decode cX12_change 93 = .ok (.iload 4, 2) := by decide +kernel
theorem dX12_change_95 : decode cX12_change 95 = .ok (.sipush (-999), 3) := by decide +kernel
theorem dX12_change_98 : decode cX12_change 98 = .ok (.sipush 999, 3) := by decide +kernel
theorem dX12_change_101 : decode cX12_change 101 = .ok (.invokestatic 184, 3) := by decide +kernel
theorem dX12_change_104 : decode cX12_change 104 = .ok (.ifCond .eq 23, 3) := by decide +kernel
theorem dX12_change_107 : decode cX12_change 107 = .ok (.iload_n 1, 1) := by decide +kernel
theorem dX12_change_108 : decode cX12_change 108 = .ok (.iconst 3, 1) := by decide +kernel
theorem dX12_change_109 : decode cX12_change 109 = .ok (.if_icmp .ne 14, 3) := by decide +kernel
theorem dX12_change_112 : decode cX12_change 112 = .ok (.iload 4, 2) := by decide +kernel
theorem dX12_change_114 : decode cX12_change 114 = .ok (.iconst 2, 1) := by decide +kernel
theorem dX12_change_115 : decode cX12_change 115 = .ok (.bipush 9, 2) := by decide +kernel
theorem dX12_change_117 : decode cX12_change 117 = .ok (.invokestatic 184, 3) := by decide +kernel
theorem dX12_change_120 : decode cX12_change 120 = .ok (.ifCond .eq 7, 3) := by decide +kernel
theorem dX12_change_123 : decode cX12_change 123 = .ok (.iconst 1, 1) := by decide +kernel
theorem dX12_change_124 : decode cX12_change 124 = .ok (.goto 4, 3) := by decide +kernel
theorem dX12_change_127 : decode cX12_change 127 = .ok (.iconst 0, 1) := by decide +kernel
theorem dX12_change_128 : decode cX12_change 128 = .ok (.istore 7, 2) := by decide +kernel
theorem dX12_change_130 : decode cX12_change 130 = .ok (.aload_n 0, 1) := by decide +kernel
theorem dX12_change_131 : decode cX12_change 131 = .ok (.iload 6, 2) := by decide +kernel
theorem dX12_change_133 : decode cX12_change 133 = .ok (.ifCond .ne 7, 3) := by decide +kernel
theorem dX12_change_136 : decode cX12_change 136 = .ok (.iconst 1, 1) := by decide +kernel
theorem dX12_change_137 : decode cX12_change 137 = .ok (.goto 13, 3) := by decide +kernel
theorem dX12_change_140 : decode cX12_change 140 = .ok (.iload 7, 2) := by decide +kernel
theorem dX12_change_142 : decode cX12_change 142 = .ok (.ifCond .eq 7, 3) := by decide +kernel
theorem dX12_change_145 : decode cX12_change 145 = .ok (.iconst 0, 1) := by decide +kernel
theorem dX12_change_146 : decode cX12_change 146 = .ok (.goto 4, 3) := by decide +kernel
theorem dX12_change_149 : decode cX12_change 149 = .ok (.iconst 2, 1) := by decide +kernel
theorem dX12_change_150 : decode cX12_change 150 = .ok (.invokevirtual 202, 3) := by decide +kernel
theorem dX12_change_153 : decode cX12_change 153 = .ok (.ifCond .ne 5, 3) := by decide +kernel
theorem dX12_change_156 : decode cX12_change 156 = .ok (.iconst 0, 1) := by decide +kernel
theorem dX12_change_157 : decode cX12_change 157 = .ok (.ireturn, 1) := by decide +kernel
theorem dX12_change_158 : decode cX12_change 158 = .ok (.aload_n 0, 1) := by decide +kernel
theorem dX12_change_159 : decode cX12_change 159 = .ok (.getfield 113, 3) := by decide +kernel
theorem dX12_change_162 : decode cX12_change 162 = .ok (.iload_n 2, 1) := by decide +kernel
theorem dX12_change_163 : decode cX12_change 163 = .ok (.iload_n 1, 1) := by decide +kernel
theorem dX12_change_164 : decode cX12_change 164 = .ok (.iastore, 1) := by decide +kernel
theorem dX12_change_165 : decode cX12_change 165 = .ok (.aload_n 0, 1) := by decide +kernel
theorem dX12_change_166 : decode cX12_change 166 = .ok (.getfield 116, 3) := by decide +kernel
theorem dX12_change_169 : decode cX12_change 169 = .ok (.iload_n 2, 1) := by decide +kernel
theorem dX12_change_170 : decode cX12_change 170 = .ok (.iload_n 3, 1) := by decide +kernel
theorem dX12_change_171 : decode cX12_change 171 = .ok (.iastore, 1) := by decide +kernel
theorem dX12_change_172 : decode cX12_change 172 = .ok (.aload_n 0, 1) := by decide +kernel
theorem dX12_change_173 : decode cX12_change 173 = .ok (.getfield 119, 3) := by decide +kernel
theorem dX12_change_176 : decode cX12_change 176 = .ok (.iload_n 2, 1) := by decide +kernel
theorem dX12_change_177 : decode cX12_change 177 = .ok (.iload 4, 2) := by decide +kernel
theorem dX12_change_179 : decode cX12_change 179 = .ok (.iastore, 1) := by decide +kernel
theorem dX12_change_180 : decode cX12_change 180 = .ok (.iconst 0, 1) := by decide +kernel
theorem dX12_change_181 : decode cX12_change 181 = .ok (.istore 8, 2) := by decide +kernel
theorem dX12_change_183 : decode cX12_change 183 = .ok (.iconst 0, 1) := by decide +kernel
theorem dX12_change_184 : decode cX12_change 184 = .ok (.istore 9, 2) := by decide +kernel
theorem dX12_change_186 : decode cX12_change 186 = .ok (.iload 9, 2) := by decide +kernel
theorem dX12_change_188 : decode cX12_change 188 = .ok (.bipush 8, 2) := by decide +kernel
theorem dX12_change_190 : decode cX12_change 190 = .ok (.if_icmp .ge 30, 3) := by decide +kernel
theorem dX12_change_193 : decode cX12_change 193 = .ok (.iload 8, 2) := by decide +kernel
theorem dX12_change_195 : decode cX12_change 195 = .ok (.aload_n 0, 1) := by decide +kernel
theorem dX12_change_196 : decode cX12_change 196 = .ok (.getfield 113, 3) := by decide +kernel
theorem dX12_change_199 : decode cX12_change 199 = .ok (.iload 9, 2) := by decide +kernel
theorem dX12_change_201 : decode cX12_change 201 = .ok (.iaload, 1) := by decide +kernel
theorem dX12_change_202 : decode cX12_change 202 = .ok (.iconst (-1), 1) := by decide +kernel
theorem dX12_change_203 : decode cX12_change 203 = .ok (.if_icmp .ne 7, 3) := by decide +kernel
theorem dX12_change_206 : decode cX12_change 206 = .ok (.iconst 0, 1) := by decide +kernel
theorem dX12_change_207 : decode cX12_change 207 = .ok (.goto 4, 3) := by decide +kernel
theorem dX12_change_210 : decode cX12_change 210 = .ok (.iconst 1, 1) := by decide +kernel
theorem dX12_change_211 : decode cX12_change 211 = .ok (.iadd, 1) := by decide +kernel
theorem dX12_change_212 : decode cX12_change 212 = .ok (.istore 8, 2) := by decide +kernel
theorem dX12_change_214 : decode cX12_change 214 = .ok (.iinc 9 1, 3) := by decide +kernel
theorem dX12_change_217 : decode cX12_change 217 = .ok (.goto (-31), 3) := by decide +kernel
theorem dX12_change_220 : decode cX12_change 220 = .ok (.iload 8, 2) := by decide +kernel
theorem dX12_change_222 : decode cX12_change 222 = .ok (.ireturn, 1) := by decide +kernel
def is_X12_change (Rt : np_Rt) : List (Nat × np_Op) := [(0, np_ild 1 1), (1, np_push 1 (.int 1)), (2, nq_ic (fun x y => x = y) 9), (5, np_push 1 (.int 1)), (6, np_goto 10), (9, np_push 1 (.int 0)), (10, np_ist 2 5), (12, np_ild 1 2), (13, nq_call 1 sp_X12_isSlot 1 0 0 0 0), (16, nq_if (fun x => x = 0) 48), (19, np_ild 2 5), (21, nq_if (fun x => x = 0) 31), (24, np_ild 1 3), (25, nq_call 1 sp_X12_isSlot 1 0 0 0 0), (28, nq_if (fun x => x = 0) 48), (31, np_ild 1 1), (32, np_push 1 (.int 4)), (33, nq_icne 44), (36, np_ild 2 4), (38, nq_call 1 sp_X12_isSlot 1 0 0 0 0), (41, nq_if (fun x => x = 0) 48), (44, np_push 1 (.int 1)), (45, np_goto 49), (48, np_push 1 (.int 0)), (49, np_ist 2 6), (51, np_ild 1 1), (52, np_push 1 (.int 0)), (53, np_push 1 (.int 4)), (54, nq_call 3 sp_X12_isIn 3 0 0 0 0), (57, nq_if (fun x => x = 0) 127), (60, np_ild 1 1), (61, np_push 1 (.int 1)), (62, nq_icne 78), (65, np_ild 1 3), (66, np_push 3 (.int (-999))), (69, np_push 3 (.int 999)), (72, nq_call 3 sp_X12_isIn 3 0 0 0 0), (75, nq_if (fun x => x = 0) 127), (78, np_ild 1 1), (79, np_push 1 (.int 1)), (80, nq_ic (fun x y => y < x) 88), (83, np_ild 2 4), (85, nq_ifne 127), (88, np_ild 1 1), (89, np_push 1 (.int 2)), (90, nq_icne 107), (93, np_ild 2 4), (95, np_push 3 (.int (-999))), (98, np_push 3 (.int 999)), (101, nq_call 3 sp_X12_isIn 3 0 0 0 0), (104, nq_if (fun x => x = 0) 127), (107, np_ild 1 1), (108, np_push 1 (.int 3)), (109, nq_icne 123), (112, np_ild 2 4), (114, np_push 1 (.int 2)), (115, np_push 2 (.int 9)), (117, nq_call 3 sp_X12_isIn 3 0 0 0 0), (120, nq_if (fun x => x = 0) 127), (123, np_push 1 (.int 1)), (124, np_goto 128), (127, np_push 1 (.int 0)), (128, np_ist 2 7), (130, np_ald 1 0), (131, np_ild 2 6), (133, nq_ifne 140), (136, np_push 1 (.int 1)), (137, np_goto 150), (140, np_ild 2 7), (142, nq_if (fun x => x = 0) 149), (145, np_push 1 (.int 0)), (146, np_goto 150), (149, np_push 1 (.int 2)), (150, nq_callV 12 2 sp_X12_can 2 0 0 0 0), (153, nq_ifne 158), (156, np_push 1 (.int 0)), (157, np_ret Rt), (158, np_ald 1 0), (159, nq_getf 12 38), (162, np_ild 1 2), (163, np_ild 1 1), (164, nq_iastT .int), (165, np_ald 1 0), (166, nq_getf 12 39), (169, np_ild 1 2), (170, np_ild 1 3), (171, nq_iastT .int), (172, np_ald 1 0), (173, nq_getf 12 40), (176, np_ild 1 2), (177, np_ild 2 4), (179, nq_iastT .int), (180, np_push 1 (.int 0)), (181, np_ist 2 8), (183, np_push 1 (.int 0)), (184, np_ist 2 9), (186, np_ild 2 9), (188, np_push 2 (.int 8)), (190, nq_ic (fun x y => y ≤ x) 220), (193, np_ild 2 8), (195, np_ald 1 0), (196, nq_getf 12 38), (199, np_ild 2 9), (201, nq_ialdT .int), (202, np_push 1 (.int (-1))), (203, nq_icne 210), (206, np_push 1 (.int 0)), (207, np_goto 211), (210, np_push 1 (.int 1)), (211, np_ib (fun x y => x + y)), (212, np_ist 2 8), (214, np_iinc 9 1), (217, np_goto 186), (220, np_ild 2 8), (222, np_ret Rt)]
set_option maxRecDepth 20000 in
theorem so_X12_change {X : np_Ctx} {Rt : np_Rt} (hX : np_ok RX12 cX12_change 10 2 42 0 0 .ireturn X) (hR : ∀ st w ce sl, Rt st w ce sl → X.2.2.1 st w ce sl) : ∀ q ∈ is_X12_change Rt, np_S X q.1 q.2 :=
  List.forall_mem_cons.mpr ⟨np_s_iload_n hX dX12_change_0 rfl, List.forall_mem_cons.mpr ⟨np_s_iconst hX dX12_change_1 (by decide), List.forall_mem_cons.mpr ⟨np_S.mono (op := np_ic (fun x y => x = y) 9) (np_s_icmp_eq hX dX12_change_2 (by decide)) nq_ic_le, List.forall_mem_cons.mpr ⟨np_s_iconst hX dX12_change_5 (by decide), List.forall_mem_cons.mpr ⟨np_s_goto hX dX12_change_6 (by decide), List.forall_mem_cons.mpr ⟨np_s_iconst hX dX12_change_9 (by decide), List.forall_mem_cons.mpr ⟨np_s_istore hX dX12_change_10 (by decide), List.forall_mem_cons.mpr ⟨np_s_iload_n hX dX12_change_12 rfl, List.forall_mem_cons.mpr ⟨np_S.mono (op := np_call 1 sp_X12_isSlot 1 0 0 0 0) (np_s_callS hX C_X12_isSlot dX12_change_13 gw1883 gw142 gw1881 gw1882 ⟨by decide, by decide, by decide⟩ (by decide) (by decide)) nq_call_le, List.forall_mem_cons.mpr ⟨np_S.mono (op := np_if (fun x => x = 0) 48) (np_s_if_eq hX dX12_change_16 (by decide)) nq_if_le, List.forall_mem_cons.mpr ⟨np_s_iload hX dX12_change_19, List.forall_mem_cons.mpr ⟨np_S.mono (op := np_if (fun x => x = 0) 31) (np_s_if_eq hX dX12_change_21 (by decide)) nq_if_le, List.forall_mem_cons.mpr ⟨np_s_iload_n hX dX12_change_24 rfl, List.forall_mem_cons.mpr ⟨np_S.mono (op := np_call 1 sp_X12_isSlot 1 0 0 0 0) (np_s_callS hX C_X12_isSlot dX12_change_25 gw1883 gw142 gw1881 gw1882 ⟨by decide, by decide, by decide⟩ (by decide) (by decide)) nq_call_le, List.forall_mem_cons.mpr ⟨np_S.mono (op := np_if (fun x => x = 0) 48) (np_s_if_eq hX dX12_change_28 (by decide)) nq_if_le, List.forall_mem_cons.mpr ⟨np_s_iload_n hX dX12_change_31 rfl, List.forall_mem_cons.mpr ⟨np_s_iconst hX dX12_change_32 (by decide), List.forall_mem_cons.mpr ⟨np_S.mono (op := np_icne 44) (np_s_icmp_ne hX dX12_change_33 (by decide)) nq_icne_le, List.forall_mem_cons.mpr ⟨np_s_iload hX dX12_change_36, List.forall_mem_cons.mpr ⟨np_S.mono (op := np_call 1 sp_X12_isSlot 1 0 0 0 0) (np_s_callS hX C_X12_isSlot dX12_change_38 gw1883 gw142 gw1881 gw1882 ⟨by decide, by decide, by decide⟩ (by decide) (by decide)) nq_call_le, List.forall_mem_cons.mpr ⟨np_S.mono (op := np_if (fun x => x = 0) 48) (np_s_if_eq hX dX12_change_41 (by decide)) nq_if_le, List.forall_mem_cons.mpr ⟨np_s_iconst hX dX12_change_44 (by decide), List.forall_mem_cons.mpr ⟨np_s_goto hX dX12_change_45 (by decide), List.forall_mem_cons.mpr ⟨np_s_iconst hX dX12_change_48 (by decide), List.forall_mem_cons.mpr ⟨np_s_istore hX dX12_change_49 (by decide), List.forall_mem_cons.mpr ⟨np_s_iload_n hX dX12_change_51 rfl, List.forall_mem_cons.mpr ⟨np_s_iconst hX dX12_change_52 (by decide), List.forall_mem_cons.mpr ⟨np_s_iconst hX dX12_change_53 (by decide), List.forall_mem_cons.mpr ⟨np_S.mono (op := np_call 3 sp_X12_isIn 3 0 0 0 0) (np_s_callS hX C_X12_isIn dX12_change_54 gw1880 gw142 gw1878 gw1879 ⟨by decide, by decide, by decide⟩ (by decide) (by decide)) nq_call_le, List.forall_mem_cons.mpr ⟨np_S.mono (op := np_if (fun x => x = 0) 127) (np_s_if_eq hX dX12_change_57 (by decide)) nq_if_le, List.forall_mem_cons.mpr ⟨np_s_iload_n hX dX12_change_60 rfl, List.forall_mem_cons.mpr ⟨np_s_iconst hX dX12_change_61 (by decide), List.forall_mem_cons.mpr ⟨np_S.mono (op := np_icne 78) (np_s_icmp_ne hX dX12_change_62 (by decide)) nq_icne_le, List.forall_mem_cons.mpr ⟨np_s_iload_n hX dX12_change_65 rfl, List.forall_mem_cons.mpr ⟨np_s_sipush hX dX12_change_66 (by decide), List.forall_mem_cons.mpr ⟨np_s_sipush hX dX12_change_69 (by decide), List.forall_mem_cons.mpr ⟨np_S.mono (op := np_call 3 sp_X12_isIn 3 0 0 0 0) (np_s_callS hX C_X12_isIn dX12_change_72 gw1880 gw142 gw1878 gw1879 ⟨by decide, by decide, by decide⟩ (by decide) (by decide)) nq_call_le, List.forall_mem_cons.mpr ⟨np_S.mono (op := np_if (fun x => x = 0) 127) (np_s_if_eq hX dX12_change_75 (by decide)) nq_if_le, List.forall_mem_cons.mpr ⟨np_s_iload_n hX dX12_change_78 rfl, List.forall_mem_cons.mpr ⟨np_s_iconst hX dX12_change_79 (by decide), List.forall_mem_cons.mpr ⟨np_S.mono (op := np_ic (fun x y => y < x) 88) (np_s_icmp_gt hX dX12_change_80 (by decide)) nq_ic_le, List.forall_mem_cons.mpr ⟨np_s_iload hX dX12_change_83, List.forall_mem_cons.mpr ⟨np_S.mono (op := np_ifne 127) (np_s_if_ne hX dX12_change_85 (by decide)) nq_ifne_le, List.forall_mem_cons.mpr ⟨np_s_iload_n hX dX12_change_88 rfl, List.forall_mem_cons.mpr ⟨np_s_iconst hX dX12_change_89 (by decide), List.forall_mem_cons.mpr ⟨np_S.mono (op := np_icne 107) (np_s_icmp_ne hX dX12_change_90 (by decide)) nq_icne_le, List.forall_mem_cons.mpr ⟨np_s_iload hX dX12_change_93, List.forall_mem_cons.mpr ⟨np_s_sipush hX dX12_change_95 (by decide), List.forall_mem_cons.mpr ⟨np_s_sipush hX dX12_change_98 (by decide), List.forall_mem_cons.mpr ⟨np_S.mono (op := np_call 3 sp_X12_isIn 3 0 0 0 0) (np_s_callS hX C_X12_isIn dX12_change_101 gw1880 gw142 gw1878 gw1879 ⟨by decide, by decide, by decide⟩ (by decide) (by decide)) nq_call_le, List.forall_mem_cons.mpr ⟨np_S.mono (op := np_if (fun x => x = 0) 127) (np_s_if_eq hX dX12_change_104 (by decide)) nq_if_le, List.forall_mem_cons.mpr ⟨np_s_iload_n hX dX12_change_107 rfl, List.forall_mem_cons.mpr ⟨np_s_iconst hX dX12_change_108 (by decide), List.forall_mem_cons.mpr ⟨np_S.mono (op := np_icne 123) (np_s_icmp_ne hX dX12_change_109 (by decide)) nq_icne_le, List.forall_mem_cons.mpr ⟨np_s_iload hX dX12_change_112, List.forall_mem_cons.mpr ⟨np_s_iconst hX dX12_change_114 (by decide), List.forall_mem_cons.mpr ⟨np_s_bipush hX dX12_change_115 (by decide), List.forall_mem_cons.mpr ⟨np_S.mono (op := np_call 3 sp_X12_isIn 3 0 0 0 0) (np_s_callS hX C_X12_isIn dX12_change_117 gw1880 gw142 gw1878 gw1879 ⟨by decide, by decide, by decide⟩ (by decide) (by decide)) nq_call_le, List.forall_mem_cons.mpr ⟨np_S.mono (op := np_if (fun x => x = 0) 127) (np_s_if_eq hX dX12_change_120 (by decide)) nq_if_le, List.forall_mem_cons.mpr ⟨np_s_iconst hX dX12_change_123 (by decide), List.forall_mem_cons.mpr ⟨np_s_goto hX dX12_change_124 (by decide), List.forall_mem_cons.mpr ⟨np_s_iconst hX dX12_change_127 (by decide), List.forall_mem_cons.mpr ⟨np_s_istore hX dX12_change_128 (by decide), List.forall_mem_cons.mpr ⟨np_s_aload_n hX dX12_change_130 rfl, List.forall_mem_cons.mpr ⟨np_s_iload hX dX12_change_131, List.forall_mem_cons.mpr ⟨np_S.mono (op := np_ifne 140) (np_s_if_ne hX dX12_change_133 (by decide)) nq_ifne_le, List.forall_mem_cons.mpr ⟨np_s_iconst hX dX12_change_136 (by decide), List.forall_mem_cons.mpr ⟨np_s_goto hX dX12_change_137 (by decide), List.forall_mem_cons.mpr ⟨np_s_iload hX dX12_change_140, List.forall_mem_cons.mpr ⟨np_S.mono (op := np_if (fun x => x = 0) 149) (np_s_if_eq hX dX12_change_142 (by decide)) nq_if_le, List.forall_mem_cons.mpr ⟨np_s_iconst hX dX12_change_145 (by decide), List.forall_mem_cons.mpr ⟨np_s_goto hX dX12_change_146 (by decide), List.forall_mem_cons.mpr ⟨np_s_iconst hX dX12_change_149 (by decide), List.forall_mem_cons.mpr ⟨np_S.mono (op := np_callV 12 2 sp_X12_can 2 0 0 0 0) (np_s_callV hX C_X12_can dX12_change_150 (q := (RX12, TX12, 77)) rfl rfl gw1890 gw142 gw1887 gw1889 gw63 ⟨by decide, by decide, by decide⟩ (by decide) (by decide)) nq_callV_le, List.forall_mem_cons.mpr ⟨np_S.mono (op := np_ifne 158) (np_s_if_ne hX dX12_change_153 (by decide)) nq_ifne_le, List.forall_mem_cons.mpr ⟨np_s_iconst hX dX12_change_156 (by decide), List.forall_mem_cons.mpr ⟨np_S.mono (op := np_ret X.2.2.1) (np_s_ret hX dX12_change_157) (nq_ret_le hR), List.forall_mem_cons.mpr ⟨np_s_aload_n hX dX12_change_158 rfl, List.forall_mem_cons.mpr ⟨np_S.mono (op := np_getf 12 38) (np_s_getf hX dX12_change_159 (C := RX12) (T := TX12) (N := 77) rfl guX12 (by decide) gw1674) nq_getf_le, List.forall_mem_cons.mpr ⟨np_s_iload_n hX dX12_change_162 rfl, List.forall_mem_cons.mpr ⟨np_s_iload_n hX dX12_change_163 rfl, List.forall_mem_cons.mpr ⟨np_S.mono (op := np_iastT .int) (np_s_iast hX dX12_change_164) nq_iastT_le, List.forall_mem_cons.mpr ⟨np_s_aload_n hX dX12_change_165 rfl, List.forall_mem_cons.mpr ⟨np_S.mono (op := np_getf 12 39) (np_s_getf hX dX12_change_166 (C := RX12) (T := TX12) (N := 77) rfl guX12 (by decide) gw1675) nq_getf_le, List.forall_mem_cons.mpr ⟨np_s_iload_n hX dX12_change_169 rfl, List.forall_mem_cons.mpr ⟨np_s_iload_n hX dX12_change_170 rfl, List.forall_mem_cons.mpr ⟨np_S.mono (op := np_iastT .int) (np_s_iast hX dX12_change_171) nq_iastT_le, List.forall_mem_cons.mpr ⟨np_s_aload_n hX dX12_change_172 rfl, List.forall_mem_cons.mpr ⟨np_S.mono (op := np_getf 12 40) (np_s_getf hX dX12_change_173 (C := RX12) (T := TX12) (N := 77) rfl guX12 (by decide) gw1676) nq_getf_le, List.forall_mem_cons.mpr ⟨np_s_iload_n hX dX12_change_176 rfl, List.forall_mem_cons.mpr ⟨np_s_iload hX dX12_change_177, List.forall_mem_cons.mpr ⟨np_S.mono (op := np_iastT .int) (np_s_iast hX dX12_change_179) nq_iastT_le, List.forall_mem_cons.mpr ⟨np_s_iconst hX dX12_change_180 (by decide), List.forall_mem_cons.mpr ⟨np_s_istore hX dX12_change_181 (by decide), List.forall_mem_cons.mpr ⟨np_s_iconst hX dX12_change_183 (by decide), List.forall_mem_cons.mpr ⟨np_s_istore hX dX12_change_184 (by decide), List.forall_mem_cons.mpr ⟨np_s_iload hX dX12_change_186, List.forall_mem_cons.mpr ⟨np_s_bipush hX dX12_change_188 (by decide), List.forall_mem_cons.mpr ⟨np_S.mono (op := np_ic (fun x y => y ≤ x) 220) (np_s_icmp_ge hX dX12_change_190 (by decide)) nq_ic_le, List.forall_mem_cons.mpr ⟨np_s_iload hX dX12_change_193, List.forall_mem_cons.mpr ⟨np_s_aload_n hX dX12_change_195 rfl, List.forall_mem_cons.mpr ⟨np_S.mono (op := np_getf 12 38) (np_s_getf hX dX12_change_196 (C := RX12) (T := TX12) (N := 77) rfl guX12 (by decide) gw1674) nq_getf_le, List.forall_mem_cons.mpr ⟨np_s_iload hX dX12_change_199, List.forall_mem_cons.mpr ⟨np_S.mono (op := np_ialdT .int) (np_s_iald hX dX12_change_201) nq_ialdT_le, List.forall_mem_cons.mpr ⟨np_s_iconst hX dX12_change_202 (by decide), List.forall_mem_cons.mpr ⟨np_S.mono (op := np_icne 210) (np_s_icmp_ne hX dX12_change_203 (by decide)) nq_icne_le, List.forall_mem_cons.mpr ⟨np_s_iconst hX dX12_change_206 (by decide), List.forall_mem_cons.mpr ⟨np_s_goto hX dX12_change_207 (by decide), List.forall_mem_cons.mpr ⟨np_s_iconst hX dX12_change_210 (by decide), List.forall_mem_cons.mpr ⟨np_s_iadd hX dX12_change_211, List.forall_mem_cons.mpr ⟨np_s_istore hX dX12_change_212 (by decide), List.forall_mem_cons.mpr ⟨np_s_iinc hX dX12_change_214 (by decide), List.forall_mem_cons.mpr ⟨np_s_goto hX dX12_change_217 (by decide), List.forall_mem_cons.mpr ⟨np_s_iload hX dX12_change_220, List.forall_mem_cons.mpr ⟨np_S.mono (op := np_ret X.2.2.1) (np_s_ret hX dX12_change_222) (nq_ret_le hR), fun _ h => nomatch h⟩⟩⟩⟩⟩⟩⟩⟩⟩⟩⟩⟩⟩⟩⟩⟩⟩⟩⟩⟩⟩⟩⟩⟩⟩⟩⟩⟩⟩⟩⟩⟩⟩⟩⟩⟩⟩⟩⟩⟩⟩⟩⟩⟩⟩⟩⟩⟩⟩⟩⟩⟩⟩⟩⟩⟩⟩⟩⟩⟩⟩⟩⟩⟩⟩⟩⟩⟩⟩⟩⟩⟩⟩⟩⟩⟩⟩⟩⟩⟩⟩⟩⟩⟩⟩⟩⟩⟩⟩⟩⟩⟩⟩⟩⟩⟩⟩⟩⟩⟩⟩⟩⟩⟩⟩⟩⟩⟩⟩⟩⟩⟩⟩⟩⟩
abbrev sp_X12_change : np_Sp := nq_in is_X12_change (some .int) 0 0 400
theorem C_X12_change : np_C yX12_change cX12_change 10 (some .int) 2 42 0 0 sp_X12_change := nq_inC 400 (by decide) (fun X Rt hX hmn hR => so_X12_change hX hR)
theorem dX12_upgrade_0 : decode cX12_upgrade 0 = .ok (.aload_n 0, 1) := by decide +kernel
theorem dX12_upgrade_1 : decode cX12_upgrade 1 = .ok (.aload_n 0, 1) := by decide +kernel
theorem dX12_upgrade_2 : decode cX12_upgrade 2 = .ok (.getfield 462, 3) := by decide +kernel
theorem dX12_upgrade_5 : decode cX12_upgrade 5 = .ok (.bipush 8, 2) := by decide +kernel
theorem dX12_upgrade_7 : decode cX12_upgrade 7 = .ok (.if_icmp .ne 7, 3) := by decide +kernel
theorem dX12_upgrade_10 : decode cX12_upgrade 10 = .ok (.iconst 1, 1) := by decide +kernel
theorem dX12_upgrade_11 : decode cX12_upgrade 11 = .ok (.goto 4, 3) := by decide +kernel
theorem dX12_upgrade_14 : decode cX12_upgrade 14 = .ok (.iconst 0, 1) := by decide +kernel
theorem dX12_upgrade_15 : decode cX12_upgrade 15 = .ok (.invokevirtual 202, 3) := by decide +kernel
theorem dX12_upgrade_18 : decode cX12_upgrade 18 = .ok (.ifCond .ne 5, 3) := by decide +kernel
theorem dX12_upgrade_21 : decode cX12_upgrade 21 = .ok (.iconst 0, 1) := by decide +kernel
theorem dX12_upgrade_22 : decode cX12_upgrade 22 = .ok (.ireturn, 1) := by decide +kernel
theorem dX12_upgrade_23 : decode cX12_upgrade 23 = .ok (.aload_n 0, 1) := by decide +kernel
theorem dX12_upgrade_24 : decode cX12_upgrade 24 = .ok (.invokevirtual 465, 3) := by decide +kernel
theorem dX12_upgrade_27 : decode cX12_upgrade 27 = .ok (.iconst 0, 1) := by decide +kernel
theorem dX12_upgrade_28 : decode cX12_upgrade 28 = .ok (.istore_n 1, 1) := by decide +kernel
theorem dX12_upgrade_29 : decode cX12_upgrade 29 = .ok (.iload_n 1, 1) := by decide +kernel
theorem dX12_upgrade_30 : decode cX12_upgrade 30 = .ok (.bipush 8, 2) := by decide +kernel
theorem dX12_upgrade_32 : decode cX12_upgrade 32 = .ok (.if_icmp .ge 124, 3) := by decide +kernel
theorem dX12_upgrade_35 : decode cX12_upgrade 35 = .ok (.aload_n 0, 1) := by decide +kernel
theorem dX12_upgrade_36 : decode cX12_upgrade 36 = .ok (.getfield 113, 3) := by decide +kernel
theorem dX12_upgrade_39 : decode cX12_upgrade 39 = .ok (.iload_n 1, 1) := by decide +kernel
theorem dX12_upgrade_40 : decode cX12_upgrade 40 = .ok (.iaload, 1) := by decide +kernel
theorem dX12_upgrade_41 : decode cX12_upgrade 41 = .ok (.istore_n 2, 1) := by decide +kernel
theorem dX12_upgrade_42 : decode cX12_upgrade 42 = .ok (.aload_n 0, 1) := by decide +kernel
theorem dX12_upgrade_43 : decode cX12_upgrade 43 = .ok (.getfield 128, 3) := by decide +kernel
theorem dX12_upgrade_46 : decode cX12_upgrade 46 = .ok (.bipush 8, 2) := by decide +kernel
theorem dX12_upgrade_48 : decode cX12_upgrade 48 = .ok (.aload_n 0, 1) := by decide +kernel
theorem dX12_upgrade_49 : decode cX12_upgrade 49 = .ok (.getfield 462, 3) := by decide +kernel
theorem dX12_upgrade_52 : decode cX12_upgrade 52 = .ok (.imul, 1) := by decide +kernel
theorem dX12_upgrade_53 : decode cX12_upgrade 53 = .ok (.iload_n 1, 1) := by decide +kernel
theorem dX12_upgrade_54 : decode cX12_upgrade 54 = .ok (.iadd, 1) := by decide +kernel
theorem dX12_upgrade_55 : decode cX12_upgrade 55 = .ok (.aload_n 0, 1) := by decide +kernel
theorem dX12_upgrade_56 : decode cX12_upgrade 56 = .ok (.getfield 459, 3) := by decide +kernel
theorem dX12_upgrade_59 : decode cX12_upgrade 59 = .ok (.iastore, 1) := by decide +kernel
theorem dX12_upgrade_60 : decode cX12_upgrade 60 = .ok (.iload_n 2, 1) := by decide +kernel
theorem dX12_upgrade_61 : decode cX12_upgrade 61 = .ok (.iconst (-1), 1) := by decide +kernel
theorem dX12_upgrade_62 : decode cX12_upgrade 62 = .ok (.if_icmp .eq 55, 3) := by decide +kernel
theorem dX12_upgrade_65 : decode cX12_upgrade 65 = .ok (.aload_n 0, 1) := by decide +kernel
theorem dX12_upgrade_66 : decode cX12_upgrade 66 = .ok (.iload_n 2, 1) := by decide +kernel
theorem dX12_upgrade_67 : decode cX12_upgrade 67 = .ok (.iconst 1, 1) := by decide +kernel
theorem dX12_upgrade_68 : decode cX12_upgrade 68 = .ok (.if_icmp .ne 7, 3) := by decide +kernel
theorem dX12_upgrade_71 : decode cX12_upgrade 71 = .ok (.iconst 1, 1) := by decide +kernel
theorem dX12_upgrade_72 : decode cX12_upgrade 72 = .ok (.goto 4, 3) := by decide +kernel
theorem dX12_upgrade_75 : decode cX12_upgrade 75 = .ok (.iconst 0, 1) := by decide +kernel
theorem dX12_upgrade_76 : decode cX12_upgrade 76 = .ok (.aload_n 0, 1) := by decide +kernel
theorem dX12_upgrade_77 : decode cX12_upgrade 77 = .ok (.getfield 116, 3) := by decide +kernel
theorem dX12_upgrade_80 : decode cX12_upgrade 80 = .ok (.iload_n 1, 1) := by decide +kernel
theorem dX12_upgrade_81 : decode cX12_upgrade 81 = .ok (.iaload, 1) := by decide +kernel
theorem dX12_upgrade_82 : decode cX12_upgrade 82 = .ok (.invokevirtual 468, 3) := by decide +kernel
theorem dX12_upgrade_85 : decode cX12_upgrade 85 = .ok (.iload_n 2, 1) := by decide +kernel
theorem dX12_upgrade_86 : decode cX12_upgrade 86 = .ok (.iconst 4, 1) := by decide +kernel
theorem dX12_upgrade_87 : decode cX12_upgrade 87 = .ok (.if_icmp .ne 14, 3) := by decide +kernel
theorem dX12_upgrade_90 : decode cX12_upgrade 90 = .ok (.aload_n 0, 1) := by decide +kernel
theorem dX12_upgrade_91 : decode cX12_upgrade 91 = .ok (.iconst 0, 1) := by decide +kernel
theorem dX12_upgrade_92 : decode cX12_upgrade 92 = .ok (.aload_n 0, 1) := by decide +kernel
theorem dX12_upgrade_93 : decode cX12_upgrade 93 = .ok (.getfield 119, 3) := by decide +kernel
theorem dX12_upgrade_96 : decode cX12_upgrade 96 = .ok (.iload_n 1, 1) := by decide +kernel
theorem dX12_upgrade_97 : decode cX12_upgrade 97 = .ok (.iaload, 1) := by decide +kernel
theorem dX12_upgrade_98 : decode cX12_upgrade 98 = .ok (.invokevirtual 468, 3) := by decide +kernel
theorem dX12_upgrade_101 : decode cX12_upgrade 101 = .ok (.iload_n 2, 1) := by decide +kernel
theorem dX12_upgrade_102 : decode cX12_upgrade 102 = .ok (.iconst 1, 1) := by decide +kernel
theorem dX12_upgrade_103 : decode cX12_upgrade 103 = .ok (.if_icmp .le 14, 3) := by decide +kernel
theorem dX12_upgrade_106 : decode cX12_upgrade 106 = .ok (.aload_n 0, 1) := by decide +kernel
theorem dX12_upgrade_107 : decode cX12_upgrade 107 = .ok (.iload_n 2, 1) := by decide +kernel
theorem dX12_upgrade_108 : decode cX12_upgrade 108 = .ok (.aload_n 0, 1) := by decide +kernel
theorem dX12_upgrade_109 : decode cX12_upgrade 109 = .ok (.getfield 119, 3) := by decide +kernel
theorem dX12_upgrade_112 : decode cX12_upgrade 112 = .ok (.iload_n 1, 1) := by decide +kernel
theorem dX12_upgrade_113 : decode cX12_upgrade 113 = .ok (.iaload, 1) := by decide +kernel
theorem dX12_upgrade_114 : decode cX12_upgrade 114 = .ok (.invokevirtual 468, 3) := by decide +kernel
theorem dX12_upgrade_117 : decode cX12_upgrade 117 = .ok (.aload_n 0, 1) := by decide +kernel
theorem dX12_upgrade_118 : decode cX12_upgrade 118 = .ok (.getfield 131, 3) := by decide +kernel
theorem dX12_upgrade_121 : decode cX12_upgrade 121 = .ok (.bipush 8, 2) := by decide +kernel
theorem dX12_upgrade_123 : decode cX12_upgrade 123 = .ok (.aload_n 0, 1) := by decide +kernel
theorem dX12_upgrade_124 : decode cX12_upgrade 124 = .ok (.getfield 462, 3) := by decide +kernel
theorem dX12_upgrade_127 : decode cX12_upgrade 127 = .ok (.imul, 1) := by decide +kernel
theorem dX12_upgrade_128 : decode cX12_upgrade 128 = .ok (.iload_n 1, 1) := by decide +kernel
theorem dX12_upgrade_129 : decode cX12_upgrade 129 = .ok (.iadd, 1) := by decide +kernel
theorem dX12_upgrade_130 : decode cX12_upgrade 130 = .ok (.aload_n 0, 1) := by decide +kernel
theorem dX12_upgrade_131 : decode cX12_upgrade 131 = .ok (.getfield 459, 3) := by decide +kernel
theorem dX12_upgrade_134 : decode cX12_upgrade 134 = .ok (.aload_n 0, 1) := by decide +kernel
theorem dX12_upgrade_135 : decode cX12_upgrade 135 = .ok (.getfield 128, 3) := by decide +kernel
theorem dX12_upgrade_138 : decode cX12_upgrade 138 = .ok (.bipush 8, 2) := by decide +kernel
theorem dX12_upgrade_140 : decode cX12_upgrade 140 = .ok (.aload_n 0, 1) := by decide +kernel
theorem dX12_upgrade_141 : decode cX12_upgrade 141 = .ok (.getfield 462, 3) := by decide +kernel
theorem dX12_upgrade_144 : decode cX12_upgrade 144 = .ok (.imul, 1) := by decide +kernel
theorem dX12_upgrade_145 : decode cX12_upgrade 145 = .ok (.iload_n 1, 1) := by decide +kernel
theorem dX12_upgrade_146 : decode cX12_upgrade 146 = .ok (.iadd, 1) := by decide +kernel
theorem dX12_upgrade_147 : decode cX12_upgrade 147 = .ok (.iaload, 1) := by decide +kernel
theorem dX12_upgrade_148 : decode cX12_upgrade 148 = .ok (.isub, 1) := by decide +kernel
theorem dX12_upgrade_149 : decode cX12_upgrade 149 = .ok (.iastore, 1) := by decide +kernel
theorem dX12_upgrade_150 : decode cX12_upgrade 150 = .ok (.iinc 1 1, 3) := by decide +kernel
theorem dX12_upgrade_153 : decode cX12_upgrade 153 = .ok (.goto (-124), 3) := by decide +kernel
theorem dX12_upgrade_156 : decode cX12_upgrade 156 = .ok (.aload_n 0, 1) := by decide +kernel
theorem dX12_upgrade_157 : decode cX12_upgrade 157 = .ok (.invokevirtual 177, 3) := by decide +kernel
theorem dX12_upgrade_160 : decode cX12_upgrade 160 = .ok (.aload_n 0, 1) := by decide +kernel
theorem dX12_upgrade_161 : decode cX12_upgrade 161 = .ok (.dup, 1) := by decide +kernel
theorem dX12_upgrade_162 : decode cX12_upgrade 162 = .ok (.getfield 462, 3) := by decide +kernel
theorem dX12_upgrade_165 : decode cX12_upgrade 165 = .ok (.iconst 1, 1) := by decide +kernel
theorem dX12_upgrade_166 : decode cX12_upgrade 166 = .ok (.iadd, 1) := by decide +kernel
theorem dX12_upgrade_167 : decode cX12_upgrade 167 = .ok (.putfield 462, 3) := by decide +kernel
theorem dX12_upgrade_170 : decode cX12_upgrade 170 = .ok (.aload_n 0, 1) := by decide +kernel
theorem dX12_upgrade_171 : decode cX12_upgrade 171 = .ok (.getfield 462, 3) := by decide +kernel
theorem dX12_upgrade_174 : decode cX12_upgrade 174 = .ok (.iconst 1, 1) := by decide +kernel
theorem dX12_upgrade_175 : decode cX12_upgrade 175 = .ok (.isub, 1) := by decide +kernel
theorem dX12_upgrade_176 : decode cX12_upgrade 176 = .ok (.ireturn, 1) := by decide +kernel
def is_X12_upgrade (Rt : np_Rt) : List (Nat × np_Op) := [(0, np_ald 1 0), (1, np_ald 1 0), (2, nq_getf 12 41), (5, np_push 2 (.int 8)), (7, nq_icne 14), (10, np_push 1 (.int 1)), (11, np_goto 15), (14, np_push 1 (.int 0)), (15, nq_callV 12 2 sp_X12_can 2 0 0 0 0), (18, nq_ifne 23), (21, np_push 1 (.int 0)), (22, np_ret Rt), (23, np_ald 1 0), (24, nq_callV 12 1 sp_X12_clearsCodes 2 0 0 0 0), (27, np_push 1 (.int 0)), (28, np_ist 1 1), (29, np_ild 1 1), (30, np_push 2 (.int 8)), (32, nq_ic (fun x y => y ≤ x) 156), (35, np_ald 1 0), (36, nq_getf 12 38), (39, np_ild 1 1), (40, nq_ialdT .int), (41, np_ist 1 2), (42, np_ald 1 0), (43, nq_getf 12 44), (46, np_push 2 (.int 8)), (48, np_ald 1 0), (49, nq_getf 12 41), (52, np_ib (fun x y => x * y)), (53, np_ild 1 1), (54, np_ib (fun x y => x + y)), (55, np_ald 1 0), (56, nq_getf 12 46), (59, nq_iastT .int), (60, np_ild 1 2), (61, np_push 1 (.int (-1))), (62, nq_ic (fun x y => x = y) 117), (65, np_ald 1 0), (66, np_ild 1 2), (67, np_push 1 (.int 1)), (68, nq_icne 75), (71, np_push 1 (.int 1)), (72, np_goto 76), (75, np_push 1 (.int 0)), (76, np_ald 1 0), (77, nq_getf 12 39), (80, np_ild 1 1), (81, nq_ialdT .int), (85, np_ild 1 2), (86, np_push 1 (.int 4)), (87, nq_icne 101), (90, np_ald 1 0), (91, np_push 1 (.int 0)), (92, np_ald 1 0), (93, nq_getf 12 40), (96, np_ild 1 1), (97, nq_ialdT .int), (101, np_ild 1 2), (102, np_push 1 (.int 1)), (103, nq_ic (fun x y => x ≤ y) 117), (106, np_ald 1 0), (107, np_ild 1 2), (108, np_ald 1 0), (109, nq_getf 12 40), (112, np_ild 1 1), (113, nq_ialdT .int), (117, np_ald 1 0), (118, nq_getf 12 45), (121, np_push 2 (.int 8)), (123, np_ald 1 0), (124, nq_getf 12 41), (127, np_ib (fun x y => x * y)), (128, np_ild 1 1), (129, np_ib (fun x y => x + y)), (130, np_ald 1 0), (131, nq_getf 12 46), (134, np_ald 1 0), (135, nq_getf 12 44), (138, np_push 2 (.int 8)), (140, np_ald 1 0), (141, nq_getf 12 41), (144, np_ib (fun x y => x * y)), (145, np_ild 1 1), (146, np_ib (fun x y => x + y)), (147, nq_ialdT .int), (148, np_ib (fun x y => x - y)), (149, nq_iastT .int), (150, np_iinc 1 1), (153, np_goto 29), (156, np_ald 1 0), (157, nq_callV 12 1 sp_X12_dropsSteps 2 0 0 0 0), (160, np_ald 1 0), (161, nq_dup), (162, nq_getf 12 41), (165, np_push 1 (.int 1)), (166, np_ib (fun x y => x + y)), (167, nq_putf 12 41 (.int)), (170, np_ald 1 0), (171, nq_getf 12 41), (174, np_push 1 (.int 1)), (175, np_ib (fun x y => x - y)), (176, np_ret Rt)]
set_option maxRecDepth 20000 in
theorem so_X12_upgrade {X : np_Ctx} {Rt : np_Rt} (hX : np_ok RX12 cX12_upgrade 3 1 21 0 0 .ireturn X) (hR : ∀ st w ce sl, Rt st w ce sl → X.2.2.1 st w ce sl) : ∀ q ∈ is_X12_upgrade Rt, np_S X q.1 q.2 :=
  List.forall_mem_cons.mpr ⟨np_s_aload_n hX dX12_upgrade_0 rfl, List.forall_mem_cons.mpr ⟨np_s_aload_n hX dX12_upgrade_1 rfl, List.forall_mem_cons.mpr ⟨np_S.mono (op := np_getf 12 41) (np_s_getf hX dX12_upgrade_2 (C := RX12) (T := TX12) (N := 77) rfl guX12 (by decide) gw1677) nq_getf_le, List.forall_mem_cons.mpr ⟨np_s_bipush hX dX12_upgrade_5 (by decide), List.forall_mem_cons.mpr ⟨np_S.mono (op := np_icne 14) (np_s_icmp_ne hX dX12_upgrade_7 (by decide)) nq_icne_le, List.forall_mem_cons.mpr ⟨np_s_iconst hX dX12_upgrade_10 (by decide), List.forall_mem_cons.mpr ⟨np_s_goto hX dX12_upgrade_11 (by decide), List.forall_mem_cons.mpr ⟨np_s_iconst hX dX12_upgrade_14 (by decide), List.forall_mem_cons.mpr ⟨np_S.mono (op := np_callV 12 2 sp_X12_can 2 0 0 0 0) (np_s_callV hX C_X12_can dX12_upgrade_15 (q := (RX12, TX12, 77)) rfl rfl gw1890 gw142 gw1887 gw1889 gw63 ⟨by decide, by decide, by decide⟩ (by decide) (by decide)) nq_callV_le, List.forall_mem_cons.mpr ⟨np_S.mono (op := np_ifne 23) (np_s_if_ne hX dX12_upgrade_18 (by decide)) nq_ifne_le, List.forall_mem_cons.mpr ⟨np_s_iconst hX dX12_upgrade_21 (by decide), List.forall_mem_cons.mpr ⟨np_S.mono (op := np_ret X.2.2.1) (np_s_ret hX dX12_upgrade_22) (nq_ret_le hR), List.forall_mem_cons.mpr ⟨np_s_aload_n hX dX12_upgrade_23 rfl, List.forall_mem_cons.mpr ⟨np_S.mono (op := np_callV 12 1 sp_X12_clearsCodes 2 0 0 0 0) (np_s_callV hX C_X12_clearsCodes dX12_upgrade_24 (q := (RX12, TX12, 77)) rfl rfl gw2237 gw142 gw2234 gw2236 gw115 ⟨by decide, by decide, by decide⟩ (by decide) (by decide)) nq_callV_le, List.forall_mem_cons.mpr ⟨np_s_iconst hX dX12_upgrade_27 (by decide), List.forall_mem_cons.mpr ⟨np_s_istore_n hX dX12_upgrade_28 rfl (by decide), List.forall_mem_cons.mpr ⟨np_s_iload_n hX dX12_upgrade_29 rfl, List.forall_mem_cons.mpr ⟨np_s_bipush hX dX12_upgrade_30 (by decide), List.forall_mem_cons.mpr ⟨np_S.mono (op := np_ic (fun x y => y ≤ x) 156) (np_s_icmp_ge hX dX12_upgrade_32 (by decide)) nq_ic_le, List.forall_mem_cons.mpr ⟨np_s_aload_n hX dX12_upgrade_35 rfl, List.forall_mem_cons.mpr ⟨np_S.mono (op := np_getf 12 38) (np_s_getf hX dX12_upgrade_36 (C := RX12) (T := TX12) (N := 77) rfl guX12 (by decide) gw1674) nq_getf_le, List.forall_mem_cons.mpr ⟨np_s_iload_n hX dX12_upgrade_39 rfl, List.forall_mem_cons.mpr ⟨np_S.mono (op := np_ialdT .int) (np_s_iald hX dX12_upgrade_40) nq_ialdT_le, List.forall_mem_cons.mpr ⟨np_s_istore_n hX dX12_upgrade_41 rfl (by decide), List.forall_mem_cons.mpr ⟨np_s_aload_n hX dX12_upgrade_42 rfl, List.forall_mem_cons.mpr ⟨np_S.mono (op := np_getf 12 44) (np_s_getf hX dX12_upgrade_43 (C := RX12) (T := TX12) (N := 77) rfl guX12 (by decide) gw1680) nq_getf_le, List.forall_mem_cons.mpr ⟨np_s_bipush hX dX12_upgrade_46 (by decide), List.forall_mem_cons.mpr ⟨np_s_aload_n hX dX12_upgrade_48 rfl, List.forall_mem_cons.mpr ⟨np_S.mono (op := np_getf 12 41) (np_s_getf hX dX12_upgrade_49 (C := RX12) (T := TX12) (N := 77) rfl guX12 (by decide) gw1677) nq_getf_le, List.forall_mem_cons.mpr ⟨np_s_imul hX dX12_upgrade_52, List.forall_mem_cons.mpr ⟨np_s_iload_n hX dX12_upgrade_53 rfl, List.forall_mem_cons.mpr ⟨np_s_iadd hX dX12_upgrade_54, List.forall_mem_cons.mpr ⟨np_s_aload_n hX dX12_upgrade_55 rfl, List.forall_mem_cons.mpr ⟨np_S.mono (op := np_getf 12 46) (np_s_getf hX dX12_upgrade_56 (C := RX12) (T := TX12) (N := 77) rfl guX12 (by decide) gw1682) nq_getf_le, List.forall_mem_cons.mpr ⟨np_S.mono (op := np_iastT .int) (np_s_iast hX dX12_upgrade_59) nq_iastT_le, List.forall_mem_cons.mpr ⟨np_s_iload_n hX dX12_upgrade_60 rfl, List.forall_mem_cons.mpr ⟨np_s_iconst hX dX12_upgrade_61 (by decide), List.forall_mem_cons.mpr ⟨np_S.mono (op := np_ic (fun x y => x = y) 117) (np_s_icmp_eq hX dX12_upgrade_62 (by decide)) nq_ic_le, List.forall_mem_cons.mpr ⟨np_s_aload_n hX dX12_upgrade_65 rfl, List.forall_mem_cons.mpr ⟨np_s_iload_n hX dX12_upgrade_66 rfl, List.forall_mem_cons.mpr ⟨np_s_iconst hX dX12_upgrade_67 (by decide), List.forall_mem_cons.mpr ⟨np_S.mono (op := np_icne 75) (np_s_icmp_ne hX dX12_upgrade_68 (by decide)) nq_icne_le, List.forall_mem_cons.mpr ⟨np_s_iconst hX dX12_upgrade_71 (by decide), List.forall_mem_cons.mpr ⟨np_s_goto hX dX12_upgrade_72 (by decide), List.forall_mem_cons.mpr ⟨np_s_iconst hX dX12_upgrade_75 (by decide), List.forall_mem_cons.mpr ⟨np_s_aload_n hX dX12_upgrade_76 rfl, List.forall_mem_cons.mpr ⟨np_S.mono (op := np_getf 12 39) (np_s_getf hX dX12_upgrade_77 (C := RX12) (T := TX12) (N := 77) rfl guX12 (by decide) gw1675) nq_getf_le, List.forall_mem_cons.mpr ⟨np_s_iload_n hX dX12_upgrade_80 rfl, List.forall_mem_cons.mpr ⟨np_S.mono (op := np_ialdT .int) (np_s_iald hX dX12_upgrade_81) nq_ialdT_le, List.forall_mem_cons.mpr ⟨np_s_iload_n hX dX12_upgrade_85 rfl, List.forall_mem_cons.mpr ⟨np_s_iconst hX dX12_upgrade_86 (by decide), List.forall_mem_cons.mpr ⟨np_S.mono (op := np_icne 101) (np_s_icmp_ne hX dX12_upgrade_87 (by decide)) nq_icne_le, List.forall_mem_cons.mpr ⟨np_s_aload_n hX dX12_upgrade_90 rfl, List.forall_mem_cons.mpr ⟨np_s_iconst hX dX12_upgrade_91 (by decide), List.forall_mem_cons.mpr ⟨np_s_aload_n hX dX12_upgrade_92 rfl, List.forall_mem_cons.mpr ⟨np_S.mono (op := np_getf 12 40) (np_s_getf hX dX12_upgrade_93 (C := RX12) (T := TX12) (N := 77) rfl guX12 (by decide) gw1676) nq_getf_le, List.forall_mem_cons.mpr ⟨np_s_iload_n hX dX12_upgrade_96 rfl, List.forall_mem_cons.mpr ⟨np_S.mono (op := np_ialdT .int) (np_s_iald hX dX12_upgrade_97) nq_ialdT_le, List.forall_mem_cons.mpr ⟨np_s_iload_n hX dX12_upgrade_101 rfl, List.forall_mem_cons.mpr ⟨np_s_iconst hX dX12_upgrade_102 (by decide), List.forall_mem_cons.mpr ⟨np_S.mono (op := np_ic (fun x y => x ≤ y) 117) (np_s_icmp_le hX dX12_upgrade_103 (by decide)) nq_ic_le, List.forall_mem_cons.mpr ⟨np_s_aload_n hX dX12_upgrade_106 rfl, List.forall_mem_cons.mpr ⟨np_s_iload_n hX dX12_upgrade_107 rfl, List.forall_mem_cons.mpr ⟨np_s_aload_n hX dX12_upgrade_108 rfl, List.forall_mem_cons.mpr ⟨np_S.mono (op := np_getf 12 40) (np_s_getf hX dX12_upgrade_109 (C := RX12) (T := TX12) (N := 77) rfl guX12 (by decide) gw1676) nq_getf_le, List.forall_mem_cons.mpr ⟨np_s_iload_n hX dX12_upgrade_112 rfl, List.forall_mem_cons.mpr ⟨np_S.mono (op := np_ialdT .int) (np_s_iald hX dX12_upgrade_113) nq_ialdT_le, List.forall_mem_cons.mpr ⟨np_s_aload_n hX dX12_upgrade_117 rfl, List.forall_mem_cons.mpr ⟨np_S.mono (op := np_getf 12 45) (np_s_getf hX dX12_upgrade_118 (C := RX12) (T := TX12) (N := 77) rfl guX12 (by decide) gw1681) nq_getf_le, List.forall_mem_cons.mpr ⟨np_s_bipush hX dX12_upgrade_121 (by decide), List.forall_mem_cons.mpr ⟨np_s_aload_n hX dX12_upgrade_123 rfl, List.forall_mem_cons.mpr ⟨np_S.mono (op := np_getf 12 41) (np_s_getf hX dX12_upgrade_124 (C := RX12) (T := TX12) (N := 77) rfl guX12 (by decide) gw1677) nq_getf_le, List.forall_mem_cons.mpr ⟨np_s_imul hX dX12_upgrade_127, List.forall_mem_cons.mpr ⟨np_s_iload_n hX dX12_upgrade_128 rfl, List.forall_mem_cons.mpr ⟨np_s_iadd hX dX12_upgrade_129, List.forall_mem_cons.mpr ⟨np_s_aload_n hX dX12_upgrade_130 rfl, List.forall_mem_cons.mpr ⟨np_S.mono (op := np_getf 12 46) (np_s_getf hX dX12_upgrade_131 (C := RX12) (T := TX12) (N := 77) rfl guX12 (by decide) gw1682) nq_getf_le, List.forall_mem_cons.mpr ⟨np_s_aload_n hX dX12_upgrade_134 rfl, List.forall_mem_cons.mpr ⟨np_S.mono (op := np_getf 12 44) (np_s_getf hX dX12_upgrade_135 (C := RX12) (T := TX12) (N := 77) rfl guX12 (by decide) gw1680) nq_getf_le, List.forall_mem_cons.mpr ⟨np_s_bipush hX dX12_upgrade_138 (by decide), List.forall_mem_cons.mpr ⟨np_s_aload_n hX dX12_upgrade_140 rfl, List.forall_mem_cons.mpr ⟨np_S.mono (op := np_getf 12 41) (np_s_getf hX dX12_upgrade_141 (C := RX12) (T := TX12) (N := 77) rfl guX12 (by decide) gw1677) nq_getf_le, List.forall_mem_cons.mpr ⟨np_s_imul hX dX12_upgrade_144, List.forall_mem_cons.mpr ⟨np_s_iload_n hX dX12_upgrade_145 rfl, List.forall_mem_cons.mpr ⟨np_s_iadd hX dX12_upgrade_146, List.forall_mem_cons.mpr ⟨np_S.mono (op := np_ialdT .int) (np_s_iald hX dX12_upgrade_147) nq_ialdT_le, List.forall_mem_cons.mpr ⟨np_s_isub hX dX12_upgrade_148, List.forall_mem_cons.mpr ⟨np_S.mono (op := np_iastT .int) (np_s_iast hX dX12_upgrade_149) nq_iastT_le, List.forall_mem_cons.mpr ⟨np_s_iinc hX dX12_upgrade_150 (by decide), List.forall_mem_cons.mpr ⟨np_s_goto hX dX12_upgrade_153 (by decide), List.forall_mem_cons.mpr ⟨np_s_aload_n hX dX12_upgrade_156 rfl, List.forall_mem_cons.mpr ⟨np_S.mono (op := np_callV 12 1 sp_X12_dropsSteps 2 0 0 0 0) (np_s_callV hX C_X12_dropsSteps dX12_upgrade_157 (q := (RX12, TX12, 77)) rfl rfl gw1635 gw142 gw1632 gw1634 gw62 ⟨by decide, by decide, by decide⟩ (by decide) (by decide)) nq_callV_le, List.forall_mem_cons.mpr ⟨np_s_aload_n hX dX12_upgrade_160 rfl, List.forall_mem_cons.mpr ⟨np_S.mono (op := np_dup) (np_s_dup hX dX12_upgrade_161) nq_dup_le, List.forall_mem_cons.mpr ⟨np_S.mono (op := np_getf 12 41) (np_s_getf hX dX12_upgrade_162 (C := RX12) (T := TX12) (N := 77) rfl guX12 (by decide) gw1677) nq_getf_le, List.forall_mem_cons.mpr ⟨np_s_iconst hX dX12_upgrade_165 (by decide), List.forall_mem_cons.mpr ⟨np_s_iadd hX dX12_upgrade_166, List.forall_mem_cons.mpr ⟨np_S.mono (op := np_putf 12 41 (.int)) (np_s_putf hX dX12_upgrade_167 (C := RX12) (T := TX12) (N := 77) (ty0 := tyX12) rfl guX12 tyX12_ok nmX12 (by decide) gw1677 rfl rfl) nq_putf_le, List.forall_mem_cons.mpr ⟨np_s_aload_n hX dX12_upgrade_170 rfl, List.forall_mem_cons.mpr ⟨np_S.mono (op := np_getf 12 41) (np_s_getf hX dX12_upgrade_171 (C := RX12) (T := TX12) (N := 77) rfl guX12 (by decide) gw1677) nq_getf_le, List.forall_mem_cons.mpr ⟨np_s_iconst hX dX12_upgrade_174 (by decide), List.forall_mem_cons.mpr ⟨np_s_isub hX dX12_upgrade_175, List.forall_mem_cons.mpr ⟨np_S.mono (op := np_ret X.2.2.1) (np_s_ret hX dX12_upgrade_176) (nq_ret_le hR), fun _ h => nomatch h⟩⟩⟩⟩⟩⟩⟩⟩⟩⟩⟩⟩⟩⟩⟩⟩⟩⟩⟩⟩⟩⟩⟩⟩⟩⟩⟩⟩⟩⟩⟩⟩⟩⟩⟩⟩⟩⟩⟩⟩⟩⟩⟩⟩⟩⟩⟩⟩⟩⟩⟩⟩⟩⟩⟩⟩⟩⟩⟩⟩⟩⟩⟩⟩⟩⟩⟩⟩⟩⟩⟩⟩⟩⟩⟩⟩⟩⟩⟩⟩⟩⟩⟩⟩⟩⟩⟩⟩⟩⟩⟩⟩⟩⟩⟩⟩⟩⟩⟩⟩⟩⟩⟩
abbrev sp_X12_upgrade : np_Sp := nq_in is_X12_upgrade (some .int) 0 0 400
theorem C_X12_upgrade : np_C yX12_upgrade cX12_upgrade 3 (some .int) 1 21 0 0 sp_X12_upgrade := nq_inC 400 (by decide) (fun X Rt hX hmn hR => so_X12_upgrade hX hR)
theorem dX12_compose_0 : decode cX12_compose 0 = .ok (.aload_n 0, 1) := by decide +kernel
theorem dX12_compose_1 : decode cX12_compose 1 = .ok (.aload_n 0, 1) := by decide +kernel
theorem dX12_compose_2 : decode cX12_compose 2 = .ok (.iload_n 1, 1) := by decide +kernel
theorem dX12_compose_3 : decode cX12_compose 3 = .ok (.invokevirtual 471, 3) := by decide +kernel
theorem dX12_compose_6 : decode cX12_compose 6 = .ok (.ifCond .eq 11, 3) := by decide +kernel
theorem dX12_compose_9 : decode cX12_compose 9 = .ok (.aload_n 0, 1) := by decide +kernel
theorem dX12_compose_10 : decode cX12_compose 10 = .ok (.iload_n 2, 1) := by decide +kernel
theorem dX12_compose_11 : decode cX12_compose 11 = .ok (.invokevirtual 471, 3) := by decide +kernel
theorem dX12_compose_14 : decode cX12_compose 14 = .ok (.ifCond .ne 7, 3) := by decide +kernel
theorem dX12_compose_17 : decode cX12_compose 17 = .ok (.iconst 1, 1) := by decide +kernel
theorem dX12_compose_18 : decode cX12_compose 18 = .ok (.goto 17, 3) := by decide +kernel
theorem dX12_compose_21 : decode cX12_compose 21 = .ok (.aload_n 0, 1) := by decide +kernel
theorem dX12_compose_22 : decode cX12_compose 22 = .ok (.getfield 462, 3) := by decide +kernel
theorem dX12_compose_25 : decode cX12_compose 25 = .ok (.bipush 8, 2) := by decide +kernel
theorem dX12_compose_27 : decode cX12_compose 27 = .ok (.if_icmp .ne 7, 3) := by decide +kernel
theorem dX12_compose_30 : decode cX12_compose 30 = .ok (.iconst 2, 1) := by decide +kernel
theorem dX12_compose_31 : decode cX12_compose 31 = .ok (.goto 4, 3) := by decide +kernel
theorem dX12_compose_34 : decode cX12_compose 34 = .ok (.iconst 0, 1) := by decide +kernel
theorem dX12_compose_35 : decode cX12_compose 35 = .ok (.invokevirtual 202, 3) := by decide +kernel
theorem dX12_compose_38 : decode cX12_compose 38 = .ok (.ifCond .ne 5, 3) := by decide +kernel
theorem dX12_compose_41 : decode cX12_compose 41 = .ok (.iconst 0, 1) := by decide +kernel
theorem dX12_compose_42 : decode cX12_compose 42 = .ok (.ireturn, 1) := by decide +kernel
theorem dX12_compose_43 : decode cX12_compose 43 = .ok (.aload_n 0, 1) := by decide +kernel
theorem dX12_compose_44 : decode cX12_compose 44 = .ok (.invokevirtual 465, 3) := by decide +kernel
theorem dX12_compose_47 : decode cX12_compose 47 = .ok (.iconst 0, 1) := by decide +kernel
theorem dX12_compose_48 : decode cX12_compose 48 = .ok (.istore_n 3, 1) := by decide +kernel
theorem dX12_compose_49 : decode cX12_compose 49 = .ok (.iload_n 3, 1) := by decide +kernel
theorem dX12_compose_50 : decode cX12_compose 50 = .ok (.bipush 8, 2) := by decide +kernel
theorem dX12_compose_52 : decode cX12_compose 52 = .ok (.if_icmp .ge 75, 3) := by decide +kernel
theorem dX12_compose_55 : decode cX12_compose 55 = .ok (.bipush 8, 2) := by decide +kernel
theorem dX12_compose_57 : decode cX12_compose 57 = .ok (.aload_n 0, 1) := by decide +kernel
theorem dX12_compose_58 : decode cX12_compose 58 = .ok (.getfield 462, 3) := by decide +kernel
theorem dX12_compose_61 : decode cX12_compose 61 = .ok (.imul, 1) := by decide +kernel
theorem dX12_compose_62 : decode cX12_compose 62 = .ok (.iload_n 3, 1) := by decide +kernel
theorem dX12_compose_63 : decode cX12_compose 63 = .ok (.iadd, 1) := by decide +kernel
theorem dX12_compose_64 : decode cX12_compose 64 = .ok (.istore 4, 2) := by decide +kernel
theorem dX12_compose_66 : decode cX12_compose 66 = .ok (.aload_n 0, 1) := by decide +kernel
theorem dX12_compose_67 : decode cX12_compose 67 = .ok (.getfield 128, 3) := by decide +kernel
theorem dX12_compose_70 : decode cX12_compose 70 = .ok (.iload 4, 2) := by decide +kernel
theorem dX12_compose_72 : decode cX12_compose 72 = .ok (.aload_n 0, 1) := by decide +kernel
theorem dX12_compose_73 : decode cX12_compose 73 = .ok (.getfield 459, 3) := by decide +kernel
theorem dX12_compose_76 : decode cX12_compose 76 = .ok (.iastore, 1) := by decide +kernel
theorem dX12_compose_77 : decode cX12_compose 77 = .ok (.aload_n 0, 1) := by decide +kernel
theorem dX12_compose_78 : decode cX12_compose 78 = .ok (.iload_n 1, 1) := by decide +kernel
theorem dX12_compose_79 : decode cX12_compose 79 = .ok (.bipush 8, 2) := by decide +kernel
theorem dX12_compose_81 : decode cX12_compose 81 = .ok (.iload_n 2, 1) := by decide +kernel
theorem dX12_compose_82 : decode cX12_compose 82 = .ok (.imul, 1) := by decide +kernel
theorem dX12_compose_83 : decode cX12_compose 83 = .ok (.iload_n 3, 1) := by decide +kernel
theorem dX12_compose_84 : decode cX12_compose 84 = .ok (.iadd, 1) := by decide +kernel
theorem dX12_compose_85 : decode cX12_compose 85 = .ok (.invokevirtual 474, 3) := by decide +kernel
theorem dX12_compose_88 : decode cX12_compose 88 = .ok (.ifCond .eq 14, 3) := by decide +kernel
theorem dX12_compose_91 : decode cX12_compose 91 = .ok (.aload_n 0, 1) := by decide +kernel
theorem dX12_compose_92 : decode cX12_compose 92 = .ok (.iload_n 1, 1) := by decide +kernel
theorem dX12_compose_93 : decode cX12_compose 93 = .ok (.bipush 8, 2) := by decide +kernel
theorem dX12_compose_95 : decode cX12_compose 95 = .ok (.iload_n 2, 1) := by decide +kernel
theorem dX12_compose_96 : decode cX12_compose 96 = .ok (.imul, 1) := by decide +kernel
theorem dX12_compose_97 : decode cX12_compose 97 = .ok (.iload_n 3, 1) := by decide +kernel
theorem dX12_compose_98 : decode cX12_compose 98 = .ok (.iadd, 1) := by decide +kernel
theorem dX12_compose_99 : decode cX12_compose 99 = .ok (.invokevirtual 477, 3) := by decide +kernel
theorem dX12_compose_102 : decode cX12_compose 102 = .ok (.aload_n 0, 1) := by decide +kernel
theorem dX12_compose_103 : decode cX12_compose 103 = .ok (.getfield 131, 3) := by decide +kernel
theorem dX12_compose_106 : decode cX12_compose 106 = .ok (.iload 4, 2) := by decide +kernel
theorem dX12_compose_108 : decode cX12_compose 108 = .ok (.aload_n 0, 1) := by decide +kernel
theorem dX12_compose_109 : decode cX12_compose 109 = .ok (.getfield 459, 3) := by decide +kernel
theorem dX12_compose_112 : decode cX12_compose 112 = .ok (.aload_n 0, 1) := by decide +kernel
theorem dX12_compose_113 : decode cX12_compose 113 = .ok (.getfield 128, 3) := by decide +kernel
theorem dX12_compose_116 : decode cX12_compose 116 = .ok (.iload 4, 2) := by decide +kernel
theorem dX12_compose_118 : decode cX12_compose 118 = .ok (.iaload, 1) := by decide +kernel
theorem dX12_compose_119 : decode cX12_compose 119 = .ok (.isub, 1) := by decide +kernel
theorem dX12_compose_120 : decode cX12_compose 120 = .ok (.iastore, 1) := by decide +kernel
theorem dX12_compose_121 : decode cX12_compose 121 = .ok (.iinc 3 1, 3) := by decide +kernel
theorem dX12_compose_124 : decode cX12_compose 124 = .ok (.goto (-75), 3) := by decide +kernel
theorem dX12_compose_127 : decode cX12_compose 127 = .ok (.aload_n 0, 1) := by decide +kernel
theorem dX12_compose_128 : decode cX12_compose 128 = .ok (.invokevirtual 480, 3) := by decide +kernel
theorem dX12_compose_131 : decode cX12_compose 131 = .ok (.ireturn, 1) := by decide +kernel
def is_X12_compose (Rt : np_Rt) : List (Nat × np_Op) := [(0, np_ald 1 0), (1, np_ald 1 0), (2, np_ild 1 1), (3, nq_callV 12 2 sp_X12_isUpgrade 2 0 0 0 0), (6, nq_if (fun x => x = 0) 17), (9, np_ald 1 0), (10, np_ild 1 2), (11, nq_callV 12 2 sp_X12_isUpgrade 2 0 0 0 0), (14, nq_ifne 21), (17, np_push 1 (.int 1)), (18, np_goto 35), (21, np_ald 1 0), (22, nq_getf 12 41), (25, np_push 2 (.int 8)), (27, nq_icne 34), (30, np_push 1 (.int 2)), (31, np_goto 35), (34, np_push 1 (.int 0)), (35, nq_callV 12 2 sp_X12_can 2 0 0 0 0), (38, nq_ifne 43), (41, np_push 1 (.int 0)), (42, np_ret Rt), (43, np_ald 1 0), (44, nq_callV 12 1 sp_X12_clearsCodes 2 0 0 0 0), (47, np_push 1 (.int 0)), (48, np_ist 1 3), (49, np_ild 1 3), (50, np_push 2 (.int 8)), (52, nq_ic (fun x y => y ≤ x) 127), (55, np_push 2 (.int 8)), (57, np_ald 1 0), (58, nq_getf 12 41), (61, np_ib (fun x y => x * y)), (62, np_ild 1 3), (63, np_ib (fun x y => x + y)), (64, np_ist 2 4), (66, np_ald 1 0), (67, nq_getf 12 44), (70, np_ild 2 4), (72, np_ald 1 0), (73, nq_getf 12 46), (76, nq_iastT .int), (77, np_ald 1 0), (78, np_ild 1 1), (79, np_push 2 (.int 8)), (81, np_ild 1 2), (82, np_ib (fun x y => x * y)), (83, np_ild 1 3), (84, np_ib (fun x y => x + y)), (88, nq_if (fun x => x = 0) 102), (91, np_ald 1 0), (92, np_ild 1 1), (93, np_push 2 (.int 8)), (95, np_ild 1 2), (96, np_ib (fun x y => x * y)), (97, np_ild 1 3), (98, np_ib (fun x y => x + y)), (102, np_ald 1 0), (103, nq_getf 12 45), (106, np_ild 2 4), (108, np_ald 1 0), (109, nq_getf 12 46), (112, np_ald 1 0), (113, nq_getf 12 44), (116, np_ild 2 4), (118, nq_ialdT .int), (119, np_ib (fun x y => x - y)), (120, nq_iastT .int), (121, np_iinc 3 1), (124, np_goto 49), (127, np_ald 1 0), (131, np_ret Rt)]
set_option maxRecDepth 20000 in
theorem so_X12_compose {X : np_Ctx} {Rt : np_Rt} (hX : np_ok RX12 cX12_compose 5 2 43 0 0 .ireturn X) (hR : ∀ st w ce sl, Rt st w ce sl → X.2.2.1 st w ce sl) : ∀ q ∈ is_X12_compose Rt, np_S X q.1 q.2 :=
  List.forall_mem_cons.mpr ⟨np_s_aload_n hX dX12_compose_0 rfl, List.forall_mem_cons.mpr ⟨np_s_aload_n hX dX12_compose_1 rfl, List.forall_mem_cons.mpr ⟨np_s_iload_n hX dX12_compose_2 rfl, List.forall_mem_cons.mpr ⟨np_S.mono (op := np_callV 12 2 sp_X12_isUpgrade 2 0 0 0 0) (np_s_callV hX C_X12_isUpgrade dX12_compose_3 (q := (RX12, TX12, 77)) rfl rfl gw2249 gw142 gw2246 gw2248 gw117 ⟨by decide, by decide, by decide⟩ (by decide) (by decide)) nq_callV_le, List.forall_mem_cons.mpr ⟨np_S.mono (op := np_if (fun x => x = 0) 17) (np_s_if_eq hX dX12_compose_6 (by decide)) nq_if_le, List.forall_mem_cons.mpr ⟨np_s_aload_n hX dX12_compose_9 rfl, List.forall_mem_cons.mpr ⟨np_s_iload_n hX dX12_compose_10 rfl, List.forall_mem_cons.mpr ⟨np_S.mono (op := np_callV 12 2 sp_X12_isUpgrade 2 0 0 0 0) (np_s_callV hX C_X12_isUpgrade dX12_compose_11 (q := (RX12, TX12, 77)) rfl rfl gw2249 gw142 gw2246 gw2248 gw117 ⟨by decide, by decide, by decide⟩ (by decide) (by decide)) nq_callV_le, List.forall_mem_cons.mpr ⟨np_S.mono (op := np_ifne 21) (np_s_if_ne hX dX12_compose_14 (by decide)) nq_ifne_le, List.forall_mem_cons.mpr ⟨np_s_iconst hX dX12_compose_17 (by decide), List.forall_mem_cons.mpr ⟨np_s_goto hX dX12_compose_18 (by decide), List.forall_mem_cons.mpr ⟨np_s_aload_n hX dX12_compose_21 rfl, List.forall_mem_cons.mpr ⟨np_S.mono (op := np_getf 12 41) (np_s_getf hX dX12_compose_22 (C := RX12) (T := TX12) (N := 77) rfl guX12 (by decide) gw1677) nq_getf_le, List.forall_mem_cons.mpr ⟨np_s_bipush hX dX12_compose_25 (by decide), List.forall_mem_cons.mpr ⟨np_S.mono (op := np_icne 34) (np_s_icmp_ne hX dX12_compose_27 (by decide)) nq_icne_le, List.forall_mem_cons.mpr ⟨np_s_iconst hX dX12_compose_30 (by decide), List.forall_mem_cons.mpr ⟨np_s_goto hX dX12_compose_31 (by decide), List.forall_mem_cons.mpr ⟨np_s_iconst hX dX12_compose_34 (by decide), List.forall_mem_cons.mpr ⟨np_S.mono (op := np_callV 12 2 sp_X12_can 2 0 0 0 0) (np_s_callV hX C_X12_can dX12_compose_35 (q := (RX12, TX12, 77)) rfl rfl gw1890 gw142 gw1887 gw1889 gw63 ⟨by decide, by decide, by decide⟩ (by decide) (by decide)) nq_callV_le, List.forall_mem_cons.mpr ⟨np_S.mono (op := np_ifne 43) (np_s_if_ne hX dX12_compose_38 (by decide)) nq_ifne_le, List.forall_mem_cons.mpr ⟨np_s_iconst hX dX12_compose_41 (by decide), List.forall_mem_cons.mpr ⟨np_S.mono (op := np_ret X.2.2.1) (np_s_ret hX dX12_compose_42) (nq_ret_le hR), List.forall_mem_cons.mpr ⟨np_s_aload_n hX dX12_compose_43 rfl, List.forall_mem_cons.mpr ⟨np_S.mono (op := np_callV 12 1 sp_X12_clearsCodes 2 0 0 0 0) (np_s_callV hX C_X12_clearsCodes dX12_compose_44 (q := (RX12, TX12, 77)) rfl rfl gw2237 gw142 gw2234 gw2236 gw115 ⟨by decide, by decide, by decide⟩ (by decide) (by decide)) nq_callV_le, List.forall_mem_cons.mpr ⟨np_s_iconst hX dX12_compose_47 (by decide), List.forall_mem_cons.mpr ⟨np_s_istore_n hX dX12_compose_48 rfl (by decide), List.forall_mem_cons.mpr ⟨np_s_iload_n hX dX12_compose_49 rfl, List.forall_mem_cons.mpr ⟨np_s_bipush hX dX12_compose_50 (by decide), List.forall_mem_cons.mpr ⟨np_S.mono (op := np_ic (fun x y => y ≤ x) 127) (np_s_icmp_ge hX dX12_compose_52 (by decide)) nq_ic_le, List.forall_mem_cons.mpr ⟨np_s_bipush hX dX12_compose_55 (by decide), List.forall_mem_cons.mpr ⟨np_s_aload_n hX dX12_compose_57 rfl, List.forall_mem_cons.mpr ⟨np_S.mono (op := np_getf 12 41) (np_s_getf hX dX12_compose_58 (C := RX12) (T := TX12) (N := 77) rfl guX12 (by decide) gw1677) nq_getf_le, List.forall_mem_cons.mpr ⟨np_s_imul hX dX12_compose_61, List.forall_mem_cons.mpr ⟨np_s_iload_n hX dX12_compose_62 rfl, List.forall_mem_cons.mpr ⟨np_s_iadd hX dX12_compose_63, List.forall_mem_cons.mpr ⟨np_s_istore hX dX12_compose_64 (by decide), List.forall_mem_cons.mpr ⟨np_s_aload_n hX dX12_compose_66 rfl, List.forall_mem_cons.mpr ⟨np_S.mono (op := np_getf 12 44) (np_s_getf hX dX12_compose_67 (C := RX12) (T := TX12) (N := 77) rfl guX12 (by decide) gw1680) nq_getf_le, List.forall_mem_cons.mpr ⟨np_s_iload hX dX12_compose_70, List.forall_mem_cons.mpr ⟨np_s_aload_n hX dX12_compose_72 rfl, List.forall_mem_cons.mpr ⟨np_S.mono (op := np_getf 12 46) (np_s_getf hX dX12_compose_73 (C := RX12) (T := TX12) (N := 77) rfl guX12 (by decide) gw1682) nq_getf_le, List.forall_mem_cons.mpr ⟨np_S.mono (op := np_iastT .int) (np_s_iast hX dX12_compose_76) nq_iastT_le, List.forall_mem_cons.mpr ⟨np_s_aload_n hX dX12_compose_77 rfl, List.forall_mem_cons.mpr ⟨np_s_iload_n hX dX12_compose_78 rfl, List.forall_mem_cons.mpr ⟨np_s_bipush hX dX12_compose_79 (by decide), List.forall_mem_cons.mpr ⟨np_s_iload_n hX dX12_compose_81 rfl, List.forall_mem_cons.mpr ⟨np_s_imul hX dX12_compose_82, List.forall_mem_cons.mpr ⟨np_s_iload_n hX dX12_compose_83 rfl, List.forall_mem_cons.mpr ⟨np_s_iadd hX dX12_compose_84, List.forall_mem_cons.mpr ⟨np_S.mono (op := np_if (fun x => x = 0) 102) (np_s_if_eq hX dX12_compose_88 (by decide)) nq_if_le, List.forall_mem_cons.mpr ⟨np_s_aload_n hX dX12_compose_91 rfl, List.forall_mem_cons.mpr ⟨np_s_iload_n hX dX12_compose_92 rfl, List.forall_mem_cons.mpr ⟨np_s_bipush hX dX12_compose_93 (by decide), List.forall_mem_cons.mpr ⟨np_s_iload_n hX dX12_compose_95 rfl, List.forall_mem_cons.mpr ⟨np_s_imul hX dX12_compose_96, List.forall_mem_cons.mpr ⟨np_s_iload_n hX dX12_compose_97 rfl, List.forall_mem_cons.mpr ⟨np_s_iadd hX dX12_compose_98, List.forall_mem_cons.mpr ⟨np_s_aload_n hX dX12_compose_102 rfl, List.forall_mem_cons.mpr ⟨np_S.mono (op := np_getf 12 45) (np_s_getf hX dX12_compose_103 (C := RX12) (T := TX12) (N := 77) rfl guX12 (by decide) gw1681) nq_getf_le, List.forall_mem_cons.mpr ⟨np_s_iload hX dX12_compose_106, List.forall_mem_cons.mpr ⟨np_s_aload_n hX dX12_compose_108 rfl, List.forall_mem_cons.mpr ⟨np_S.mono (op := np_getf 12 46) (np_s_getf hX dX12_compose_109 (C := RX12) (T := TX12) (N := 77) rfl guX12 (by decide) gw1682) nq_getf_le, List.forall_mem_cons.mpr ⟨np_s_aload_n hX dX12_compose_112 rfl, List.forall_mem_cons.mpr ⟨np_S.mono (op := np_getf 12 44) (np_s_getf hX dX12_compose_113 (C := RX12) (T := TX12) (N := 77) rfl guX12 (by decide) gw1680) nq_getf_le, List.forall_mem_cons.mpr ⟨np_s_iload hX dX12_compose_116, List.forall_mem_cons.mpr ⟨np_S.mono (op := np_ialdT .int) (np_s_iald hX dX12_compose_118) nq_ialdT_le, List.forall_mem_cons.mpr ⟨np_s_isub hX dX12_compose_119, List.forall_mem_cons.mpr ⟨np_S.mono (op := np_iastT .int) (np_s_iast hX dX12_compose_120) nq_iastT_le, List.forall_mem_cons.mpr ⟨np_s_iinc hX dX12_compose_121 (by decide), List.forall_mem_cons.mpr ⟨np_s_goto hX dX12_compose_124 (by decide), List.forall_mem_cons.mpr ⟨np_s_aload_n hX dX12_compose_127 rfl, List.forall_mem_cons.mpr ⟨np_S.mono (op := np_ret X.2.2.1) (np_s_ret hX dX12_compose_131) (nq_ret_le hR), fun _ h => nomatch h⟩⟩⟩⟩⟩⟩⟩⟩⟩⟩⟩⟩⟩⟩⟩⟩⟩⟩⟩⟩⟩⟩⟩⟩⟩⟩⟩⟩⟩⟩⟩⟩⟩⟩⟩⟩⟩⟩⟩⟩⟩⟩⟩⟩⟩⟩⟩⟩⟩⟩⟩⟩⟩⟩⟩⟩⟩⟩⟩⟩⟩⟩⟩⟩⟩⟩⟩⟩⟩⟩⟩⟩
abbrev sp_X12_compose : np_Sp := nq_in is_X12_compose (some .int) 0 0 400
theorem C_X12_compose : np_C yX12_compose cX12_compose 5 (some .int) 2 43 0 0 sp_X12_compose := nq_inC 400 (by decide) (fun X Rt hX hmn hR => so_X12_compose hX hR)
theorem dX12_reverse_0 : decode cX12_reverse 0 = .ok (.aload_n 0, 1) := by decide +kernel
theorem dX12_reverse_1 : decode cX12_reverse 1 = .ok (.aload_n 0, 1) := by decide +kernel
theorem dX12_reverse_2 : decode cX12_reverse 2 = .ok (.iload_n 1, 1) := by decide +kernel
theorem dX12_reverse_3 : decode cX12_reverse 3 = .ok (.invokevirtual 471, 3) := by decide +kernel
theorem dX12_reverse_6 : decode cX12_reverse 6 = .ok (.ifCond .ne 7, 3) := by decide +kernel
theorem dX12_reverse_9 : decode cX12_reverse 9 = .ok (.iconst 1, 1) := by decide +kernel
theorem dX12_reverse_10 : decode cX12_reverse 10 = .ok (.goto 17, 3) := by decide +kernel
theorem dX12_reverse_13 : decode cX12_reverse 13 = .ok (.aload_n 0, 1) := by decide +kernel
theorem dX12_reverse_14 : decode cX12_reverse 14 = .ok (.getfield 462, 3) := by decide +kernel
theorem dX12_reverse_17 : decode cX12_reverse 17 = .ok (.bipush 8, 2) := by decide +kernel
theorem dX12_reverse_19 : decode cX12_reverse 19 = .ok (.if_icmp .ne 7, 3) := by decide +kernel
theorem dX12_reverse_22 : decode cX12_reverse 22 = .ok (.iconst 2, 1) := by decide +kernel
theorem dX12_reverse_23 : decode cX12_reverse 23 = .ok (.goto 4, 3) := by decide +kernel
theorem dX12_reverse_26 : decode cX12_reverse 26 = .ok (.iconst 0, 1) := by decide +kernel
theorem dX12_reverse_27 : decode cX12_reverse 27 = .ok (.invokevirtual 202, 3) := by decide +kernel
theorem dX12_reverse_30 : decode cX12_reverse 30 = .ok (.ifCond .ne 5, 3) := by decide +kernel
theorem dX12_reverse_33 : decode cX12_reverse 33 = .ok (.iconst 0, 1) := by decide +kernel
theorem dX12_reverse_34 : decode cX12_reverse 34 = .ok (.ireturn, 1) := by decide +kernel
theorem dX12_reverse_35 : decode cX12_reverse 35 = .ok (.aload_n 0, 1) := by decide +kernel
theorem dX12_reverse_36 : decode cX12_reverse 36 = .ok (.iload_n 1, 1) := by decide +kernel
theorem dX12_reverse_37 : decode cX12_reverse 37 = .ok (.invokevirtual 486, 3) := by decide +kernel
theorem dX12_reverse_40 : decode cX12_reverse 40 = .ok (.ifCond .ne 5, 3) := by decide +kernel
theorem dX12_reverse_43 : decode cX12_reverse 43 = .ok (.iconst (-1), 1) := by decide +kernel
theorem dX12_reverse_44 : decode cX12_reverse 44 = .ok (.ireturn, 1) := by decide +kernel
theorem dX12_reverse_45 : decode cX12_reverse 45 = .ok (.aload_n 0, 1) := by decide +kernel
theorem dX12_reverse_46 : decode cX12_reverse 46 = .ok (.invokevirtual 465, 3) := by decide +kernel
theorem dX12_reverse_49 : decode cX12_reverse 49 = .ok (.iconst 0, 1) := by decide +kernel
theorem dX12_reverse_50 : decode cX12_reverse 50 = .ok (.istore_n 2, 1) := by decide +kernel
theorem dX12_reverse_51 : decode cX12_reverse 51 = .ok (.iload_n 2, 1) := by decide +kernel
theorem dX12_reverse_52 : decode cX12_reverse 52 = .ok (.bipush 8, 2) := by decide +kernel
theorem dX12_reverse_54 : decode cX12_reverse 54 = .ok (.if_icmp .ge 162, 3) := by decide +kernel
theorem dX12_reverse_57 : decode cX12_reverse 57 = .ok (.bipush 60, 2) := by decide +kernel
theorem dX12_reverse_59 : decode cX12_reverse 59 = .ok (.iload_n 1, 1) := by decide +kernel
theorem dX12_reverse_60 : decode cX12_reverse 60 = .ok (.imul, 1) := by decide +kernel
theorem dX12_reverse_61 : decode cX12_reverse 61 = .ok (.aload_n 0, 1) := by decide +kernel
theorem dX12_reverse_62 : decode cX12_reverse 62 = .ok (.getfield 128, 3) := by decide +kernel
theorem dX12_reverse_65 : decode cX12_reverse 65 = .ok (.bipush 8, 2) := by decide +kernel
theorem dX12_reverse_67 : decode cX12_reverse 67 = .ok (.iload_n 1, 1) := by decide +kernel
theorem dX12_reverse_68 : decode cX12_reverse 68 = .ok (.imul, 1) := by decide +kernel
theorem dX12_reverse_69 : decode cX12_reverse 69 = .ok (.iload_n 2, 1) := by decide +kernel
theorem dX12_reverse_70 : decode cX12_reverse 70 = .ok (.iadd, 1) := by decide +kernel
theorem dX12_reverse_71 : decode cX12_reverse 71 = .ok (.iaload, 1) := by decide +kernel
theorem dX12_reverse_72 : decode cX12_reverse 72 = .ok (.iadd, 1) := by decide +kernel
theorem dX12_reverse_73 : decode cX12_reverse 73 = .ok (.istore_n 3, 1) := by decide +kernel
theorem dX12_reverse_74 : decode cX12_reverse 74 = .ok (.aload_n 0, 1) := by decide +kernel
theorem dX12_reverse_75 : decode cX12_reverse 75 = .ok (.getfield 131, 3) := by decide +kernel
theorem dX12_reverse_78 : decode cX12_reverse 78 = .ok (.bipush 8, 2) := by decide +kernel
theorem dX12_reverse_80 : decode cX12_reverse 80 = .ok (.iload_n 1, 1) := by decide +kernel
theorem dX12_reverse_81 : decode cX12_reverse 81 = .ok (.imul, 1) := by decide +kernel
theorem dX12_reverse_82 : decode cX12_reverse 82 = .ok (.iload_n 2, 1) := by decide +kernel
theorem dX12_reverse_83 : decode cX12_reverse 83 = .ok (.iadd, 1) := by decide +kernel
theorem dX12_reverse_84 : decode cX12_reverse 84 = .ok (.iaload, 1) := by decide +kernel
theorem dX12_reverse_85 : decode cX12_reverse 85 = .ok (.istore 4, 2) := by decide +kernel
theorem dX12_reverse_87 : decode cX12_reverse 87 = .ok (.aload_n 0, 1) := by decide +kernel
theorem dX12_reverse_88 : decode cX12_reverse 88 = .ok (.iload_n 3, 1) := by decide +kernel
theorem dX12_reverse_89 : decode cX12_reverse 89 = .ok (.iload 4, 2) := by decide +kernel
theorem dX12_reverse_91 : decode cX12_reverse 91 = .ok (.invokevirtual 489, 3) := by decide +kernel
theorem dX12_reverse_94 : decode cX12_reverse 94 = .ok (.iconst 0, 1) := by decide +kernel
theorem dX12_reverse_95 : decode cX12_reverse 95 = .ok (.istore 5, 2) := by decide +kernel
theorem dX12_reverse_97 : decode cX12_reverse 97 = .ok (.iload 5, 2) := by decide +kernel
theorem dX12_reverse_99 : decode cX12_reverse 99 = .ok (.iload 4, 2) := by decide +kernel
theorem dX12_reverse_101 : decode cX12_reverse 101 = .ok (.if_icmp .ge 109, 3) := by decide +kernel
theorem dX12_reverse_104 : decode cX12_reverse 104 = .ok (.bipush 8, 2) := by decide +kernel
theorem dX12_reverse_106 : decode cX12_reverse 106 = .ok (.aload_n 0, 1) := by decide +kernel
theorem dX12_reverse_107 : decode cX12_reverse 107 = .ok (.getfield 462, 3) := by decide +kernel
theorem dX12_reverse_110 : decode cX12_reverse 110 = .ok (.imul, 1) := by decide +kernel
theorem dX12_reverse_111 : decode cX12_reverse 111 = .ok (.aload_n 0, 1) := by decide +kernel
theorem dX12_reverse_112 : decode cX12_reverse 112 = .ok (.getfield 122, 3) := by decide +kernel
theorem dX12_reverse_115 : decode cX12_reverse 115 = .ok (.iload_n 3, 1) := by decide +kernel
theorem dX12_reverse_116 : decode cX12_reverse 116 = .ok (.iload 5, 2) := by decide +kernel
theorem dX12_reverse_118 : decode cX12_reverse 118 = .ok (.iadd, 1) := by decide +kernel
theorem dX12_reverse_119 : decode cX12_reverse 119 = .ok (.iaload, 1) := by decide +kernel
theorem dX12_reverse_120 : decode cX12_reverse 120 = .ok (.ifCond .ne 15, 3) := by decide +kernel
theorem dX12_reverse_123 : decode cX12_reverse 123 = .ok (.aload_n 0, 1) := by decide +kernel
theorem dX12_reverse_124 : decode cX12_reverse 124 = .ok (.getfield 125, 3) := by decide +kernel
theorem dX12_reverse_127 : decode cX12_reverse 127 = .ok (.iload_n 3, 1) := by decide +kernel
theorem dX12_reverse_128 : decode cX12_reverse 128 = .ok (.iload 5, 2) := by decide +kernel
theorem dX12_reverse_130 : decode cX12_reverse 130 = .ok (.iadd, 1) := by decide +kernel
theorem dX12_reverse_131 : decode cX12_reverse 131 = .ok (.iaload, 1) := by decide +kernel
theorem dX12_reverse_132 : decode cX12_reverse 132 = .ok (.goto 4, 3) := by decide +kernel
theorem dX12_reverse_135 : decode cX12_reverse 135 = .ok (.iconst 0, 1) := by decide +kernel
theorem dX12_reverse_136 : decode cX12_reverse 136 = .ok (.iadd, 1) := by decide +kernel
theorem dX12_reverse_137 : decode cX12_reverse 137 = .ok (.istore 6, 2) := by decide +kernel
theorem dX12_reverse_139 : decode cX12_reverse 139 = .ok (.aload_n 0, 1) := by decide +kernel
theorem dX12_reverse_140 : decode cX12_reverse 140 = .ok (.getfield 122, 3) := by decide +kernel
theorem dX12_reverse_143 : decode cX12_reverse 143 = .ok (.iload_n 3, 1) := by decide +kernel
theorem dX12_reverse_144 : decode cX12_reverse 144 = .ok (.iload 5, 2) := by decide +kernel
theorem dX12_reverse_146 : decode cX12_reverse 146 = .ok (.iadd, 1) := by decide +kernel
theorem dX12_reverse_147 : decode cX12_reverse 147 = .ok (.iaload, 1) := by decide +kernel
theorem dX12_reverse_148 : decode cX12_reverse 148 = .ok (.ifCond .ne 56, 3) := by decide +kernel
theorem dX12_reverse_151 : decode cX12_reverse 151 = .ok (.aload_n 0, 1) := by decide +kernel
theorem dX12_reverse_152 : decode cX12_reverse 152 = .ok (.getfield 131, 3) := by decide +kernel
theorem dX12_reverse_155 : decode cX12_reverse 155 = .ok (.iload 6, 2) := by decide +kernel
theorem dX12_reverse_157 : decode cX12_reverse 157 = .ok (.iaload, 1) := by decide +kernel
theorem dX12_reverse_158 : decode cX12_reverse 158 = .ok (.ifCond .ne 46, 3) := by decide +kernel
theorem dX12_reverse_161 : decode cX12_reverse 161 = .ok (.aload_n 0, 1) := by decide +kernel
theorem dX12_reverse_162 : decode cX12_reverse 162 = .ok (.getfield 128, 3) := by decide +kernel
theorem dX12_reverse_165 : decode cX12_reverse 165 = .ok (.iload 6, 2) := by decide +kernel
theorem dX12_reverse_167 : decode cX12_reverse 167 = .ok (.aload_n 0, 1) := by decide +kernel
theorem dX12_reverse_168 : decode cX12_reverse 168 = .ok (.getfield 459, 3) := by decide +kernel
theorem dX12_reverse_171 : decode cX12_reverse 171 = .ok (.iastore, 1) := by decide +kernel
theorem dX12_reverse_172 : decode cX12_reverse 172 = .ok (.aload_n 0, 1) := by decide +kernel
theorem dX12_reverse_173 : decode cX12_reverse 173 = .ok (.iconst 0, 1) := by decide +kernel
theorem dX12_reverse_174 : decode cX12_reverse 174 = .ok (.iload_n 2, 1) := by decide +kernel
theorem dX12_reverse_175 : decode cX12_reverse 175 = .ok (.invokevirtual 468, 3) := by decide +kernel
theorem dX12_reverse_178 : decode cX12_reverse 178 = .ok (.aload_n 0, 1) := by decide +kernel
theorem dX12_reverse_179 : decode cX12_reverse 179 = .ok (.iload_n 3, 1) := by decide +kernel
theorem dX12_reverse_180 : decode cX12_reverse 180 = .ok (.iload 5, 2) := by decide +kernel
theorem dX12_reverse_182 : decode cX12_reverse 182 = .ok (.invokevirtual 492, 3) := by decide +kernel
theorem dX12_reverse_185 : decode cX12_reverse 185 = .ok (.aload_n 0, 1) := by decide +kernel
theorem dX12_reverse_186 : decode cX12_reverse 186 = .ok (.getfield 131, 3) := by decide +kernel
theorem dX12_reverse_189 : decode cX12_reverse 189 = .ok (.iload 6, 2) := by decide +kernel
theorem dX12_reverse_191 : decode cX12_reverse 191 = .ok (.aload_n 0, 1) := by decide +kernel
theorem dX12_reverse_192 : decode cX12_reverse 192 = .ok (.getfield 459, 3) := by decide +kernel
theorem dX12_reverse_195 : decode cX12_reverse 195 = .ok (.aload_n 0, 1) := by decide +kernel
theorem dX12_reverse_196 : decode cX12_reverse 196 = .ok (.getfield 128, 3) := by decide +kernel
theorem dX12_reverse_199 : decode cX12_reverse 199 = .ok (.iload 6, 2) := by decide +kernel
theorem dX12_reverse_201 : decode cX12_reverse 201 = .ok (.iaload, 1) := by decide +kernel
theorem dX12_reverse_202 : decode cX12_reverse 202 = .ok (.isub, 1) := by decide +kernel
theorem dX12_reverse_203 : decode cX12_reverse 203 = .ok (.iastore, 1) := by decide +kernel
theorem dX12_reverse_204 : decode cX12_reverse 204 = .ok (.iinc 5 1, 3) := by decide +kernel
theorem dX12_reverse_207 : decode cX12_reverse 207 = .ok (.goto (-110), 3) := by decide +kernel
theorem dX12_reverse_210 : decode cX12_reverse 210 = .ok (.iinc 2 1, 3) := by decide +kernel
theorem dX12_reverse_213 : decode cX12_reverse 213 = .ok (.goto (-162), 3) := by decide +kernel
theorem dX12_reverse_216 : decode cX12_reverse 216 = .ok (.aload_n 0, 1) := by decide +kernel
theorem dX12_reverse_217 : decode cX12_reverse 217 = .ok (.invokevirtual 480, 3) := by decide +kernel
theorem dX12_reverse_220 : decode cX12_reverse 220 = .ok (.ireturn, 1) := by decide +kernel
def is_X12_reverse (Rt : np_Rt) : List (Nat × np_Op) := [(0, np_ald 1 0), (1, np_ald 1 0), (2, np_ild 1 1), (3, nq_callV 12 2 sp_X12_isUpgrade 2 0 0 0 0), (6, nq_ifne 13), (9, np_push 1 (.int 1)), (10, np_goto 27), (13, np_ald 1 0), (14, nq_getf 12 41), (17, np_push 2 (.int 8)), (19, nq_icne 26), (22, np_push 1 (.int 2)), (23, np_goto 27), (26, np_push 1 (.int 0)), (27, nq_callV 12 2 sp_X12_can 2 0 0 0 0), (30, nq_ifne 35), (33, np_push 1 (.int 0)), (34, np_ret Rt), (35, np_ald 1 0), (36, np_ild 1 1), (40, nq_ifne 45), (43, np_push 1 (.int (-1))), (44, np_ret Rt), (45, np_ald 1 0), (46, nq_callV 12 1 sp_X12_clearsCodes 2 0 0 0 0), (49, np_push 1 (.int 0)), (50, np_ist 1 2), (51, np_ild 1 2), (52, np_push 2 (.int 8)), (54, nq_ic (fun x y => y ≤ x) 216), (57, np_push 2 (.int 60)), (59, np_ild 1 1), (60, np_ib (fun x y => x * y)), (61, np_ald 1 0), (62, nq_getf 12 44), (65, np_push 2 (.int 8)), (67, np_ild 1 1), (68, np_ib (fun x y => x * y)), (69, np_ild 1 2), (70, np_ib (fun x y => x + y)), (71, nq_ialdT .int), (72, np_ib (fun x y => x + y)), (73, np_ist 1 3), (74, np_ald 1 0), (75, nq_getf 12 45), (78, np_push 2 (.int 8)), (80, np_ild 1 1), (81, np_ib (fun x y => x * y)), (82, np_ild 1 2), (83, np_ib (fun x y => x + y)), (84, nq_ialdT .int), (85, np_ist 2 4), (87, np_ald 1 0), (88, np_ild 1 3), (89, np_ild 2 4), (94, np_push 1 (.int 0)), (95, np_ist 2 5), (97, np_ild 2 5), (99, np_ild 2 4), (101, nq_ic (fun x y => y ≤ x) 210), (104, np_push 2 (.int 8)), (106, np_ald 1 0), (107, nq_getf 12 41), (110, np_ib (fun x y => x * y)), (111, np_ald 1 0), (112, nq_getf 12 42), (115, np_ild 1 3), (116, np_ild 2 5), (118, np_ib (fun x y => x + y)), (119, nq_ialdT .int), (120, nq_ifne 135), (123, np_ald 1 0), (124, nq_getf 12 43), (127, np_ild 1 3), (128, np_ild 2 5), (130, np_ib (fun x y => x + y)), (131, nq_ialdT .int), (132, np_goto 136), (135, np_push 1 (.int 0)), (136, np_ib (fun x y => x + y)), (137, np_ist 2 6), (139, np_ald 1 0), (140, nq_getf 12 42), (143, np_ild 1 3), (144, np_ild 2 5), (146, np_ib (fun x y => x + y)), (147, nq_ialdT .int), (148, nq_ifne 204), (151, np_ald 1 0), (152, nq_getf 12 45), (155, np_ild 2 6), (157, nq_ialdT .int), (158, nq_ifne 204), (161, np_ald 1 0), (162, nq_getf 12 44), (165, np_ild 2 6), (167, np_ald 1 0), (168, nq_getf 12 46), (171, nq_iastT .int), (172, np_ald 1 0), (173, np_push 1 (.int 0)), (174, np_ild 1 2), (178, np_ald 1 0), (179, np_ild 1 3), (180, np_ild 2 5), (185, np_ald 1 0), (186, nq_getf 12 45), (189, np_ild 2 6), (191, np_ald 1 0), (192, nq_getf 12 46), (195, np_ald 1 0), (196, nq_getf 12 44), (199, np_ild 2 6), (201, nq_ialdT .int), (202, np_ib (fun x y => x - y)), (203, nq_iastT .int), (204, np_iinc 5 1), (207, np_goto 97), (210, np_iinc 2 1), (213, np_goto 51), (216, np_ald 1 0), (220, np_ret Rt)]
set_option maxRecDepth 20000 in
theorem so_X12_reverse {X : np_Ctx} {Rt : np_Rt} (hX : np_ok RX12 cX12_reverse 7 2 43 0 0 .ireturn X) (hR : ∀ st w ce sl, Rt st w ce sl → X.2.2.1 st w ce sl) : ∀ q ∈ is_X12_reverse Rt, np_S X q.1 q.2 :=
  List.forall_mem_cons.mpr ⟨np_s_aload_n hX dX12_reverse_0 rfl, List.forall_mem_cons.mpr ⟨np_s_aload_n hX dX12_reverse_1 rfl, List.forall_mem_cons.mpr ⟨np_s_iload_n hX dX12_reverse_2 rfl, List.forall_mem_cons.mpr ⟨np_S.mono (op := np_callV 12 2 sp_X12_isUpgrade 2 0 0 0 0) (np_s_callV hX C_X12_isUpgrade dX12_reverse_3 (q := (RX12, TX12, 77)) rfl rfl gw2249 gw142 gw2246 gw2248 gw117 ⟨by decide, by decide, by decide⟩ (by decide) (by decide)) nq_callV_le, List.forall_mem_cons.mpr ⟨np_S.mono (op := np_ifne 13) (np_s_if_ne hX dX12_reverse_6 (by decide)) nq_ifne_le, List.forall_mem_cons.mpr ⟨np_s_iconst hX dX12_reverse_9 (by decide), List.forall_mem_cons.mpr ⟨np_s_goto hX dX12_reverse_10 (by decide), List.forall_mem_cons.mpr ⟨np_s_aload_n hX dX12_reverse_13 rfl, List.forall_mem_cons.mpr ⟨np_S.mono (op := np_getf 12 41) (np_s_getf hX dX12_reverse_14 (C := RX12) (T := TX12) (N := 77) rfl guX12 (by decide) gw1677) nq_getf_le, List.forall_mem_cons.mpr ⟨np_s_bipush hX dX12_reverse_17 (by decide), List.forall_mem_cons.mpr ⟨np_S.mono (op := np_icne 26) (np_s_icmp_ne hX dX12_reverse_19 (by decide)) nq_icne_le, List.forall_mem_cons.mpr ⟨np_s_iconst hX dX12_reverse_22 (by decide), List.forall_mem_cons.mpr ⟨np_s_goto hX dX12_reverse_23 (by decide), List.forall_mem_cons.mpr ⟨np_s_iconst hX dX12_reverse_26 (by decide), List.forall_mem_cons.mpr ⟨np_S.mono (op := np_callV 12 2 sp_X12_can 2 0 0 0 0) (np_s_callV hX C_X12_can dX12_reverse_27 (q := (RX12, TX12, 77)) rfl rfl gw1890 gw142 gw1887 gw1889 gw63 ⟨by decide, by decide, by decide⟩ (by decide) (by decide)) nq_callV_le, List.forall_mem_cons.mpr ⟨np_S.mono (op := np_ifne 35) (np_s_if_ne hX dX12_reverse_30 (by decide)) nq_ifne_le, List.forall_mem_cons.mpr ⟨np_s_iconst hX dX12_reverse_33 (by decide), List.forall_mem_cons.mpr ⟨np_S.mono (op := np_ret X.2.2.1) (np_s_ret hX dX12_reverse_34) (nq_ret_le hR), List.forall_mem_cons.mpr ⟨np_s_aload_n hX dX12_reverse_35 rfl, List.forall_mem_cons.mpr ⟨np_s_iload_n hX dX12_reverse_36 rfl, List.forall_mem_cons.mpr ⟨np_S.mono (op := np_ifne 45) (np_s_if_ne hX dX12_reverse_40 (by decide)) nq_ifne_le, List.forall_mem_cons.mpr ⟨np_s_iconst hX dX12_reverse_43 (by decide), List.forall_mem_cons.mpr ⟨np_S.mono (op := np_ret X.2.2.1) (np_s_ret hX dX12_reverse_44) (nq_ret_le hR), List.forall_mem_cons.mpr ⟨np_s_aload_n hX dX12_reverse_45 rfl, List.forall_mem_cons.mpr ⟨np_S.mono (op := np_callV 12 1 sp_X12_clearsCodes 2 0 0 0 0) (np_s_callV hX C_X12_clearsCodes dX12_reverse_46 (q := (RX12, TX12, 77)) rfl rfl gw2237 gw142 gw2234 gw2236 gw115 ⟨by decide, by decide, by decide⟩ (by decide) (by decide)) nq_callV_le, List.forall_mem_cons.mpr ⟨np_s_iconst hX dX12_reverse_49 (by decide), List.forall_mem_cons.mpr ⟨np_s_istore_n hX dX12_reverse_50 rfl (by decide), List.forall_mem_cons.mpr ⟨np_s_iload_n hX dX12_reverse_51 rfl, List.forall_mem_cons.mpr ⟨np_s_bipush hX dX12_reverse_52 (by decide), List.forall_mem_cons.mpr ⟨np_S.mono (op := np_ic (fun x y => y ≤ x) 216) (np_s_icmp_ge hX dX12_reverse_54 (by decide)) nq_ic_le, List.forall_mem_cons.mpr ⟨np_s_bipush hX dX12_reverse_57 (by decide), List.forall_mem_cons.mpr ⟨np_s_iload_n hX dX12_reverse_59 rfl, List.forall_mem_cons.mpr ⟨np_s_imul hX dX12_reverse_60, List.forall_mem_cons.mpr ⟨np_s_aload_n hX dX12_reverse_61 rfl, List.forall_mem_cons.mpr ⟨np_S.mono (op := np_getf 12 44) (np_s_getf hX dX12_reverse_62 (C := RX12) (T := TX12) (N := 77) rfl guX12 (by decide) gw1680) nq_getf_le, List.forall_mem_cons.mpr ⟨np_s_bipush hX dX12_reverse_65 (by decide), List.forall_mem_cons.mpr ⟨np_s_iload_n hX dX12_reverse_67 rfl, List.forall_mem_cons.mpr ⟨np_s_imul hX dX12_reverse_68, List.forall_mem_cons.mpr ⟨np_s_iload_n hX dX12_reverse_69 rfl, List.forall_mem_cons.mpr ⟨np_s_iadd hX dX12_reverse_70, List.forall_mem_cons.mpr ⟨np_S.mono (op := np_ialdT .int) (np_s_iald hX dX12_reverse_71) nq_ialdT_le, List.forall_mem_cons.mpr ⟨np_s_iadd hX dX12_reverse_72, List.forall_mem_cons.mpr ⟨np_s_istore_n hX dX12_reverse_73 rfl (by decide), List.forall_mem_cons.mpr ⟨np_s_aload_n hX dX12_reverse_74 rfl, List.forall_mem_cons.mpr ⟨np_S.mono (op := np_getf 12 45) (np_s_getf hX dX12_reverse_75 (C := RX12) (T := TX12) (N := 77) rfl guX12 (by decide) gw1681) nq_getf_le, List.forall_mem_cons.mpr ⟨np_s_bipush hX dX12_reverse_78 (by decide), List.forall_mem_cons.mpr ⟨np_s_iload_n hX dX12_reverse_80 rfl, List.forall_mem_cons.mpr ⟨np_s_imul hX dX12_reverse_81, List.forall_mem_cons.mpr ⟨np_s_iload_n hX dX12_reverse_82 rfl, List.forall_mem_cons.mpr ⟨np_s_iadd hX dX12_reverse_83, List.forall_mem_cons.mpr ⟨np_S.mono (op := np_ialdT .int) (np_s_iald hX dX12_reverse_84) nq_ialdT_le, List.forall_mem_cons.mpr ⟨np_s_istore hX dX12_reverse_85 (by decide), List.forall_mem_cons.mpr ⟨np_s_aload_n hX dX12_reverse_87 rfl, List.forall_mem_cons.mpr ⟨np_s_iload_n hX dX12_reverse_88 rfl, List.forall_mem_cons.mpr ⟨np_s_iload hX dX12_reverse_89, List.forall_mem_cons.mpr ⟨np_s_iconst hX dX12_reverse_94 (by decide), List.forall_mem_cons.mpr ⟨np_s_istore hX dX12_reverse_95 (by decide), List.forall_mem_cons.mpr ⟨np_s_iload hX dX12_reverse_97, List.forall_mem_cons.mpr ⟨np_s_iload hX dX12_reverse_99, List.forall_mem_cons.mpr ⟨np_S.mono (op := np_ic (fun x y => y ≤ x) 210) (np_s_icmp_ge hX dX12_reverse_101 (by decide)) nq_ic_le, List.forall_mem_cons.mpr ⟨np_s_bipush hX dX12_reverse_104 (by decide), List.forall_mem_cons.mpr ⟨np_s_aload_n hX dX12_reverse_106 rfl, List.forall_mem_cons.mpr ⟨np_S.mono (op := np_getf 12 41) (np_s_getf hX dX12_reverse_107 (C := RX12) (T := TX12) (N := 77) rfl guX12 (by decide) gw1677) nq_getf_le, List.forall_mem_cons.mpr ⟨np_s_imul hX dX12_reverse_110, List.forall_mem_cons.mpr ⟨np_s_aload_n hX dX12_reverse_111 rfl, List.forall_mem_cons.mpr ⟨np_S.mono (op := np_getf 12 42) (np_s_getf hX dX12_reverse_112 (C := RX12) (T := TX12) (N := 77) rfl guX12 (by decide) gw1678) nq_getf_le, List.forall_mem_cons.mpr ⟨np_s_iload_n hX dX12_reverse_115 rfl, List.forall_mem_cons.mpr ⟨np_s_iload hX dX12_reverse_116, List.forall_mem_cons.mpr ⟨np_s_iadd hX dX12_reverse_118, List.forall_mem_cons.mpr ⟨np_S.mono (op := np_ialdT .int) (np_s_iald hX dX12_reverse_119) nq_ialdT_le, List.forall_mem_cons.mpr ⟨np_S.mono (op := np_ifne 135) (np_s_if_ne hX dX12_reverse_120 (by decide)) nq_ifne_le, List.forall_mem_cons.mpr ⟨np_s_aload_n hX dX12_reverse_123 rfl, List.forall_mem_cons.mpr ⟨np_S.mono (op := np_getf 12 43) (np_s_getf hX dX12_reverse_124 (C := RX12) (T := TX12) (N := 77) rfl guX12 (by decide) gw1679) nq_getf_le, List.forall_mem_cons.mpr ⟨np_s_iload_n hX dX12_reverse_127 rfl, List.forall_mem_cons.mpr ⟨np_s_iload hX dX12_reverse_128, List.forall_mem_cons.mpr ⟨np_s_iadd hX dX12_reverse_130, List.forall_mem_cons.mpr ⟨np_S.mono (op := np_ialdT .int) (np_s_iald hX dX12_reverse_131) nq_ialdT_le, List.forall_mem_cons.mpr ⟨np_s_goto hX dX12_reverse_132 (by decide), List.forall_mem_cons.mpr ⟨np_s_iconst hX dX12_reverse_135 (by decide), List.forall_mem_cons.mpr ⟨np_s_iadd hX dX12_reverse_136, List.forall_mem_cons.mpr ⟨np_s_istore hX dX12_reverse_137 (by decide), List.forall_mem_cons.mpr ⟨np_s_aload_n hX dX12_reverse_139 rfl, List.forall_mem_cons.mpr ⟨np_S.mono (op := np_getf 12 42) (np_s_getf hX dX12_reverse_140 (C := RX12) (T := TX12) (N := 77) rfl guX12 (by decide) gw1678) nq_getf_le, List.forall_mem_cons.mpr ⟨np_s_iload_n hX dX12_reverse_143 rfl, List.forall_mem_cons.mpr ⟨np_s_iload hX dX12_reverse_144, List.forall_mem_cons.mpr ⟨np_s_iadd hX dX12_reverse_146, List.forall_mem_cons.mpr ⟨np_S.mono (op := np_ialdT .int) (np_s_iald hX dX12_reverse_147) nq_ialdT_le, List.forall_mem_cons.mpr ⟨np_S.mono (op := np_ifne 204) (np_s_if_ne hX dX12_reverse_148 (by decide)) nq_ifne_le, List.forall_mem_cons.mpr ⟨np_s_aload_n hX dX12_reverse_151 rfl, List.forall_mem_cons.mpr ⟨np_S.mono (op := np_getf 12 45) (np_s_getf hX dX12_reverse_152 (C := RX12) (T := TX12) (N := 77) rfl guX12 (by decide) gw1681) nq_getf_le, List.forall_mem_cons.mpr ⟨np_s_iload hX dX12_reverse_155, List.forall_mem_cons.mpr ⟨np_S.mono (op := np_ialdT .int) (np_s_iald hX dX12_reverse_157) nq_ialdT_le, List.forall_mem_cons.mpr ⟨np_S.mono (op := np_ifne 204) (np_s_if_ne hX dX12_reverse_158 (by decide)) nq_ifne_le, List.forall_mem_cons.mpr ⟨np_s_aload_n hX dX12_reverse_161 rfl, List.forall_mem_cons.mpr ⟨np_S.mono (op := np_getf 12 44) (np_s_getf hX dX12_reverse_162 (C := RX12) (T := TX12) (N := 77) rfl guX12 (by decide) gw1680) nq_getf_le, List.forall_mem_cons.mpr ⟨np_s_iload hX dX12_reverse_165, List.forall_mem_cons.mpr ⟨np_s_aload_n hX dX12_reverse_167 rfl, List.forall_mem_cons.mpr ⟨np_S.mono (op := np_getf 12 46) (np_s_getf hX dX12_reverse_168 (C := RX12) (T := TX12) (N := 77) rfl guX12 (by decide) gw1682) nq_getf_le, List.forall_mem_cons.mpr ⟨np_S.mono (op := np_iastT .int) (np_s_iast hX dX12_reverse_171) nq_iastT_le, List.forall_mem_cons.mpr ⟨np_s_aload_n hX dX12_reverse_172 rfl, List.forall_mem_cons.mpr ⟨np_s_iconst hX dX12_reverse_173 (by decide), List.forall_mem_cons.mpr ⟨np_s_iload_n hX dX12_reverse_174 rfl, List.forall_mem_cons.mpr ⟨np_s_aload_n hX dX12_reverse_178 rfl, List.forall_mem_cons.mpr ⟨np_s_iload_n hX dX12_reverse_179 rfl, List.forall_mem_cons.mpr ⟨np_s_iload hX dX12_reverse_180, List.forall_mem_cons.mpr ⟨np_s_aload_n hX dX12_reverse_185 rfl, List.forall_mem_cons.mpr ⟨np_S.mono (op := np_getf 12 45) (np_s_getf hX dX12_reverse_186 (C := RX12) (T := TX12) (N := 77) rfl guX12 (by decide) gw1681) nq_getf_le, List.forall_mem_cons.mpr ⟨np_s_iload hX dX12_reverse_189, List.forall_mem_cons.mpr ⟨np_s_aload_n hX dX12_reverse_191 rfl, List.forall_mem_cons.mpr ⟨np_S.mono (op := np_getf 12 46) (np_s_getf hX dX12_reverse_192 (C := RX12) (T := TX12) (N := 77) rfl guX12 (by decide) gw1682) nq_getf_le, List.forall_mem_cons.mpr ⟨np_s_aload_n hX dX12_reverse_195 rfl, List.forall_mem_cons.mpr ⟨np_S.mono (op := np_getf 12 44) (np_s_getf hX dX12_reverse_196 (C := RX12) (T := TX12) (N := 77) rfl guX12 (by decide) gw1680) nq_getf_le, List.forall_mem_cons.mpr ⟨np_s_iload hX dX12_reverse_199, List.forall_mem_cons.mpr ⟨np_S.mono (op := np_ialdT .int) (np_s_iald hX dX12_reverse_201) nq_ialdT_le, List.forall_mem_cons.mpr ⟨np_s_isub hX dX12_reverse_202, List.forall_mem_cons.mpr ⟨np_S.mono (op := np_iastT .int) (np_s_iast hX dX12_reverse_203) nq_iastT_le, List.forall_mem_cons.mpr ⟨np_s_iinc hX dX12_reverse_204 (by decide), List.forall_mem_cons.mpr ⟨np_s_goto hX dX12_reverse_207 (by decide), List.forall_mem_cons.mpr ⟨np_s_iinc hX dX12_reverse_210 (by decide), List.forall_mem_cons.mpr ⟨np_s_goto hX dX12_reverse_213 (by decide), List.forall_mem_cons.mpr ⟨np_s_aload_n hX dX12_reverse_216 rfl, List.forall_mem_cons.mpr ⟨np_S.mono (op := np_ret X.2.2.1) (np_s_ret hX dX12_reverse_220) (nq_ret_le hR), fun _ h => nomatch h⟩⟩⟩⟩⟩⟩⟩⟩⟩⟩⟩⟩⟩⟩⟩⟩⟩⟩⟩⟩⟩⟩⟩⟩⟩⟩⟩⟩⟩⟩⟩⟩⟩⟩⟩⟩⟩⟩⟩⟩⟩⟩⟩⟩⟩⟩⟩⟩⟩⟩⟩⟩⟩⟩⟩⟩⟩⟩⟩⟩⟩⟩⟩⟩⟩⟩⟩⟩⟩⟩⟩⟩⟩⟩⟩⟩⟩⟩⟩⟩⟩⟩⟩⟩⟩⟩⟩⟩⟩⟩⟩⟩⟩⟩⟩⟩⟩⟩⟩⟩⟩⟩⟩⟩⟩⟩⟩⟩⟩⟩⟩⟩⟩⟩⟩⟩⟩⟩⟩⟩⟩⟩
abbrev sp_X12_reverse : np_Sp := nq_in is_X12_reverse (some .int) 0 0 400
theorem C_X12_reverse : np_C yX12_reverse cX12_reverse 7 (some .int) 2 43 0 0 sp_X12_reverse := nq_inC 400 (by decide) (fun X Rt hX hmn hR => so_X12_reverse hX hR)
theorem dX12_upgraded_0 : decode cX12_upgraded 0 = .ok (.aload_n 0, 1) := by decide +kernel
theorem dX12_upgraded_1 : decode cX12_upgraded 1 = .ok (.aload_n 0, 1) := by decide +kernel
theorem dX12_upgraded_2 : decode cX12_upgraded 2 = .ok (.iload_n 1, 1) := by decide +kernel
theorem dX12_upgraded_3 : decode cX12_upgraded 3 = .ok (.invokevirtual 471, 3) := by decide +kernel
theorem dX12_upgraded_6 : decode cX12_upgraded 6 = .ok (.ifCond .eq 14, 3) := by decide +kernel
theorem dX12_upgraded_9 : decode cX12_upgraded 9 = .ok (.iload_n 2, 1) := by decide +kernel
theorem dX12_upgraded_10 : decode cX12_upgraded 10 = .ok (.invokestatic 191, 3) := by decide +kernel
theorem dX12_upgraded_13 : decode cX12_upgraded 13 = .ok (.ifCond .eq 7, 3) := by decide +kernel
theorem dX12_upgraded_16 : decode cX12_upgraded 16 = .ok (.iconst 0, 1) := by decide +kernel
theorem dX12_upgraded_17 : decode cX12_upgraded 17 = .ok (.goto 4, 3) := by decide +kernel
theorem dX12_upgraded_20 : decode cX12_upgraded 20 = .ok (.iconst 1, 1) := by decide +kernel
theorem dX12_upgraded_21 : decode cX12_upgraded 21 = .ok (.invokevirtual 202, 3) := by decide +kernel
theorem dX12_upgraded_24 : decode cX12_upgraded 24 = .ok (.ifCond .ne 5, 3) := by decide +kernel
theorem dX12_upgraded_27 : decode cX12_upgraded 27 = .ok (.iconst 0, 1) := by decide +kernel
theorem dX12_upgraded_28 : decode cX12_upgraded 28 = .ok (.ireturn, 1) := by decide +kernel
theorem dX12_upgraded_29 : decode cX12_upgraded 29 = .ok (.bipush 8, 2) := by decide +kernel
theorem dX12_upgraded_31 : decode cX12_upgraded 31 = .ok (.iload_n 1, 1) := by decide +kernel
theorem dX12_upgraded_32 : decode cX12_upgraded 32 = .ok (.imul, 1) := by decide +kernel
theorem dX12_upgraded_33 : decode cX12_upgraded 33 = .ok (.iload_n 2, 1) := by decide +kernel
theorem dX12_upgraded_34 : decode cX12_upgraded 34 = .ok (.iadd, 1) := by decide +kernel
theorem dX12_upgraded_35 : decode cX12_upgraded 35 = .ok (.istore_n 3, 1) := by decide +kernel
theorem dX12_upgraded_36 : decode cX12_upgraded 36 = .ok (.iconst 0, 1) := by decide +kernel
theorem dX12_upgraded_37 : decode cX12_upgraded 37 = .ok (.istore 4, 2) := by decide +kernel
theorem dX12_upgraded_39 : decode cX12_upgraded 39 = .ok (.aload_n 0, 1) := by decide +kernel
theorem dX12_upgraded_40 : decode cX12_upgraded 40 = .ok (.getfield 131, 3) := by decide +kernel
theorem dX12_upgraded_43 : decode cX12_upgraded 43 = .ok (.iload_n 3, 1) := by decide +kernel
theorem dX12_upgraded_44 : decode cX12_upgraded 44 = .ok (.iaload, 1) := by decide +kernel
theorem dX12_upgraded_45 : decode cX12_upgraded 45 = .ok (.ifCond .le 7, 3) := by decide +kernel
theorem dX12_upgraded_48 : decode cX12_upgraded 48 = .ok (.iconst 1, 1) := by decide +kernel
theorem dX12_upgraded_49 : decode cX12_upgraded 49 = .ok (.goto 4, 3) := by decide +kernel
theorem dX12_upgraded_52 : decode cX12_upgraded 52 = .ok (.iconst 0, 1) := by decide +kernel
theorem dX12_upgraded_53 : decode cX12_upgraded 53 = .ok (.istore 5, 2) := by decide +kernel
theorem dX12_upgraded_55 : decode cX12_upgraded 55 = .ok (.bipush 60, 2) := by decide +kernel
theorem dX12_upgraded_57 : decode cX12_upgraded 57 = .ok (.iload_n 1, 1) := by decide +kernel
theorem dX12_upgraded_58 : decode cX12_upgraded 58 = .ok (.imul, 1) := by decide +kernel
theorem dX12_upgraded_59 : decode cX12_upgraded 59 = .ok (.aload_n 0, 1) := by decide +kernel
theorem dX12_upgraded_60 : decode cX12_upgraded 60 = .ok (.getfield 128, 3) := by decide +kernel
theorem dX12_upgraded_63 : decode cX12_upgraded 63 = .ok (.iload_n 3, 1) := by decide +kernel
theorem dX12_upgraded_64 : decode cX12_upgraded 64 = .ok (.iaload, 1) := by decide +kernel
theorem dX12_upgraded_65 : decode cX12_upgraded 65 = .ok (.iadd, 1) := by decide +kernel
theorem dX12_upgraded_66 : decode cX12_upgraded 66 = .ok (.istore 6, 2) := by decide +kernel
theorem dX12_upgraded_68 : decode cX12_upgraded 68 = .ok (.iload 6, 2) := by decide +kernel
theorem dX12_upgraded_70 : decode cX12_upgraded 70 = .ok (.bipush 60, 2) := by decide +kernel
theorem dX12_upgraded_72 : decode cX12_upgraded 72 = .ok (.iload_n 1, 1) := by decide +kernel
theorem dX12_upgraded_73 : decode cX12_upgraded 73 = .ok (.imul, 1) := by decide +kernel
theorem dX12_upgraded_74 : decode cX12_upgraded 74 = .ok (.aload_n 0, 1) := by decide +kernel
theorem dX12_upgraded_75 : decode cX12_upgraded 75 = .ok (.getfield 128, 3) := by decide +kernel
theorem dX12_upgraded_78 : decode cX12_upgraded 78 = .ok (.iload_n 3, 1) := by decide +kernel
theorem dX12_upgraded_79 : decode cX12_upgraded 79 = .ok (.iaload, 1) := by decide +kernel
theorem dX12_upgraded_80 : decode cX12_upgraded 80 = .ok (.iadd, 1) := by decide +kernel
theorem dX12_upgraded_81 : decode cX12_upgraded 81 = .ok (.aload_n 0, 1) := by decide +kernel
theorem dX12_upgraded_82 : decode cX12_upgraded 82 = .ok (.getfield 131, 3) := by decide +kernel
theorem dX12_upgraded_85 : decode cX12_upgraded 85 = .ok (.iload_n 3, 1) := by decide +kernel
theorem dX12_upgraded_86 : decode cX12_upgraded 86 = .ok (.iaload, 1) := by decide +kernel
theorem dX12_upgraded_87 : decode cX12_upgraded 87 = .ok (.iadd, 1) := by decide +kernel
theorem dX12_upgraded_88 : decode cX12_upgraded 88 = .ok (.if_icmp .ge 276, 3) := by decide +kernel
theorem dX12_upgraded_91 : decode cX12_upgraded 91 = .ok (.iload 5, 2) := by decide +kernel
theorem dX12_upgraded_93 : decode cX12_upgraded 93 = .ok (.ifCond .eq 271, 3) := by decide +kernel
theorem dX12_upgraded_96 : decode cX12_upgraded 96 = .ok (.aload_n 0, 1) := by decide +kernel
theorem dX12_upgraded_97 : decode cX12_upgraded 97 = .ok (.getfield 122, 3) := by decide +kernel
theorem dX12_upgraded_100 : decode cX12_upgraded 100 = .ok (.iload 6, 2) := by decide +kernel
theorem dX12_upgraded_102 : decode cX12_upgraded 102 = .ok (.iaload, 1) := by decide +kernel
theorem dX12_upgraded_103 : decode cX12_upgraded 103 = .ok (.istore 7, 2) := by decide +kernel
theorem dX12_upgraded_105 : decode cX12_upgraded 105 = .ok (.aload_n 0, 1) := by decide +kernel
theorem dX12_upgraded_106 : decode cX12_upgraded 106 = .ok (.getfield 125, 3) := by decide +kernel
theorem dX12_upgraded_109 : decode cX12_upgraded 109 = .ok (.iload 6, 2) := by decide +kernel
theorem dX12_upgraded_111 : decode cX12_upgraded 111 = .ok (.iaload, 1) := by decide +kernel
theorem dX12_upgraded_112 : decode cX12_upgraded 112 = .ok (.istore 8, 2) := by decide +kernel
theorem dX12_upgraded_114 : decode cX12_upgraded 114 = .ok (.iload 7, 2) := by decide +kernel
theorem dX12_upgraded_116 : decode cX12_upgraded 116 = .ok (.iconst 1, 1) := by decide +kernel
theorem dX12_upgraded_117 : decode cX12_upgraded 117 = .ok (.if_icmp .gt 65, 3) := by decide +kernel
theorem dX12_upgraded_120 : decode cX12_upgraded 120 = .ok (.iload 7, 2) := by decide +kernel
theorem dX12_upgraded_122 : decode cX12_upgraded 122 = .ok (.iconst 1, 1) := by decide +kernel
theorem dX12_upgraded_123 : decode cX12_upgraded 123 = .ok (.if_icmp .eq 17, 3) := by decide +kernel
theorem dX12_upgraded_126 : decode cX12_upgraded 126 = .ok (.aload_n 0, 1) := by decide +kernel
theorem dX12_upgraded_127 : decode cX12_upgraded 127 = .ok (.getfield 235, 3) := by decide +kernel
theorem dX12_upgraded_130 : decode cX12_upgraded 130 = .ok (.iconst 3, 1) := by decide +kernel
theorem dX12_upgraded_131 : decode cX12_upgraded 131 = .ok (.iload 8, 2) := by decide +kernel
theorem dX12_upgraded_133 : decode cX12_upgraded 133 = .ok (.imul, 1) := by decide +kernel
theorem dX12_upgraded_134 : decode cX12_upgraded 134 = .ok (.invokestatic 229, 3) := by decide +kernel
theorem dX12_upgraded_137 : decode cX12_upgraded 137 = .ok (.ifCond .eq 7, 3) := by decide +kernel
theorem dX12_upgraded_140 : decode cX12_upgraded 140 = .ok (.iconst 1, 1) := by decide +kernel
theorem dX12_upgraded_141 : decode cX12_upgraded 141 = .ok (.goto 4, 3) := by decide +kernel
theorem dX12_upgraded_144 : decode cX12_upgraded 144 = .ok (.iconst 0, 1) := by decide +kernel
theorem dX12_upgraded_145 : decode cX12_upgraded 145 = .ok (.istore 5, 2) := by decide +kernel
theorem dX12_upgraded_147 : decode cX12_upgraded 147 = .ok (.aload_n 0, 1) := by decide +kernel
theorem dX12_upgraded_148 : decode cX12_upgraded 148 = .ok (.getfield 140, 3) := by decide +kernel
theorem dX12_upgraded_151 : decode cX12_upgraded 151 = .ok (.iload 4, 2) := by decide +kernel
theorem dX12_upgraded_153 : decode cX12_upgraded 153 = .ok (.iload 7, 2) := by decide +kernel
theorem dX12_upgraded_155 : decode cX12_upgraded 155 = .ok (.iconst 1, 1) := by decide +kernel
theorem dX12_upgraded_156 : decode cX12_upgraded 156 = .ok (.if_icmp .ne 9, 3) := by decide +kernel
theorem dX12_upgraded_159 : decode cX12_upgraded 159 = .ok (.iload 8, 2) := by decide +kernel
theorem dX12_upgraded_161 : decode cX12_upgraded 161 = .ok (.i2l, 1) := by decide +kernel
theorem dX12_upgraded_162 : decode cX12_upgraded 162 = .ok (.goto 13, 3) := by decide +kernel
theorem dX12_upgraded_165 : decode cX12_upgraded 165 = .ok (.aload_n 0, 1) := by decide +kernel
theorem dX12_upgraded_166 : decode cX12_upgraded 166 = .ok (.getfield 58, 3) := by decide +kernel
theorem dX12_upgraded_169 : decode cX12_upgraded 169 = .ok (.iconst 3, 1) := by decide +kernel
theorem dX12_upgraded_170 : decode cX12_upgraded 170 = .ok (.iload 8, 2) := by decide +kernel
theorem dX12_upgraded_172 : decode cX12_upgraded 172 = .ok (.imul, 1) := by decide +kernel
theorem dX12_upgraded_173 : decode cX12_upgraded 173 = .ok (.iaload, 1) := by decide +kernel
theorem dX12_upgraded_174 : decode cX12_upgraded 174 = .ok (.i2l, 1) := by decide +kernel
theorem dX12_upgraded_175 : decode cX12_upgraded 175 = .ok (.lastore, 1) := by decide +kernel
theorem dX12_upgraded_176 : decode cX12_upgraded 176 = .ok (.iinc 4 1, 3) := by decide +kernel
theorem dX12_upgraded_179 : decode cX12_upgraded 179 = .ok (.goto 127, 3) := by decide +kernel
theorem dX12_upgraded_182 : decode cX12_upgraded 182 = .ok (.iload 7, 2) := by decide +kernel
theorem dX12_upgraded_184 : decode cX12_upgraded 184 = .ok (.iconst 4, 1) := by decide +kernel
theorem dX12_upgraded_185 : decode cX12_upgraded 185 = .ok (.if_icmp .ne 39, 3) := by decide +kernel
theorem dX12_upgraded_188 : decode cX12_upgraded 188 = .ok (.iinc 4 (-1), 3) := by decide +kernel
theorem dX12_upgraded_191 : decode cX12_upgraded 191 = .ok (.aload_n 0, 1) := by decide +kernel
theorem dX12_upgraded_192 : decode cX12_upgraded 192 = .ok (.getfield 140, 3) := by decide +kernel
theorem dX12_upgraded_195 : decode cX12_upgraded 195 = .ok (.iload 4, 2) := by decide +kernel
theorem dX12_upgraded_197 : decode cX12_upgraded 197 = .ok (.iconst 1, 1) := by decide +kernel
theorem dX12_upgraded_198 : decode cX12_upgraded 198 = .ok (.isub, 1) := by decide +kernel
theorem dX12_upgraded_199 : decode cX12_upgraded 199 = .ok (.ldc2_w 495, 3) := by decide +kernel
theorem dX12_upgraded_202 : decode cX12_upgraded 202 = .ok (.aload_n 0, 1) := by decide +kernel
theorem dX12_upgraded_203 : decode cX12_upgraded 203 = .ok (.getfield 140, 3) := by decide +kernel
theorem dX12_upgraded_206 : decode cX12_upgraded 206 = .ok (.iload 4, 2) := by decide +kernel
theorem dX12_upgraded_208 : decode cX12_upgraded 208 = .ok (.iconst 1, 1) := by decide +kernel
theorem dX12_upgraded_209 : decode cX12_upgraded 209 = .ok (.isub, 1) := by decide +kernel
theorem dX12_upgraded_210 : decode cX12_upgraded 210 = .ok (.laload, 1) := by decide +kernel
theorem dX12_upgraded_211 : decode cX12_upgraded 211 = .ok (.lmul, 1) := by decide +kernel
theorem dX12_upgraded_212 : decode cX12_upgraded 212 = .ok (.aload_n 0, 1) := by decide +kernel
theorem dX12_upgraded_213 : decode cX12_upgraded 213 = .ok (.getfield 140, 3) := by decide +kernel
theorem dX12_upgraded_216 : decode cX12_upgraded 216 = .ok (.iload 4, 2) := by decide +kernel
theorem dX12_upgraded_218 : decode cX12_upgraded 218 = .ok (.laload, 1) := by decide +kernel
theorem dX12_upgraded_219 : decode cX12_upgraded 219 = .ok (.ladd, 1) := by decide +kernel
theorem dX12_upgraded_220 : decode cX12_upgraded 220 = .ok (.lastore, 1) := by decide +kernel
theorem dX12_upgraded_221 : decode cX12_upgraded 221 = .ok (.goto 85, 3) := by decide +kernel
theorem dX12_upgraded_224 : decode cX12_upgraded 224 = .ok (.aload_n 0, 1) := by decide +kernel
theorem dX12_upgraded_225 : decode cX12_upgraded 225 = .ok (.getfield 140, 3) := by decide +kernel
theorem dX12_upgraded_228 : decode cX12_upgraded 228 = .ok (.iload 4, 2) := by decide +kernel
theorem dX12_upgraded_230 : decode cX12_upgraded 230 = .ok (.iconst 1, 1) := by decide +kernel
theorem dX12_upgraded_231 : decode cX12_upgraded 231 = .ok (.isub, 1) := by decide +kernel
theorem dX12_upgraded_232 : decode cX12_upgraded 232 = .ok (.laload, 1) := by decide +kernel
theorem dX12_upgraded_233 : decode cX12_upgraded 233 = .ok (.lstore 9, 2) := by decide +kernel
theorem dX12_upgraded_235 : decode cX12_upgraded 235 = .ok (.aload_n 0, 1) := by decide +kernel
theorem dX12_upgraded_236 : decode cX12_upgraded 236 = .ok (.getfield 140, 3) := by decide +kernel
theorem dX12_upgraded_239 : decode cX12_upgraded 239 = .ok (.iload 4, 2) := by decide +kernel
theorem dX12_upgraded_241 : decode cX12_upgraded 241 = .ok (.iconst 1, 1) := by decide +kernel
theorem dX12_upgraded_242 : decode cX12_upgraded 242 = .ok (.isub, 1) := by decide +kernel
theorem dX12_upgraded_243 : decode cX12_upgraded 243 = .ok (.iload 7, 2) := by decide +kernel
theorem dX12_upgraded_245 : decode cX12_upgraded 245 = .ok (.iconst 2, 1) := by decide +kernel
theorem dX12_upgraded_246 : decode cX12_upgraded 246 = .ok (.if_icmp .ne 12, 3) := by decide +kernel
theorem dX12_upgraded_249 : decode cX12_upgraded 249 = .ok (.lload 9, 2) := by decide +kernel
theorem dX12_upgraded_251 : decode cX12_upgraded 251 = .ok (.iload 8, 2) := by decide +kernel
theorem dX12_upgraded_253 : decode cX12_upgraded 253 = .ok (.i2l, 1) := by decide +kernel
theorem dX12_upgraded_254 : decode cX12_upgraded 254 = .ok (.ladd, 1) := by decide +kernel
theorem dX12_upgraded_255 : decode cX12_upgraded 255 = .ok (.goto 50, 3) := by decide +kernel
theorem dX12_upgraded_258 : decode cX12_upgraded 258 = .ok (.iload 7, 2) := by decide +kernel
theorem dX12_upgraded_260 : decode cX12_upgraded 260 = .ok (.iconst 3, 1) := by decide +kernel
theorem dX12_upgraded_261 : decode cX12_upgraded 261 = .ok (.if_icmp .ne 12, 3) := by decide +kernel
theorem dX12_upgraded_264 : decode cX12_upgraded 264 = .ok (.lload 9, 2) := by decide +kernel
theorem dX12_upgraded_266 : decode cX12_upgraded 266 = .ok (.iload 8, 2) := by decide +kernel
theorem dX12_upgraded_268 : decode cX12_upgraded 268 = .ok (.i2l, 1) := by decide +kernel
theorem dX12_upgraded_269 : decode cX12_upgraded 269 = .ok (.lmul, 1) := by decide +kernel
theorem dX12_upgraded_270 : decode cX12_upgraded 270 = .ok (.goto 35, 3) := by decide +kernel
theorem dX12_upgraded_273 : decode cX12_upgraded 273 = .ok (.iload 7, 2) := by decide +kernel
theorem dX12_upgraded_275 : decode cX12_upgraded 275 = .ok (.iconst 5, 1) := by decide +kernel
theorem dX12_upgraded_276 : decode cX12_upgraded 276 = .ok (.if_icmp .ne 14, 3) := by decide +kernel
theorem dX12_upgraded_279 : decode cX12_upgraded 279 = .ok (.lload 9, 2) := by decide +kernel
theorem dX12_upgraded_281 : decode cX12_upgraded 281 = .ok (.iload 8, 2) := by decide +kernel
theorem dX12_upgraded_283 : decode cX12_upgraded 283 = .ok (.i2l, 1) := by decide +kernel
theorem dX12_upgraded_284 : decode cX12_upgraded 284 = .ok (.invokestatic 497, 3) := by decide +kernel
theorem dX12_upgraded_287 : decode cX12_upgraded 287 = .ok (.goto 18, 3) := by decide +kernel
theorem dX12_upgraded_290 : decode cX12_upgraded 290 = .ok (.lload 9, 2) := by decide +kernel
theorem dX12_upgraded_292 : decode cX12_upgraded 292 = .ok (.iload 8, 2) := by decide +kernel
theorem dX12_upgraded_294 : decode cX12_upgraded 294 = .ok (.i2l, 1) := by decide +kernel
theorem dX12_upgraded_295 : decode cX12_upgraded 295 = .ok (.lload 9, 2) := by decide +kernel
theorem dX12_upgraded_297 : decode cX12_upgraded 297 = .ok (.iload 8, 2) := by decide +kernel
theorem dX12_upgraded_299 : decode cX12_upgraded 299 = .ok (.i2l, 1) := by decide +kernel
theorem dX12_upgraded_300 : decode cX12_upgraded 300 = .ok (.invokestatic 497, 3) := by decide +kernel
theorem dX12_upgraded_303 : decode cX12_upgraded 303 = .ok (.lmul, 1) := by decide +kernel
theorem dX12_upgraded_304 : decode cX12_upgraded 304 = .ok (.lsub, 1) := by decide +kernel
theorem dX12_upgraded_305 : decode cX12_upgraded 305 = .ok (.lastore, 1) := by decide +kernel
theorem dX12_upgraded_306 : decode cX12_upgraded 306 = .ok (.iload 5, 2) := by decide +kernel
theorem dX12_upgraded_308 : decode cX12_upgraded 308 = .ok (.ifCond .eq 47, 3) := by decide +kernel
theorem dX12_upgraded_311 : decode cX12_upgraded 311 = .ok (.aload_n 0, 1) := by decide +kernel
theorem dX12_upgraded_312 : decode cX12_upgraded 312 = .ok (.getfield 140, 3) := by decide +kernel
theorem dX12_upgraded_315 : decode cX12_upgraded 315 = .ok (.iload 4, 2) := by decide +kernel
theorem dX12_upgraded_317 : decode cX12_upgraded 317 = .ok (.iconst 1, 1) := by decide +kernel
theorem dX12_upgraded_318 : decode cX12_upgraded 318 = .ok (.isub, 1) := by decide +kernel
theorem dX12_upgraded_319 : decode cX12_upgraded 319 = .ok (.laload, 1) := by decide +kernel
theorem dX12_upgraded_320 : decode cX12_upgraded 320 = .ok (.aload_n 0, 1) := by decide +kernel
theorem dX12_upgraded_321 : decode cX12_upgraded 321 = .ok (.getfield 140, 3) := by decide +kernel
theorem dX12_upgraded_324 : decode cX12_upgraded 324 = .ok (.iload 4, 2) := by decide +kernel
theorem dX12_upgraded_326 : decode cX12_upgraded 326 = .ok (.iconst 1, 1) := by decide +kernel
theorem dX12_upgraded_327 : decode cX12_upgraded 327 = .ok (.isub, 1) := by decide +kernel
theorem dX12_upgraded_328 : decode cX12_upgraded 328 = .ok (.laload, 1) := by decide +kernel
theorem dX12_upgraded_329 : decode cX12_upgraded 329 = .ok (.l2i, 1) := by decide +kernel
theorem dX12_upgraded_330 : decode cX12_upgraded 330 = .ok (.i2l, 1) := by decide +kernel
theorem dX12_upgraded_331 : decode cX12_upgraded 331 = .ok (.lcmp, 1) := by decide +kernel
theorem dX12_upgraded_332 : decode cX12_upgraded 332 = .ok (.ifCond .ne 23, 3) := by decide +kernel
theorem dX12_upgraded_335 : decode cX12_upgraded 335 = .ok (.aload_n 0, 1) := by decide +kernel
theorem dX12_upgraded_336 : decode cX12_upgraded 336 = .ok (.getfield 140, 3) := by decide +kernel
theorem dX12_upgraded_339 : decode cX12_upgraded 339 = .ok (.iload 4, 2) := by decide +kernel
theorem dX12_upgraded_341 : decode cX12_upgraded 341 = .ok (.iconst 1, 1) := by decide +kernel
theorem dX12_upgraded_342 : decode cX12_upgraded 342 = .ok (.isub, 1) := by decide +kernel
theorem dX12_upgraded_343 : decode cX12_upgraded 343 = .ok (.laload, 1) := by decide +kernel
theorem dX12_upgraded_344 : decode cX12_upgraded 344 = .ok (.ldc2_w 501, 3) := by decide +kernel
theorem dX12_upgraded_347 : decode cX12_upgraded 347 = .ok (.lcmp, 1) := by decide +kernel
theorem dX12_upgraded_348 : decode cX12_upgraded 348 = .ok (.ifCond .eq 7, 3) := by decide +kernel
theorem dX12_upgraded_351 : decode cX12_upgraded 351 = .ok (.iconst 1, 1) := by decide +kernel
theorem dX12_upgraded_352 : decode cX12_upgraded 352 = .ok (.goto 4, 3) := by decide +kernel
theorem dX12_upgraded_355 : decode cX12_upgraded 355 = .ok (.iconst 0, 1) := by decide +kernel
theorem dX12_upgraded_356 : decode cX12_upgraded 356 = .ok (.istore 5, 2) := by decide +kernel
theorem dX12_upgraded_358 : decode cX12_upgraded 358 = .ok (.iinc 6 1, 3) := by decide +kernel
theorem dX12_upgraded_361 : decode cX12_upgraded 361 = .ok (.goto (-293), 3) := by decide +kernel
theorem dX12_upgraded_364 : decode cX12_upgraded 364 = .ok (.iload 5, 2) := by decide +kernel
theorem dX12_upgraded_366 : decode cX12_upgraded 366 = .ok (.ifCond .eq 13, 3) := by decide +kernel
theorem dX12_upgraded_369 : decode cX12_upgraded 369 = .ok (.aload_n 0, 1) := by decide +kernel
theorem dX12_upgraded_370 : decode cX12_upgraded 370 = .ok (.getfield 140, 3) := by decide +kernel
theorem dX12_upgraded_373 : decode cX12_upgraded 373 = .ok (.iconst 0, 1) := by decide +kernel
theorem dX12_upgraded_374 : decode cX12_upgraded 374 = .ok (.laload, 1) := by decide +kernel
theorem dX12_upgraded_375 : decode cX12_upgraded 375 = .ok (.l2i, 1) := by decide +kernel
theorem dX12_upgraded_376 : decode cX12_upgraded 376 = .ok (.goto 5, 3) := by decide +kernel
theorem dX12_upgraded_379 : decode cX12_upgraded 379 = .ok (.ldc 238, 2) := by decide +kernel
theorem dX12_upgraded_381 : decode cX12_upgraded 381 = .ok (.ireturn, 1) := by decide +kernel
def is_X12_upgraded (Rt : np_Rt) : List (Nat × np_Op) := [(0, np_ald 1 0), (1, np_ald 1 0), (2, np_ild 1 1), (3, nq_callV 12 2 sp_X12_isUpgrade 2 0 0 0 0), (6, nq_if (fun x => x = 0) 20), (9, np_ild 1 2), (10, nq_call 1 sp_X12_isSlot 1 0 0 0 0), (13, nq_if (fun x => x = 0) 20), (16, np_push 1 (.int 0)), (17, np_goto 21), (20, np_push 1 (.int 1)), (21, nq_callV 12 2 sp_X12_can 2 0 0 0 0), (24, nq_ifne 29), (27, np_push 1 (.int 0)), (28, np_ret Rt), (29, np_push 2 (.int 8)), (31, np_ild 1 1), (32, np_ib (fun x y => x * y)), (33, np_ild 1 2), (34, np_ib (fun x y => x + y)), (35, np_ist 1 3), (36, np_push 1 (.int 0)), (37, np_ist 2 4), (39, np_ald 1 0), (40, nq_getf 12 45), (43, np_ild 1 3), (44, nq_ialdT .int), (45, nq_if (fun x => x ≤ 0) 52), (48, np_push 1 (.int 1)), (49, np_goto 53), (52, np_push 1 (.int 0)), (53, np_ist 2 5), (55, np_push 2 (.int 60)), (57, np_ild 1 1), (58, np_ib (fun x y => x * y)), (59, np_ald 1 0), (60, nq_getf 12 44), (63, np_ild 1 3), (64, nq_ialdT .int), (65, np_ib (fun x y => x + y)), (66, np_ist 2 6), (68, np_ild 2 6), (70, np_push 2 (.int 60)), (72, np_ild 1 1), (73, np_ib (fun x y => x * y)), (74, np_ald 1 0), (75, nq_getf 12 44), (78, np_ild 1 3), (79, nq_ialdT .int), (80, np_ib (fun x y => x + y)), (81, np_ald 1 0), (82, nq_getf 12 45), (85, np_ild 1 3), (86, nq_ialdT .int), (87, np_ib (fun x y => x + y)), (88, nq_ic (fun x y => y ≤ x) 364), (91, np_ild 2 5), (93, nq_if (fun x => x = 0) 364), (96, np_ald 1 0), (97, nq_getf 12 42), (100, np_ild 2 6), (102, nq_ialdT .int), (103, np_ist 2 7), (105, np_ald 1 0), (106, nq_getf 12 43), (109, np_ild 2 6), (111, nq_ialdT .int), (112, np_ist 2 8), (114, np_ild 2 7), (116, np_push 1 (.int 1)), (117, nq_ic (fun x y => y < x) 182), (120, np_ild 2 7), (122, np_push 1 (.int 1)), (123, nq_ic (fun x y => x = y) 140), (126, np_ald 1 0), (127, nq_getf 12 19), (130, np_push 1 (.int 3)), (131, np_ild 2 8), (133, np_ib (fun x y => x * y)), (134, nq_call 2 sp_X12_has 2 0 0 0 0), (137, nq_if (fun x => x = 0) 144), (140, np_push 1 (.int 1)), (141, np_goto 145), (144, np_push 1 (.int 0)), (145, np_ist 2 5), (147, np_ald 1 0), (148, nq_getf 12 49), (151, np_ild 2 4), (153, np_ild 2 7), (155, np_push 1 (.int 1)), (156, nq_icne 165), (159, np_ild 2 8), (161, np_i2l), (162, np_goto 175), (165, np_ald 1 0), (166, nq_getf 12 18), (169, np_push 1 (.int 3)), (170, np_ild 2 8), (172, np_ib (fun x y => x * y)), (173, nq_ialdT .int), (174, np_i2l), (175, nq_last), (176, np_iinc 4 1), (179, np_goto 306), (182, np_ild 2 7), (184, np_push 1 (.int 4)), (185, nq_icne 224), (188, np_iinc 4 (-1)), (191, np_ald 1 0), (192, nq_getf 12 49), (195, np_ild 2 4), (197, np_push 1 (.int 1)), (198, np_ib (fun x y => x - y)), (199, np_push 3 (.long 100)), (202, np_ald 1 0), (203, nq_getf 12 49), (206, np_ild 2 4), (208, np_push 1 (.int 1)), (209, np_ib (fun x y => x - y)), (210, nq_lald), (211, np_lb (fun x y => x * y)), (212, np_ald 1 0), (213, nq_getf 12 49), (216, np_ild 2 4), (218, nq_lald), (219, np_lb (fun x y => x + y)), (220, nq_last), (221, np_goto 306), (224, np_ald 1 0), (225, nq_getf 12 49), (228, np_ild 2 4), (230, np_push 1 (.int 1)), (231, np_ib (fun x y => x - y)), (232, nq_lald), (233, np_lst 2 9), (235, np_ald 1 0), (236, nq_getf 12 49), (239, np_ild 2 4), (241, np_push 1 (.int 1)), (242, np_ib (fun x y => x - y)), (243, np_ild 2 7), (245, np_push 1 (.int 2)), (246, nq_icne 258), (249, np_lld 2 9), (251, np_ild 2 8), (253, np_i2l), (254, np_lb (fun x y => x + y)), (255, np_goto 305), (258, np_ild 2 7), (260, np_push 1 (.int 3)), (261, nq_icne 273), (264, np_lld 2 9), (266, np_ild 2 8), (268, np_i2l), (269, np_lb (fun x y => x * y)), (270, np_goto 305), (273, np_ild 2 7), (275, np_push 1 (.int 5)), (276, nq_icne 290), (279, np_lld 2 9), (281, np_ild 2 8), (283, np_i2l), (287, np_goto 305), (290, np_lld 2 9), (292, np_ild 2 8), (294, np_i2l), (295, np_lld 2 9), (297, np_ild 2 8), (299, np_i2l), (303, np_lb (fun x y => x * y)), (304, np_lb (fun x y => x - y)), (305, nq_last), (306, np_ild 2 5), (308, nq_if (fun x => x = 0) 355), (311, np_ald 1 0), (312, nq_getf 12 49), (315, np_ild 2 4), (317, np_push 1 (.int 1)), (318, np_ib (fun x y => x - y)), (319, nq_lald), (320, np_ald 1 0), (321, nq_getf 12 49), (324, np_ild 2 4), (326, np_push 1 (.int 1)), (327, np_ib (fun x y => x - y)), (328, nq_lald), (329, np_l2i), (330, np_i2l), (331, np_lcmp), (332, nq_ifne 355), (335, np_ald 1 0), (336, nq_getf 12 49), (339, np_ild 2 4), (341, np_push 1 (.int 1)), (342, np_ib (fun x y => x - y)), (343, nq_lald), (344, np_push 3 (.long (-2147483648))), (347, np_lcmp), (348, nq_if (fun x => x = 0) 355), (351, np_push 1 (.int 1)), (352, np_goto 356), (355, np_push 1 (.int 0)), (356, np_ist 2 5), (358, np_iinc 6 1), (361, np_goto 68), (364, np_ild 2 5), (366, nq_if (fun x => x = 0) 379), (369, np_ald 1 0), (370, nq_getf 12 49), (373, np_push 1 (.int 0)), (374, nq_lald), (375, np_l2i), (376, np_goto 381), (379, np_push 2 (.int (-2147483648))), (381, np_ret Rt)]
set_option maxRecDepth 20000 in
theorem so_X12_upgraded {X : np_Ctx} {Rt : np_Rt} (hX : np_ok RX12 cX12_upgraded 11 2 43 0 0 .ireturn X) (hR : ∀ st w ce sl, Rt st w ce sl → X.2.2.1 st w ce sl) : ∀ q ∈ is_X12_upgraded Rt, np_S X q.1 q.2 :=
  List.forall_mem_cons.mpr ⟨np_s_aload_n hX dX12_upgraded_0 rfl, List.forall_mem_cons.mpr ⟨np_s_aload_n hX dX12_upgraded_1 rfl, List.forall_mem_cons.mpr ⟨np_s_iload_n hX dX12_upgraded_2 rfl, List.forall_mem_cons.mpr ⟨np_S.mono (op := np_callV 12 2 sp_X12_isUpgrade 2 0 0 0 0) (np_s_callV hX C_X12_isUpgrade dX12_upgraded_3 (q := (RX12, TX12, 77)) rfl rfl gw2249 gw142 gw2246 gw2248 gw117 ⟨by decide, by decide, by decide⟩ (by decide) (by decide)) nq_callV_le, List.forall_mem_cons.mpr ⟨np_S.mono (op := np_if (fun x => x = 0) 20) (np_s_if_eq hX dX12_upgraded_6 (by decide)) nq_if_le, List.forall_mem_cons.mpr ⟨np_s_iload_n hX dX12_upgraded_9 rfl, List.forall_mem_cons.mpr ⟨np_S.mono (op := np_call 1 sp_X12_isSlot 1 0 0 0 0) (np_s_callS hX C_X12_isSlot dX12_upgraded_10 gw1883 gw142 gw1881 gw1882 ⟨by decide, by decide, by decide⟩ (by decide) (by decide)) nq_call_le, List.forall_mem_cons.mpr ⟨np_S.mono (op := np_if (fun x => x = 0) 20) (np_s_if_eq hX dX12_upgraded_13 (by decide)) nq_if_le, List.forall_mem_cons.mpr ⟨np_s_iconst hX dX12_upgraded_16 (by decide), List.forall_mem_cons.mpr ⟨np_s_goto hX dX12_upgraded_17 (by decide), List.forall_mem_cons.mpr ⟨np_s_iconst hX dX12_upgraded_20 (by decide), List.forall_mem_cons.mpr ⟨np_S.mono (op := np_callV 12 2 sp_X12_can 2 0 0 0 0) (np_s_callV hX C_X12_can dX12_upgraded_21 (q := (RX12, TX12, 77)) rfl rfl gw1890 gw142 gw1887 gw1889 gw63 ⟨by decide, by decide, by decide⟩ (by decide) (by decide)) nq_callV_le, List.forall_mem_cons.mpr ⟨np_S.mono (op := np_ifne 29) (np_s_if_ne hX dX12_upgraded_24 (by decide)) nq_ifne_le, List.forall_mem_cons.mpr ⟨np_s_iconst hX dX12_upgraded_27 (by decide), List.forall_mem_cons.mpr ⟨np_S.mono (op := np_ret X.2.2.1) (np_s_ret hX dX12_upgraded_28) (nq_ret_le hR), List.forall_mem_cons.mpr ⟨np_s_bipush hX dX12_upgraded_29 (by decide), List.forall_mem_cons.mpr ⟨np_s_iload_n hX dX12_upgraded_31 rfl, List.forall_mem_cons.mpr ⟨np_s_imul hX dX12_upgraded_32, List.forall_mem_cons.mpr ⟨np_s_iload_n hX dX12_upgraded_33 rfl, List.forall_mem_cons.mpr ⟨np_s_iadd hX dX12_upgraded_34, List.forall_mem_cons.mpr ⟨np_s_istore_n hX dX12_upgraded_35 rfl (by decide), List.forall_mem_cons.mpr ⟨np_s_iconst hX dX12_upgraded_36 (by decide), List.forall_mem_cons.mpr ⟨np_s_istore hX dX12_upgraded_37 (by decide), List.forall_mem_cons.mpr ⟨np_s_aload_n hX dX12_upgraded_39 rfl, List.forall_mem_cons.mpr ⟨np_S.mono (op := np_getf 12 45) (np_s_getf hX dX12_upgraded_40 (C := RX12) (T := TX12) (N := 77) rfl guX12 (by decide) gw1681) nq_getf_le, List.forall_mem_cons.mpr ⟨np_s_iload_n hX dX12_upgraded_43 rfl, List.forall_mem_cons.mpr ⟨np_S.mono (op := np_ialdT .int) (np_s_iald hX dX12_upgraded_44) nq_ialdT_le, List.forall_mem_cons.mpr ⟨np_S.mono (op := np_if (fun x => x ≤ 0) 52) (np_s_if_le hX dX12_upgraded_45 (by decide)) nq_if_le, List.forall_mem_cons.mpr ⟨np_s_iconst hX dX12_upgraded_48 (by decide), List.forall_mem_cons.mpr ⟨np_s_goto hX dX12_upgraded_49 (by decide), List.forall_mem_cons.mpr ⟨np_s_iconst hX dX12_upgraded_52 (by decide), List.forall_mem_cons.mpr ⟨np_s_istore hX dX12_upgraded_53 (by decide), List.forall_mem_cons.mpr ⟨np_s_bipush hX dX12_upgraded_55 (by decide), List.forall_mem_cons.mpr ⟨np_s_iload_n hX dX12_upgraded_57 rfl, List.forall_mem_cons.mpr ⟨np_s_imul hX dX12_upgraded_58, List.forall_mem_cons.mpr ⟨np_s_aload_n hX dX12_upgraded_59 rfl, List.forall_mem_cons.mpr ⟨np_S.mono (op := np_getf 12 44) (np_s_getf hX dX12_upgraded_60 (C := RX12) (T := TX12) (N := 77) rfl guX12 (by decide) gw1680) nq_getf_le, List.forall_mem_cons.mpr ⟨np_s_iload_n hX dX12_upgraded_63 rfl, List.forall_mem_cons.mpr ⟨np_S.mono (op := np_ialdT .int) (np_s_iald hX dX12_upgraded_64) nq_ialdT_le, List.forall_mem_cons.mpr ⟨np_s_iadd hX dX12_upgraded_65, List.forall_mem_cons.mpr ⟨np_s_istore hX dX12_upgraded_66 (by decide), List.forall_mem_cons.mpr ⟨np_s_iload hX dX12_upgraded_68, List.forall_mem_cons.mpr ⟨np_s_bipush hX dX12_upgraded_70 (by decide), List.forall_mem_cons.mpr ⟨np_s_iload_n hX dX12_upgraded_72 rfl, List.forall_mem_cons.mpr ⟨np_s_imul hX dX12_upgraded_73, List.forall_mem_cons.mpr ⟨np_s_aload_n hX dX12_upgraded_74 rfl, List.forall_mem_cons.mpr ⟨np_S.mono (op := np_getf 12 44) (np_s_getf hX dX12_upgraded_75 (C := RX12) (T := TX12) (N := 77) rfl guX12 (by decide) gw1680) nq_getf_le, List.forall_mem_cons.mpr ⟨np_s_iload_n hX dX12_upgraded_78 rfl, List.forall_mem_cons.mpr ⟨np_S.mono (op := np_ialdT .int) (np_s_iald hX dX12_upgraded_79) nq_ialdT_le, List.forall_mem_cons.mpr ⟨np_s_iadd hX dX12_upgraded_80, List.forall_mem_cons.mpr ⟨np_s_aload_n hX dX12_upgraded_81 rfl, List.forall_mem_cons.mpr ⟨np_S.mono (op := np_getf 12 45) (np_s_getf hX dX12_upgraded_82 (C := RX12) (T := TX12) (N := 77) rfl guX12 (by decide) gw1681) nq_getf_le, List.forall_mem_cons.mpr ⟨np_s_iload_n hX dX12_upgraded_85 rfl, List.forall_mem_cons.mpr ⟨np_S.mono (op := np_ialdT .int) (np_s_iald hX dX12_upgraded_86) nq_ialdT_le, List.forall_mem_cons.mpr ⟨np_s_iadd hX dX12_upgraded_87, List.forall_mem_cons.mpr ⟨np_S.mono (op := np_ic (fun x y => y ≤ x) 364) (np_s_icmp_ge hX dX12_upgraded_88 (by decide)) nq_ic_le, List.forall_mem_cons.mpr ⟨np_s_iload hX dX12_upgraded_91, List.forall_mem_cons.mpr ⟨np_S.mono (op := np_if (fun x => x = 0) 364) (np_s_if_eq hX dX12_upgraded_93 (by decide)) nq_if_le, List.forall_mem_cons.mpr ⟨np_s_aload_n hX dX12_upgraded_96 rfl, List.forall_mem_cons.mpr ⟨np_S.mono (op := np_getf 12 42) (np_s_getf hX dX12_upgraded_97 (C := RX12) (T := TX12) (N := 77) rfl guX12 (by decide) gw1678) nq_getf_le, List.forall_mem_cons.mpr ⟨np_s_iload hX dX12_upgraded_100, List.forall_mem_cons.mpr ⟨np_S.mono (op := np_ialdT .int) (np_s_iald hX dX12_upgraded_102) nq_ialdT_le, List.forall_mem_cons.mpr ⟨np_s_istore hX dX12_upgraded_103 (by decide), List.forall_mem_cons.mpr ⟨np_s_aload_n hX dX12_upgraded_105 rfl, List.forall_mem_cons.mpr ⟨np_S.mono (op := np_getf 12 43) (np_s_getf hX dX12_upgraded_106 (C := RX12) (T := TX12) (N := 77) rfl guX12 (by decide) gw1679) nq_getf_le, List.forall_mem_cons.mpr ⟨np_s_iload hX dX12_upgraded_109, List.forall_mem_cons.mpr ⟨np_S.mono (op := np_ialdT .int) (np_s_iald hX dX12_upgraded_111) nq_ialdT_le, List.forall_mem_cons.mpr ⟨np_s_istore hX dX12_upgraded_112 (by decide), List.forall_mem_cons.mpr ⟨np_s_iload hX dX12_upgraded_114, List.forall_mem_cons.mpr ⟨np_s_iconst hX dX12_upgraded_116 (by decide), List.forall_mem_cons.mpr ⟨np_S.mono (op := np_ic (fun x y => y < x) 182) (np_s_icmp_gt hX dX12_upgraded_117 (by decide)) nq_ic_le, List.forall_mem_cons.mpr ⟨np_s_iload hX dX12_upgraded_120, List.forall_mem_cons.mpr ⟨np_s_iconst hX dX12_upgraded_122 (by decide), List.forall_mem_cons.mpr ⟨np_S.mono (op := np_ic (fun x y => x = y) 140) (np_s_icmp_eq hX dX12_upgraded_123 (by decide)) nq_ic_le, List.forall_mem_cons.mpr ⟨np_s_aload_n hX dX12_upgraded_126 rfl, List.forall_mem_cons.mpr ⟨np_S.mono (op := np_getf 12 19) (np_s_getf hX dX12_upgraded_127 (C := RX12) (T := TX12) (N := 77) rfl guX12 (by decide) gw1655) nq_getf_le, List.forall_mem_cons.mpr ⟨np_s_iconst hX dX12_upgraded_130 (by decide), List.forall_mem_cons.mpr ⟨np_s_iload hX dX12_upgraded_131, List.forall_mem_cons.mpr ⟨np_s_imul hX dX12_upgraded_133, List.forall_mem_cons.mpr ⟨np_S.mono (op := np_call 2 sp_X12_has 2 0 0 0 0) (np_s_callS hX C_X12_has dX12_upgraded_134 gw1943 gw142 gw1941 gw1942 ⟨by decide, by decide, by decide⟩ (by decide) (by decide)) nq_call_le, List.forall_mem_cons.mpr ⟨np_S.mono (op := np_if (fun x => x = 0) 144) (np_s_if_eq hX dX12_upgraded_137 (by decide)) nq_if_le, List.forall_mem_cons.mpr ⟨np_s_iconst hX dX12_upgraded_140 (by decide), List.forall_mem_cons.mpr ⟨np_s_goto hX dX12_upgraded_141 (by decide), List.forall_mem_cons.mpr ⟨np_s_iconst hX dX12_upgraded_144 (by decide), List.forall_mem_cons.mpr ⟨np_s_istore hX dX12_upgraded_145 (by decide), List.forall_mem_cons.mpr ⟨np_s_aload_n hX dX12_upgraded_147 rfl, List.forall_mem_cons.mpr ⟨np_S.mono (op := np_getf 12 49) (np_s_getf hX dX12_upgraded_148 (C := RX12) (T := TX12) (N := 77) rfl guX12 (by decide) gw1685) nq_getf_le, List.forall_mem_cons.mpr ⟨np_s_iload hX dX12_upgraded_151, List.forall_mem_cons.mpr ⟨np_s_iload hX dX12_upgraded_153, List.forall_mem_cons.mpr ⟨np_s_iconst hX dX12_upgraded_155 (by decide), List.forall_mem_cons.mpr ⟨np_S.mono (op := np_icne 165) (np_s_icmp_ne hX dX12_upgraded_156 (by decide)) nq_icne_le, List.forall_mem_cons.mpr ⟨np_s_iload hX dX12_upgraded_159, List.forall_mem_cons.mpr ⟨np_s_i2l hX dX12_upgraded_161, List.forall_mem_cons.mpr ⟨np_s_goto hX dX12_upgraded_162 (by decide), List.forall_mem_cons.mpr ⟨np_s_aload_n hX dX12_upgraded_165 rfl, List.forall_mem_cons.mpr ⟨np_S.mono (op := np_getf 12 18) (np_s_getf hX dX12_upgraded_166 (C := RX12) (T := TX12) (N := 77) rfl guX12 (by decide) gw1654) nq_getf_le, List.forall_mem_cons.mpr ⟨np_s_iconst hX dX12_upgraded_169 (by decide), List.forall_mem_cons.mpr ⟨np_s_iload hX dX12_upgraded_170, List.forall_mem_cons.mpr ⟨np_s_imul hX dX12_upgraded_172, List.forall_mem_cons.mpr ⟨np_S.mono (op := np_ialdT .int) (np_s_iald hX dX12_upgraded_173) nq_ialdT_le, List.forall_mem_cons.mpr ⟨np_s_i2l hX dX12_upgraded_174, List.forall_mem_cons.mpr ⟨np_S.mono (op := np_last) (np_s_last hX dX12_upgraded_175) nq_last_le, List.forall_mem_cons.mpr ⟨np_s_iinc hX dX12_upgraded_176 (by decide), List.forall_mem_cons.mpr ⟨np_s_goto hX dX12_upgraded_179 (by decide), List.forall_mem_cons.mpr ⟨np_s_iload hX dX12_upgraded_182, List.forall_mem_cons.mpr ⟨np_s_iconst hX dX12_upgraded_184 (by decide), List.forall_mem_cons.mpr ⟨np_S.mono (op := np_icne 224) (np_s_icmp_ne hX dX12_upgraded_185 (by decide)) nq_icne_le, List.forall_mem_cons.mpr ⟨np_s_iinc hX dX12_upgraded_188 (by decide), List.forall_mem_cons.mpr ⟨np_s_aload_n hX dX12_upgraded_191 rfl, List.forall_mem_cons.mpr ⟨np_S.mono (op := np_getf 12 49) (np_s_getf hX dX12_upgraded_192 (C := RX12) (T := TX12) (N := 77) rfl guX12 (by decide) gw1685) nq_getf_le, List.forall_mem_cons.mpr ⟨np_s_iload hX dX12_upgraded_195, List.forall_mem_cons.mpr ⟨np_s_iconst hX dX12_upgraded_197 (by decide), List.forall_mem_cons.mpr ⟨np_s_isub hX dX12_upgraded_198, List.forall_mem_cons.mpr ⟨np_s_ldc2 hX dX12_upgraded_199 gw2286, List.forall_mem_cons.mpr ⟨np_s_aload_n hX dX12_upgraded_202 rfl, List.forall_mem_cons.mpr ⟨np_S.mono (op := np_getf 12 49) (np_s_getf hX dX12_upgraded_203 (C := RX12) (T := TX12) (N := 77) rfl guX12 (by decide) gw1685) nq_getf_le, List.forall_mem_cons.mpr ⟨np_s_iload hX dX12_upgraded_206, List.forall_mem_cons.mpr ⟨np_s_iconst hX dX12_upgraded_208 (by decide), List.forall_mem_cons.mpr ⟨np_s_isub hX dX12_upgraded_209, List.forall_mem_cons.mpr ⟨np_S.mono (op := np_lald) (np_s_lald hX dX12_upgraded_210) nq_lald_le, List.forall_mem_cons.mpr ⟨np_s_lmul hX dX12_upgraded_211, List.forall_mem_cons.mpr ⟨np_s_aload_n hX dX12_upgraded_212 rfl, List.forall_mem_cons.mpr ⟨np_S.mono (op := np_getf 12 49) (np_s_getf hX dX12_upgraded_213 (C := RX12) (T := TX12) (N := 77) rfl guX12 (by decide) gw1685) nq_getf_le, List.forall_mem_cons.mpr ⟨np_s_iload hX dX12_upgraded_216, List.forall_mem_cons.mpr ⟨np_S.mono (op := np_lald) (np_s_lald hX dX12_upgraded_218) nq_lald_le, List.forall_mem_cons.mpr ⟨np_s_ladd hX dX12_upgraded_219, List.forall_mem_cons.mpr ⟨np_S.mono (op := np_last) (np_s_last hX dX12_upgraded_220) nq_last_le, List.forall_mem_cons.mpr ⟨np_s_goto hX dX12_upgraded_221 (by decide), List.forall_mem_cons.mpr ⟨np_s_aload_n hX dX12_upgraded_224 rfl, List.forall_mem_cons.mpr ⟨np_S.mono (op := np_getf 12 49) (np_s_getf hX dX12_upgraded_225 (C := RX12) (T := TX12) (N := 77) rfl guX12 (by decide) gw1685) nq_getf_le, List.forall_mem_cons.mpr ⟨np_s_iload hX dX12_upgraded_228, List.forall_mem_cons.mpr ⟨np_s_iconst hX dX12_upgraded_230 (by decide), List.forall_mem_cons.mpr ⟨np_s_isub hX dX12_upgraded_231, List.forall_mem_cons.mpr ⟨np_S.mono (op := np_lald) (np_s_lald hX dX12_upgraded_232) nq_lald_le, List.forall_mem_cons.mpr ⟨np_s_lstore hX dX12_upgraded_233 (by decide), List.forall_mem_cons.mpr ⟨np_s_aload_n hX dX12_upgraded_235 rfl, List.forall_mem_cons.mpr ⟨np_S.mono (op := np_getf 12 49) (np_s_getf hX dX12_upgraded_236 (C := RX12) (T := TX12) (N := 77) rfl guX12 (by decide) gw1685) nq_getf_le, List.forall_mem_cons.mpr ⟨np_s_iload hX dX12_upgraded_239, List.forall_mem_cons.mpr ⟨np_s_iconst hX dX12_upgraded_241 (by decide), List.forall_mem_cons.mpr ⟨np_s_isub hX dX12_upgraded_242, List.forall_mem_cons.mpr ⟨np_s_iload hX dX12_upgraded_243, List.forall_mem_cons.mpr ⟨np_s_iconst hX dX12_upgraded_245 (by decide), List.forall_mem_cons.mpr ⟨np_S.mono (op := np_icne 258) (np_s_icmp_ne hX dX12_upgraded_246 (by decide)) nq_icne_le, List.forall_mem_cons.mpr ⟨np_s_lload hX dX12_upgraded_249, List.forall_mem_cons.mpr ⟨np_s_iload hX dX12_upgraded_251, List.forall_mem_cons.mpr ⟨np_s_i2l hX dX12_upgraded_253, List.forall_mem_cons.mpr ⟨np_s_ladd hX dX12_upgraded_254, List.forall_mem_cons.mpr ⟨np_s_goto hX dX12_upgraded_255 (by decide), List.forall_mem_cons.mpr ⟨np_s_iload hX dX12_upgraded_258, List.forall_mem_cons.mpr ⟨np_s_iconst hX dX12_upgraded_260 (by decide), List.forall_mem_cons.mpr ⟨np_S.mono (op := np_icne 273) (np_s_icmp_ne hX dX12_upgraded_261 (by decide)) nq_icne_le, List.forall_mem_cons.mpr ⟨np_s_lload hX dX12_upgraded_264, List.forall_mem_cons.mpr ⟨np_s_iload hX dX12_upgraded_266, List.forall_mem_cons.mpr ⟨np_s_i2l hX dX12_upgraded_268, List.forall_mem_cons.mpr ⟨np_s_lmul hX dX12_upgraded_269, List.forall_mem_cons.mpr ⟨np_s_goto hX dX12_upgraded_270 (by decide), List.forall_mem_cons.mpr ⟨np_s_iload hX dX12_upgraded_273, List.forall_mem_cons.mpr ⟨np_s_iconst hX dX12_upgraded_275 (by decide), List.forall_mem_cons.mpr ⟨np_S.mono (op := np_icne 290) (np_s_icmp_ne hX dX12_upgraded_276 (by decide)) nq_icne_le, List.forall_mem_cons.mpr ⟨np_s_lload hX dX12_upgraded_279, List.forall_mem_cons.mpr ⟨np_s_iload hX dX12_upgraded_281, List.forall_mem_cons.mpr ⟨np_s_i2l hX dX12_upgraded_283, List.forall_mem_cons.mpr ⟨np_s_goto hX dX12_upgraded_287 (by decide), List.forall_mem_cons.mpr ⟨np_s_lload hX dX12_upgraded_290, List.forall_mem_cons.mpr ⟨np_s_iload hX dX12_upgraded_292, List.forall_mem_cons.mpr ⟨np_s_i2l hX dX12_upgraded_294, List.forall_mem_cons.mpr ⟨np_s_lload hX dX12_upgraded_295, List.forall_mem_cons.mpr ⟨np_s_iload hX dX12_upgraded_297, List.forall_mem_cons.mpr ⟨np_s_i2l hX dX12_upgraded_299, List.forall_mem_cons.mpr ⟨np_s_lmul hX dX12_upgraded_303, List.forall_mem_cons.mpr ⟨np_s_lsub hX dX12_upgraded_304, List.forall_mem_cons.mpr ⟨np_S.mono (op := np_last) (np_s_last hX dX12_upgraded_305) nq_last_le, List.forall_mem_cons.mpr ⟨np_s_iload hX dX12_upgraded_306, List.forall_mem_cons.mpr ⟨np_S.mono (op := np_if (fun x => x = 0) 355) (np_s_if_eq hX dX12_upgraded_308 (by decide)) nq_if_le, List.forall_mem_cons.mpr ⟨np_s_aload_n hX dX12_upgraded_311 rfl, List.forall_mem_cons.mpr ⟨np_S.mono (op := np_getf 12 49) (np_s_getf hX dX12_upgraded_312 (C := RX12) (T := TX12) (N := 77) rfl guX12 (by decide) gw1685) nq_getf_le, List.forall_mem_cons.mpr ⟨np_s_iload hX dX12_upgraded_315, List.forall_mem_cons.mpr ⟨np_s_iconst hX dX12_upgraded_317 (by decide), List.forall_mem_cons.mpr ⟨np_s_isub hX dX12_upgraded_318, List.forall_mem_cons.mpr ⟨np_S.mono (op := np_lald) (np_s_lald hX dX12_upgraded_319) nq_lald_le, List.forall_mem_cons.mpr ⟨np_s_aload_n hX dX12_upgraded_320 rfl, List.forall_mem_cons.mpr ⟨np_S.mono (op := np_getf 12 49) (np_s_getf hX dX12_upgraded_321 (C := RX12) (T := TX12) (N := 77) rfl guX12 (by decide) gw1685) nq_getf_le, List.forall_mem_cons.mpr ⟨np_s_iload hX dX12_upgraded_324, List.forall_mem_cons.mpr ⟨np_s_iconst hX dX12_upgraded_326 (by decide), List.forall_mem_cons.mpr ⟨np_s_isub hX dX12_upgraded_327, List.forall_mem_cons.mpr ⟨np_S.mono (op := np_lald) (np_s_lald hX dX12_upgraded_328) nq_lald_le, List.forall_mem_cons.mpr ⟨np_s_l2i hX dX12_upgraded_329, List.forall_mem_cons.mpr ⟨np_s_i2l hX dX12_upgraded_330, List.forall_mem_cons.mpr ⟨np_s_lcmp hX dX12_upgraded_331, List.forall_mem_cons.mpr ⟨np_S.mono (op := np_ifne 355) (np_s_if_ne hX dX12_upgraded_332 (by decide)) nq_ifne_le, List.forall_mem_cons.mpr ⟨np_s_aload_n hX dX12_upgraded_335 rfl, List.forall_mem_cons.mpr ⟨np_S.mono (op := np_getf 12 49) (np_s_getf hX dX12_upgraded_336 (C := RX12) (T := TX12) (N := 77) rfl guX12 (by decide) gw1685) nq_getf_le, List.forall_mem_cons.mpr ⟨np_s_iload hX dX12_upgraded_339, List.forall_mem_cons.mpr ⟨np_s_iconst hX dX12_upgraded_341 (by decide), List.forall_mem_cons.mpr ⟨np_s_isub hX dX12_upgraded_342, List.forall_mem_cons.mpr ⟨np_S.mono (op := np_lald) (np_s_lald hX dX12_upgraded_343) nq_lald_le, List.forall_mem_cons.mpr ⟨np_s_ldc2 hX dX12_upgraded_344 gw2290, List.forall_mem_cons.mpr ⟨np_s_lcmp hX dX12_upgraded_347, List.forall_mem_cons.mpr ⟨np_S.mono (op := np_if (fun x => x = 0) 355) (np_s_if_eq hX dX12_upgraded_348 (by decide)) nq_if_le, List.forall_mem_cons.mpr ⟨np_s_iconst hX dX12_upgraded_351 (by decide), List.forall_mem_cons.mpr ⟨np_s_goto hX dX12_upgraded_352 (by decide), List.forall_mem_cons.mpr ⟨np_s_iconst hX dX12_upgraded_355 (by decide), List.forall_mem_cons.mpr ⟨np_s_istore hX dX12_upgraded_356 (by decide), List.forall_mem_cons.mpr ⟨np_s_iinc hX dX12_upgraded_358 (by decide), List.forall_mem_cons.mpr ⟨np_s_goto hX dX12_upgraded_361 (by decide), List.forall_mem_cons.mpr ⟨np_s_iload hX dX12_upgraded_364, List.forall_mem_cons.mpr ⟨np_S.mono (op := np_if (fun x => x = 0) 379) (np_s_if_eq hX dX12_upgraded_366 (by decide)) nq_if_le, List.forall_mem_cons.mpr ⟨np_s_aload_n hX dX12_upgraded_369 rfl, List.forall_mem_cons.mpr ⟨np_S.mono (op := np_getf 12 49) (np_s_getf hX dX12_upgraded_370 (C := RX12) (T := TX12) (N := 77) rfl guX12 (by decide) gw1685) nq_getf_le, List.forall_mem_cons.mpr ⟨np_s_iconst hX dX12_upgraded_373 (by decide), List.forall_mem_cons.mpr ⟨np_S.mono (op := np_lald) (np_s_lald hX dX12_upgraded_374) nq_lald_le, List.forall_mem_cons.mpr ⟨np_s_l2i hX dX12_upgraded_375, List.forall_mem_cons.mpr ⟨np_s_goto hX dX12_upgraded_376 (by decide), List.forall_mem_cons.mpr ⟨np_s_ldc hX dX12_upgraded_379 gw1944, List.forall_mem_cons.mpr ⟨np_S.mono (op := np_ret X.2.2.1) (np_s_ret hX dX12_upgraded_381) (nq_ret_le hR), fun _ h => nomatch h⟩⟩⟩⟩⟩⟩⟩⟩⟩⟩⟩⟩⟩⟩⟩⟩⟩⟩⟩⟩⟩⟩⟩⟩⟩⟩⟩⟩⟩⟩⟩⟩⟩⟩⟩⟩⟩⟩⟩⟩⟩⟩⟩⟩⟩⟩⟩⟩⟩⟩⟩⟩⟩⟩⟩⟩⟩⟩⟩⟩⟩⟩⟩⟩⟩⟩⟩⟩⟩⟩⟩⟩⟩⟩⟩⟩⟩⟩⟩⟩⟩⟩⟩⟩⟩⟩⟩⟩⟩⟩⟩⟩⟩⟩⟩⟩⟩⟩⟩⟩⟩⟩⟩⟩⟩⟩⟩⟩⟩⟩⟩⟩⟩⟩⟩⟩⟩⟩⟩⟩⟩⟩⟩⟩⟩⟩⟩⟩⟩⟩⟩⟩⟩⟩⟩⟩⟩⟩⟩⟩⟩⟩⟩⟩⟩⟩⟩⟩⟩⟩⟩⟩⟩⟩⟩⟩⟩⟩⟩⟩⟩⟩⟩⟩⟩⟩⟩⟩⟩⟩⟩⟩⟩⟩⟩⟩⟩⟩⟩⟩⟩⟩⟩⟩⟩⟩⟩⟩⟩⟩⟩⟩⟩⟩⟩⟩⟩⟩⟩⟩⟩⟩⟩⟩⟩⟩⟩⟩⟩⟩⟩⟩⟩⟩⟩
abbrev sp_X12_upgraded : np_Sp := nq_in is_X12_upgraded (some .int) 0 0 400
theorem C_X12_upgraded : np_C yX12_upgraded cX12_upgraded 11 (some .int) 2 43 0 0 sp_X12_upgraded := nq_inC 400 (by decide) (fun X Rt hX hmn hR => so_X12_upgraded hX hR)
theorem dX12_parts_0 : decode cX12_parts 0 = .ok (.aload_n 0, 1) := by decide +kernel
theorem dX12_parts_1 : decode cX12_parts 1 = .ok (.aload_n 0, 1) := by decide +kernel
theorem dX12_parts_2 : decode cX12_parts 2 = .ok (.iload_n 1, 1) := by decide +kernel
theorem dX12_parts_3 : decode cX12_parts 3 = .ok (.invokevirtual 471, 3) := by decide +kernel
theorem dX12_parts_6 : decode cX12_parts 6 = .ok (.ifCond .eq 7, 3) := by decide +kernel
theorem dX12_parts_9 : decode cX12_parts 9 = .ok (.iconst 0, 1) := by decide +kernel
theorem dX12_parts_10 : decode cX12_parts 10 = .ok (.goto 4, 3) := by decide +kernel
theorem dX12_parts_13 : decode cX12_parts 13 = .ok (.iconst 1, 1) := by decide +kernel
theorem dX12_parts_14 : decode cX12_parts 14 = .ok (.invokevirtual 202, 3) := by decide +kernel
theorem dX12_parts_17 : decode cX12_parts 17 = .ok (.ifCond .eq 11, 3) := by decide +kernel
theorem dX12_parts_20 : decode cX12_parts 20 = .ok (.aload_n 0, 1) := by decide +kernel
theorem dX12_parts_21 : decode cX12_parts 21 = .ok (.iload_n 1, 1) := by decide +kernel
theorem dX12_parts_22 : decode cX12_parts 22 = .ok (.invokevirtual 483, 3) := by decide +kernel
theorem dX12_parts_25 : decode cX12_parts 25 = .ok (.goto 4, 3) := by decide +kernel
theorem dX12_parts_28 : decode cX12_parts 28 = .ok (.iconst 0, 1) := by decide +kernel
theorem dX12_parts_29 : decode cX12_parts 29 = .ok (.ireturn, 1) := by decide +kernel
def is_X12_parts (Rt : np_Rt) : List (Nat × np_Op) := [(0, np_ald 1 0), (1, np_ald 1 0), (2, np_ild 1 1), (3, nq_callV 12 2 sp_X12_isUpgrade 2 0 0 0 0), (6, nq_if (fun x => x = 0) 13), (9, np_push 1 (.int 0)), (10, np_goto 14), (13, np_push 1 (.int 1)), (14, nq_callV 12 2 sp_X12_can 2 0 0 0 0), (17, nq_if (fun x => x = 0) 28), (20, np_ald 1 0), (21, np_ild 1 1), (25, np_goto 29), (28, np_push 1 (.int 0)), (29, np_ret Rt)]
set_option maxRecDepth 20000 in
theorem so_X12_parts {X : np_Ctx} {Rt : np_Rt} (hX : np_ok RX12 cX12_parts 2 2 43 0 0 .ireturn X) (hR : ∀ st w ce sl, Rt st w ce sl → X.2.2.1 st w ce sl) : ∀ q ∈ is_X12_parts Rt, np_S X q.1 q.2 :=
  List.forall_mem_cons.mpr ⟨np_s_aload_n hX dX12_parts_0 rfl, List.forall_mem_cons.mpr ⟨np_s_aload_n hX dX12_parts_1 rfl, List.forall_mem_cons.mpr ⟨np_s_iload_n hX dX12_parts_2 rfl, List.forall_mem_cons.mpr ⟨np_S.mono (op := np_callV 12 2 sp_X12_isUpgrade 2 0 0 0 0) (np_s_callV hX C_X12_isUpgrade dX12_parts_3 (q := (RX12, TX12, 77)) rfl rfl gw2249 gw142 gw2246 gw2248 gw117 ⟨by decide, by decide, by decide⟩ (by decide) (by decide)) nq_callV_le, List.forall_mem_cons.mpr ⟨np_S.mono (op := np_if (fun x => x = 0) 13) (np_s_if_eq hX dX12_parts_6 (by decide)) nq_if_le, List.forall_mem_cons.mpr ⟨np_s_iconst hX dX12_parts_9 (by decide), List.forall_mem_cons.mpr ⟨np_s_goto hX dX12_parts_10 (by decide), List.forall_mem_cons.mpr ⟨np_s_iconst hX dX12_parts_13 (by decide), List.forall_mem_cons.mpr ⟨np_S.mono (op := np_callV 12 2 sp_X12_can 2 0 0 0 0) (np_s_callV hX C_X12_can dX12_parts_14 (q := (RX12, TX12, 77)) rfl rfl gw1890 gw142 gw1887 gw1889 gw63 ⟨by decide, by decide, by decide⟩ (by decide) (by decide)) nq_callV_le, List.forall_mem_cons.mpr ⟨np_S.mono (op := np_if (fun x => x = 0) 28) (np_s_if_eq hX dX12_parts_17 (by decide)) nq_if_le, List.forall_mem_cons.mpr ⟨np_s_aload_n hX dX12_parts_20 rfl, List.forall_mem_cons.mpr ⟨np_s_iload_n hX dX12_parts_21 rfl, List.forall_mem_cons.mpr ⟨np_s_goto hX dX12_parts_25 (by decide), List.forall_mem_cons.mpr ⟨np_s_iconst hX dX12_parts_28 (by decide), List.forall_mem_cons.mpr ⟨np_S.mono (op := np_ret X.2.2.1) (np_s_ret hX dX12_parts_29) (nq_ret_le hR), fun _ h => nomatch h⟩⟩⟩⟩⟩⟩⟩⟩⟩⟩⟩⟩⟩⟩⟩
abbrev sp_X12_parts : np_Sp := nq_in is_X12_parts (some .int) 0 0 400
theorem C_X12_parts : np_C yX12_parts cX12_parts 2 (some .int) 2 43 0 0 sp_X12_parts := nq_inC 400 (by decide) (fun X Rt hX hmn hR => so_X12_parts hX hR)
theorem dX12_compare_0 : decode cX12_compare 0 = .ok (.aload_n 0, 1) := by decide +kernel
theorem dX12_compare_1 : decode cX12_compare 1 = .ok (.iload_n 1, 1) := by decide +kernel
theorem dX12_compare_2 : decode cX12_compare 2 = .ok (.invokestatic 191, 3) := by decide +kernel
theorem dX12_compare_5 : decode cX12_compare 5 = .ok (.ifCond .eq 7, 3) := by decide +kernel
theorem dX12_compare_8 : decode cX12_compare 8 = .ok (.iconst 0, 1) := by decide +kernel
theorem dX12_compare_9 : decode cX12_compare 9 = .ok (.goto 4, 3) := by decide +kernel
theorem dX12_compare_12 : decode cX12_compare 12 = .ok (.iconst 1, 1) := by decide +kernel
theorem dX12_compare_13 : decode cX12_compare 13 = .ok (.invokevirtual 202, 3) := by decide +kernel
theorem dX12_compare_16 : decode cX12_compare 16 = .ok (.ifCond .ne 5, 3) := by decide +kernel
theorem dX12_compare_19 : decode cX12_compare 19 = .ok (.iconst 0, 1) := by decide +kernel
theorem dX12_compare_20 : decode cX12_compare 20 = .ok (.ireturn, 1) := by decide +kernel
theorem dX12_compare_21 : decode cX12_compare 21 = .ok (.iconst 0, 1) := by decide +kernel
theorem dX12_compare_22 : decode cX12_compare 22 = .ok (.istore_n 2, 1) := by decide +kernel
theorem dX12_compare_23 : decode cX12_compare 23 = .ok (.iconst 0, 1) := by decide +kernel
theorem dX12_compare_24 : decode cX12_compare 24 = .ok (.istore_n 3, 1) := by decide +kernel
theorem dX12_compare_25 : decode cX12_compare 25 = .ok (.iload_n 3, 1) := by decide +kernel
theorem dX12_compare_26 : decode cX12_compare 26 = .ok (.iconst 2, 1) := by decide +kernel
theorem dX12_compare_27 : decode cX12_compare 27 = .ok (.if_icmp .ge 166, 3) := by decide +kernel
theorem dX12_compare_30 : decode cX12_compare 30 = .ok (.iconst 0, 1) := by decide +kernel
theorem dX12_compare_31 : decode cX12_compare 31 = .ok (.istore 4, 2) := by decide +kernel
theorem dX12_compare_33 : decode cX12_compare 33 = .ok (.iload 4, 2) := by decide +kernel
theorem dX12_compare_35 : decode cX12_compare 35 = .ok (.aload_n 0, 1) := by decide +kernel
theorem dX12_compare_36 : decode cX12_compare 36 = .ok (.getfield 77, 3) := by decide +kernel
theorem dX12_compare_39 : decode cX12_compare 39 = .ok (.iload_n 3, 1) := by decide +kernel
theorem dX12_compare_40 : decode cX12_compare 40 = .ok (.iaload, 1) := by decide +kernel
theorem dX12_compare_41 : decode cX12_compare 41 = .ok (.if_icmp .ge 146, 3) := by decide +kernel
theorem dX12_compare_44 : decode cX12_compare 44 = .ok (.aload_n 0, 1) := by decide +kernel
theorem dX12_compare_45 : decode cX12_compare 45 = .ok (.iload_n 3, 1) := by decide +kernel
theorem dX12_compare_46 : decode cX12_compare 46 = .ok (.iload 4, 2) := by decide +kernel
theorem dX12_compare_48 : decode cX12_compare 48 = .ok (.iload_n 1, 1) := by decide +kernel
theorem dX12_compare_49 : decode cX12_compare 49 = .ok (.iconst 0, 1) := by decide +kernel
theorem dX12_compare_50 : decode cX12_compare 50 = .ok (.invokevirtual 443, 3) := by decide +kernel
theorem dX12_compare_53 : decode cX12_compare 53 = .ok (.istore 5, 2) := by decide +kernel
theorem dX12_compare_55 : decode cX12_compare 55 = .ok (.aload_n 0, 1) := by decide +kernel
theorem dX12_compare_56 : decode cX12_compare 56 = .ok (.getfield 86, 3) := by decide +kernel
theorem dX12_compare_59 : decode cX12_compare 59 = .ok (.bipush 24, 2) := by decide +kernel
theorem dX12_compare_61 : decode cX12_compare 61 = .ok (.iload_n 3, 1) := by decide +kernel
theorem dX12_compare_62 : decode cX12_compare 62 = .ok (.imul, 1) := by decide +kernel
theorem dX12_compare_63 : decode cX12_compare 63 = .ok (.iload 4, 2) := by decide +kernel
theorem dX12_compare_65 : decode cX12_compare 65 = .ok (.iadd, 1) := by decide +kernel
theorem dX12_compare_66 : decode cX12_compare 66 = .ok (.iaload, 1) := by decide +kernel
theorem dX12_compare_67 : decode cX12_compare 67 = .ok (.iconst 3, 1) := by decide +kernel
theorem dX12_compare_68 : decode cX12_compare 68 = .ok (.iload_n 1, 1) := by decide +kernel
theorem dX12_compare_69 : decode cX12_compare 69 = .ok (.imul, 1) := by decide +kernel
theorem dX12_compare_70 : decode cX12_compare 70 = .ok (.invokestatic 229, 3) := by decide +kernel
theorem dX12_compare_73 : decode cX12_compare 73 = .ok (.ifCond .eq 20, 3) := by decide +kernel
theorem dX12_compare_76 : decode cX12_compare 76 = .ok (.aload_n 0, 1) := by decide +kernel
theorem dX12_compare_77 : decode cX12_compare 77 = .ok (.iload_n 3, 1) := by decide +kernel
theorem dX12_compare_78 : decode cX12_compare 78 = .ok (.iload_n 1, 1) := by decide +kernel
theorem dX12_compare_79 : decode cX12_compare 79 = .ok (.iload 5, 2) := by decide +kernel
theorem dX12_compare_81 : decode cX12_compare 81 = .ok (.invokevirtual 503, 3) := by decide +kernel
theorem dX12_compare_84 : decode cX12_compare 84 = .ok (.iload 4, 2) := by decide +kernel
theorem dX12_compare_86 : decode cX12_compare 86 = .ok (.if_icmp .ne 7, 3) := by decide +kernel
theorem dX12_compare_89 : decode cX12_compare 89 = .ok (.iconst 1, 1) := by decide +kernel
theorem dX12_compare_90 : decode cX12_compare 90 = .ok (.goto 4, 3) := by decide +kernel
theorem dX12_compare_93 : decode cX12_compare 93 = .ok (.iconst 0, 1) := by decide +kernel
theorem dX12_compare_94 : decode cX12_compare 94 = .ok (.istore 6, 2) := by decide +kernel
theorem dX12_compare_96 : decode cX12_compare 96 = .ok (.iload 6, 2) := by decide +kernel
theorem dX12_compare_98 : decode cX12_compare 98 = .ok (.ifCond .eq 16, 3) := by decide +kernel
theorem dX12_compare_101 : decode cX12_compare 101 = .ok (.aload_n 0, 1) := by decide +kernel
theorem dX12_compare_102 : decode cX12_compare 102 = .ok (.iconst 1, 1) := by decide +kernel
theorem dX12_compare_103 : decode cX12_compare 103 = .ok (.iload_n 3, 1) := by decide +kernel
theorem dX12_compare_104 : decode cX12_compare 104 = .ok (.isub, 1) := by decide +kernel
theorem dX12_compare_105 : decode cX12_compare 105 = .ok (.iload_n 1, 1) := by decide +kernel
theorem dX12_compare_106 : decode cX12_compare 106 = .ok (.iload 5, 2) := by decide +kernel
theorem dX12_compare_108 : decode cX12_compare 108 = .ok (.invokevirtual 503, 3) := by decide +kernel
theorem dX12_compare_111 : decode cX12_compare 111 = .ok (.goto 4, 3) := by decide +kernel
theorem dX12_compare_114 : decode cX12_compare 114 = .ok (.iconst (-1), 1) := by decide +kernel
theorem dX12_compare_115 : decode cX12_compare 115 = .ok (.istore 7, 2) := by decide +kernel
theorem dX12_compare_117 : decode cX12_compare 117 = .ok (.iload_n 2, 1) := by decide +kernel
theorem dX12_compare_118 : decode cX12_compare 118 = .ok (.iload 6, 2) := by decide +kernel
theorem dX12_compare_120 : decode cX12_compare 120 = .ok (.ifCond .eq 24, 3) := by decide +kernel
theorem dX12_compare_123 : decode cX12_compare 123 = .ok (.iload 7, 2) := by decide +kernel
theorem dX12_compare_125 : decode cX12_compare 125 = .ok (.iconst (-1), 1) := by decide +kernel
theorem dX12_compare_126 : decode cX12_compare 126 = .ok (.if_icmp .ne 18, 3) := by decide +kernel
theorem dX12_compare_129 : decode cX12_compare 129 = .ok (.iload_n 3, 1) := by decide +kernel
theorem dX12_compare_130 : decode cX12_compare 130 = .ok (.ifCond .ne 8, 3) := by decide +kernel
theorem dX12_compare_133 : decode cX12_compare 133 = .ok (.bipush 100, 2) := by decide +kernel
theorem dX12_compare_135 : decode cX12_compare 135 = .ok (.goto 10, 3) := by decide +kernel
theorem dX12_compare_138 : decode cX12_compare 138 = .ok (.sipush 10000, 3) := by decide +kernel
theorem dX12_compare_141 : decode cX12_compare 141 = .ok (.goto 4, 3) := by decide +kernel
theorem dX12_compare_144 : decode cX12_compare 144 = .ok (.iconst 0, 1) := by decide +kernel
theorem dX12_compare_145 : decode cX12_compare 145 = .ok (.iadd, 1) := by decide +kernel
theorem dX12_compare_146 : decode cX12_compare 146 = .ok (.istore_n 2, 1) := by decide +kernel
theorem dX12_compare_147 : decode cX12_compare 147 = .ok (.iload_n 2, 1) := by decide +kernel
theorem dX12_compare_148 : decode cX12_compare 148 = .ok (.iload 6, 2) := by decide +kernel
theorem dX12_compare_150 : decode cX12_compare 150 = .ok (.ifCond .eq 28, 3) := by decide +kernel
theorem dX12_compare_153 : decode cX12_compare 153 = .ok (.iload 7, 2) := by decide +kernel
theorem dX12_compare_155 : decode cX12_compare 155 = .ok (.iconst (-1), 1) := by decide +kernel
theorem dX12_compare_156 : decode cX12_compare 156 = .ok (.if_icmp .eq 22, 3) := by decide +kernel
theorem dX12_compare_159 : decode cX12_compare 159 = .ok (.iload_n 3, 1) := by decide +kernel
theorem dX12_compare_160 : decode cX12_compare 160 = .ok (.ifCond .ne 18, 3) := by decide +kernel
theorem dX12_compare_163 : decode cX12_compare 163 = .ok (.aload_n 0, 1) := by decide +kernel
theorem dX12_compare_164 : decode cX12_compare 164 = .ok (.iload 4, 2) := by decide +kernel
theorem dX12_compare_166 : decode cX12_compare 166 = .ok (.iload 7, 2) := by decide +kernel
theorem dX12_compare_168 : decode cX12_compare 168 = .ok (.invokevirtual 506, 3) := by decide +kernel
theorem dX12_compare_171 : decode cX12_compare 171 = .ok (.ifCond .ne 7, 3) := by decide +kernel
theorem dX12_compare_174 : decode cX12_compare 174 = .ok (.iconst 1, 1) := by decide +kernel
theorem dX12_compare_175 : decode cX12_compare 175 = .ok (.goto 4, 3) := by decide +kernel
theorem dX12_compare_178 : decode cX12_compare 178 = .ok (.iconst 0, 1) := by decide +kernel
theorem dX12_compare_179 : decode cX12_compare 179 = .ok (.iadd, 1) := by decide +kernel
theorem dX12_compare_180 : decode cX12_compare 180 = .ok (.istore_n 2, 1) := by decide +kernel
theorem dX12_compare_181 : decode cX12_compare 181 = .ok (.iinc 4 1, 3) := by decide +kernel
theorem dX12_compare_184 : decode cX12_compare 184 = .ok (.goto (-151), 3) := by decide +kernel
theorem dX12_compare_187 : decode cX12_compare 187 = .ok (.iinc 3 1, 3) := by decide +kernel
theorem dX12_compare_190 : decode cX12_compare 190 = .ok (.goto (-165), 3) := by decide +kernel
theorem dX12_compare_193 : decode cX12_compare 193 = .ok (.iload_n 2, 1) := by decide +kernel
theorem dX12_compare_194 : decode cX12_compare 194 = .ok (.ireturn, 1) := by decide +kernel
def is_X12_compare (Rt : np_Rt) : List (Nat × np_Op) := [(0, np_ald 1 0), (1, np_ild 1 1), (2, nq_call 1 sp_X12_isSlot 1 0 0 0 0), (5, nq_if (fun x => x = 0) 12), (8, np_push 1 (.int 0)), (9, np_goto 13), (12, np_push 1 (.int 1)), (13, nq_callV 12 2 sp_X12_can 2 0 0 0 0), (16, nq_ifne 21), (19, np_push 1 (.int 0)), (20, np_ret Rt), (21, np_push 1 (.int 0)), (22, np_ist 1 2), (23, np_push 1 (.int 0)), (24, np_ist 1 3), (25, np_ild 1 3), (26, np_push 1 (.int 2)), (27, nq_ic (fun x y => y ≤ x) 193), (30, np_push 1 (.int 0)), (31, np_ist 2 4), (33, np_ild 2 4), (35, np_ald 1 0), (36, nq_getf 12 25), (39, np_ild 1 3), (40, nq_ialdT .int), (41, nq_ic (fun x y => y ≤ x) 187), (44, np_ald 1 0), (45, np_ild 1 3), (46, np_ild 2 4), (48, np_ild 1 1), (49, np_push 1 (.int 0)), (53, np_ist 2 5), (55, np_ald 1 0), (56, nq_getf 12 28), (59, np_push 2 (.int 24)), (61, np_ild 1 3), (62, np_ib (fun x y => x * y)), (63, np_ild 2 4), (65, np_ib (fun x y => x + y)), (66, nq_ialdT .int), (67, np_push 1 (.int 3)), (68, np_ild 1 1), (69, np_ib (fun x y => x * y)), (70, nq_call 2 sp_X12_has 2 0 0 0 0), (73, nq_if (fun x => x = 0) 93), (76, np_ald 1 0), (77, np_ild 1 3), (78, np_ild 1 1), (79, np_ild 2 5), (84, np_ild 2 4), (86, nq_icne 93), (89, np_push 1 (.int 1)), (90, np_goto 94), (93, np_push 1 (.int 0)), (94, np_ist 2 6), (96, np_ild 2 6), (98, nq_if (fun x => x = 0) 114), (101, np_ald 1 0), (102, np_push 1 (.int 1)), (103, np_ild 1 3), (104, np_ib (fun x y => x - y)), (105, np_ild 1 1), (106, np_ild 2 5), (111, np_goto 115), (114, np_push 1 (.int (-1))), (115, np_ist 2 7), (117, np_ild 1 2), (118, np_ild 2 6), (120, nq_if (fun x => x = 0) 144), (123, np_ild 2 7), (125, np_push 1 (.int (-1))), (126, nq_icne 144), (129, np_ild 1 3), (130, nq_ifne 138), (133, np_push 2 (.int 100)), (135, np_goto 145), (138, np_push 3 (.int 10000)), (141, np_goto 145), (144, np_push 1 (.int 0)), (145, np_ib (fun x y => x + y)), (146, np_ist 1 2), (147, np_ild 1 2), (148, np_ild 2 6), (150, nq_if (fun x => x = 0) 178), (153, np_ild 2 7), (155, np_push 1 (.int (-1))), (156, nq_ic (fun x y => x = y) 178), (159, np_ild 1 3), (160, nq_ifne 178), (163, np_ald 1 0), (164, np_ild 2 4), (166, np_ild 2 7), (171, nq_ifne 178), (174, np_push 1 (.int 1)), (175, np_goto 179), (178, np_push 1 (.int 0)), (179, np_ib (fun x y => x + y)), (180, np_ist 1 2), (181, np_iinc 4 1), (184, np_goto 33), (187, np_iinc 3 1), (190, np_goto 25), (193, np_ild 1 2), (194, np_ret Rt)]
set_option maxRecDepth 20000 in
theorem so_X12_compare {X : np_Ctx} {Rt : np_Rt} (hX : np_ok RX12 cX12_compare 8 2 42 0 0 .ireturn X) (hR : ∀ st w ce sl, Rt st w ce sl → X.2.2.1 st w ce sl) : ∀ q ∈ is_X12_compare Rt, np_S X q.1 q.2 :=
  List.forall_mem_cons.mpr ⟨np_s_aload_n hX dX12_compare_0 rfl, List.forall_mem_cons.mpr ⟨np_s_iload_n hX dX12_compare_1 rfl, List.forall_mem_cons.mpr ⟨np_S.mono (op := np_call 1 sp_X12_isSlot 1 0 0 0 0) (np_s_callS hX C_X12_isSlot dX12_compare_2 gw1883 gw142 gw1881 gw1882 ⟨by decide, by decide, by decide⟩ (by decide) (by decide)) nq_call_le, List.forall_mem_cons.mpr ⟨np_S.mono (op := np_if (fun x => x = 0) 12) (np_s_if_eq hX dX12_compare_5 (by decide)) nq_if_le, List.forall_mem_cons.mpr ⟨np_s_iconst hX dX12_compare_8 (by decide), List.forall_mem_cons.mpr ⟨np_s_goto hX dX12_compare_9 (by decide), List.forall_mem_cons.mpr ⟨np_s_iconst hX dX12_compare_12 (by decide), List.forall_mem_cons.mpr ⟨np_S.mono (op := np_callV 12 2 sp_X12_can 2 0 0 0 0) (np_s_callV hX C_X12_can dX12_compare_13 (q := (RX12, TX12, 77)) rfl rfl gw1890 gw142 gw1887 gw1889 gw63 ⟨by decide, by decide, by decide⟩ (by decide) (by decide)) nq_callV_le, List.forall_mem_cons.mpr ⟨np_S.mono (op := np_ifne 21) (np_s_if_ne hX dX12_compare_16 (by decide)) nq_ifne_le, List.forall_mem_cons.mpr ⟨np_s_iconst hX dX12_compare_19 (by decide), List.forall_mem_cons.mpr ⟨np_S.mono (op := np_ret X.2.2.1) (np_s_ret hX dX12_compare_20) (nq_ret_le hR), List.forall_mem_cons.mpr ⟨np_s_iconst hX dX12_compare_21 (by decide), List.forall_mem_cons.mpr ⟨np_s_istore_n hX dX12_compare_22 rfl (by decide), List.forall_mem_cons.mpr ⟨np_s_iconst hX dX12_compare_23 (by decide), List.forall_mem_cons.mpr ⟨np_s_istore_n hX dX12_compare_24 rfl (by decide), List.forall_mem_cons.mpr ⟨np_s_iload_n hX dX12_compare_25 rfl, List.forall_mem_cons.mpr ⟨np_s_iconst hX dX12_compare_26 (by decide), List.forall_mem_cons.mpr ⟨np_S.mono (op := np_ic (fun x y => y ≤ x) 193) (np_s_icmp_ge hX dX12_compare_27 (by decide)) nq_ic_le, List.forall_mem_cons.mpr ⟨np_s_iconst hX dX12_compare_30 (by decide), List.forall_mem_cons.mpr ⟨np_s_istore hX dX12_compare_31 (by decide), List.forall_mem_cons.mpr ⟨np_s_iload hX dX12_compare_33, List.forall_mem_cons.mpr ⟨np_s_aload_n hX dX12_compare_35 rfl, List.forall_mem_cons.mpr ⟨np_S.mono (op := np_getf 12 25) (np_s_getf hX dX12_compare_36 (C := RX12) (T := TX12) (N := 77) rfl guX12 (by decide) gw1661) nq_getf_le, List.forall_mem_cons.mpr ⟨np_s_iload_n hX dX12_compare_39 rfl, List.forall_mem_cons.mpr ⟨np_S.mono (op := np_ialdT .int) (np_s_iald hX dX12_compare_40) nq_ialdT_le, List.forall_mem_cons.mpr ⟨np_S.mono (op := np_ic (fun x y => y ≤ x) 187) (np_s_icmp_ge hX dX12_compare_41 (by decide)) nq_ic_le, List.forall_mem_cons.mpr ⟨np_s_aload_n hX dX12_compare_44 rfl, List.forall_mem_cons.mpr ⟨np_s_iload_n hX dX12_compare_45 rfl, List.forall_mem_cons.mpr ⟨np_s_iload hX dX12_compare_46, List.forall_mem_cons.mpr ⟨np_s_iload_n hX dX12_compare_48 rfl, List.forall_mem_cons.mpr ⟨np_s_iconst hX dX12_compare_49 (by decide), List.forall_mem_cons.mpr ⟨np_s_istore hX dX12_compare_53 (by decide), List.forall_mem_cons.mpr ⟨np_s_aload_n hX dX12_compare_55 rfl, List.forall_mem_cons.mpr ⟨np_S.mono (op := np_getf 12 28) (np_s_getf hX dX12_compare_56 (C := RX12) (T := TX12) (N := 77) rfl guX12 (by decide) gw1664) nq_getf_le, List.forall_mem_cons.mpr ⟨np_s_bipush hX dX12_compare_59 (by decide), List.forall_mem_cons.mpr ⟨np_s_iload_n hX dX12_compare_61 rfl, List.forall_mem_cons.mpr ⟨np_s_imul hX dX12_compare_62, List.forall_mem_cons.mpr ⟨np_s_iload hX dX12_compare_63, List.forall_mem_cons.mpr ⟨np_s_iadd hX dX12_compare_65, List.forall_mem_cons.mpr ⟨np_S.mono (op := np_ialdT .int) (np_s_iald hX dX12_compare_66) nq_ialdT_le, List.forall_mem_cons.mpr ⟨np_s_iconst hX dX12_compare_67 (by decide), List.forall_mem_cons.mpr ⟨np_s_iload_n hX dX12_compare_68 rfl, List.forall_mem_cons.mpr ⟨np_s_imul hX dX12_compare_69, List.forall_mem_cons.mpr ⟨np_S.mono (op := np_call 2 sp_X12_has 2 0 0 0 0) (np_s_callS hX C_X12_has dX12_compare_70 gw1943 gw142 gw1941 gw1942 ⟨by decide, by decide, by decide⟩ (by decide) (by decide)) nq_call_le, List.forall_mem_cons.mpr ⟨np_S.mono (op := np_if (fun x => x = 0) 93) (np_s_if_eq hX dX12_compare_73 (by decide)) nq_if_le, List.forall_mem_cons.mpr ⟨np_s_aload_n hX dX12_compare_76 rfl, List.forall_mem_cons.mpr ⟨np_s_iload_n hX dX12_compare_77 rfl, List.forall_mem_cons.mpr ⟨np_s_iload_n hX dX12_compare_78 rfl, List.forall_mem_cons.mpr ⟨np_s_iload hX dX12_compare_79, List.forall_mem_cons.mpr ⟨np_s_iload hX dX12_compare_84, List.forall_mem_cons.mpr ⟨np_S.mono (op := np_icne 93) (np_s_icmp_ne hX dX12_compare_86 (by decide)) nq_icne_le, List.forall_mem_cons.mpr ⟨np_s_iconst hX dX12_compare_89 (by decide), List.forall_mem_cons.mpr ⟨np_s_goto hX dX12_compare_90 (by decide), List.forall_mem_cons.mpr ⟨np_s_iconst hX dX12_compare_93 (by decide), List.forall_mem_cons.mpr ⟨np_s_istore hX dX12_compare_94 (by decide), List.forall_mem_cons.mpr ⟨np_s_iload hX dX12_compare_96, List.forall_mem_cons.mpr ⟨np_S.mono (op := np_if (fun x => x = 0) 114) (np_s_if_eq hX dX12_compare_98 (by decide)) nq_if_le, List.forall_mem_cons.mpr ⟨np_s_aload_n hX dX12_compare_101 rfl, List.forall_mem_cons.mpr ⟨np_s_iconst hX dX12_compare_102 (by decide), List.forall_mem_cons.mpr ⟨np_s_iload_n hX dX12_compare_103 rfl, List.forall_mem_cons.mpr ⟨np_s_isub hX dX12_compare_104, List.forall_mem_cons.mpr ⟨np_s_iload_n hX dX12_compare_105 rfl, List.forall_mem_cons.mpr ⟨np_s_iload hX dX12_compare_106, List.forall_mem_cons.mpr ⟨np_s_goto hX dX12_compare_111 (by decide), List.forall_mem_cons.mpr ⟨np_s_iconst hX dX12_compare_114 (by decide), List.forall_mem_cons.mpr ⟨np_s_istore hX dX12_compare_115 (by decide), List.forall_mem_cons.mpr ⟨np_s_iload_n hX dX12_compare_117 rfl, List.forall_mem_cons.mpr ⟨np_s_iload hX dX12_compare_118, List.forall_mem_cons.mpr ⟨np_S.mono (op := np_if (fun x => x = 0) 144) (np_s_if_eq hX dX12_compare_120 (by decide)) nq_if_le, List.forall_mem_cons.mpr ⟨np_s_iload hX dX12_compare_123, List.forall_mem_cons.mpr ⟨np_s_iconst hX dX12_compare_125 (by decide), List.forall_mem_cons.mpr ⟨np_S.mono (op := np_icne 144) (np_s_icmp_ne hX dX12_compare_126 (by decide)) nq_icne_le, List.forall_mem_cons.mpr ⟨np_s_iload_n hX dX12_compare_129 rfl, List.forall_mem_cons.mpr ⟨np_S.mono (op := np_ifne 138) (np_s_if_ne hX dX12_compare_130 (by decide)) nq_ifne_le, List.forall_mem_cons.mpr ⟨np_s_bipush hX dX12_compare_133 (by decide), List.forall_mem_cons.mpr ⟨np_s_goto hX dX12_compare_135 (by decide), List.forall_mem_cons.mpr ⟨np_s_sipush hX dX12_compare_138 (by decide), List.forall_mem_cons.mpr ⟨np_s_goto hX dX12_compare_141 (by decide), List.forall_mem_cons.mpr ⟨np_s_iconst hX dX12_compare_144 (by decide), List.forall_mem_cons.mpr ⟨np_s_iadd hX dX12_compare_145, List.forall_mem_cons.mpr ⟨np_s_istore_n hX dX12_compare_146 rfl (by decide), List.forall_mem_cons.mpr ⟨np_s_iload_n hX dX12_compare_147 rfl, List.forall_mem_cons.mpr ⟨np_s_iload hX dX12_compare_148, List.forall_mem_cons.mpr ⟨np_S.mono (op := np_if (fun x => x = 0) 178) (np_s_if_eq hX dX12_compare_150 (by decide)) nq_if_le, List.forall_mem_cons.mpr ⟨np_s_iload hX dX12_compare_153, List.forall_mem_cons.mpr ⟨np_s_iconst hX dX12_compare_155 (by decide), List.forall_mem_cons.mpr ⟨np_S.mono (op := np_ic (fun x y => x = y) 178) (np_s_icmp_eq hX dX12_compare_156 (by decide)) nq_ic_le, List.forall_mem_cons.mpr ⟨np_s_iload_n hX dX12_compare_159 rfl, List.forall_mem_cons.mpr ⟨np_S.mono (op := np_ifne 178) (np_s_if_ne hX dX12_compare_160 (by decide)) nq_ifne_le, List.forall_mem_cons.mpr ⟨np_s_aload_n hX dX12_compare_163 rfl, List.forall_mem_cons.mpr ⟨np_s_iload hX dX12_compare_164, List.forall_mem_cons.mpr ⟨np_s_iload hX dX12_compare_166, List.forall_mem_cons.mpr ⟨np_S.mono (op := np_ifne 178) (np_s_if_ne hX dX12_compare_171 (by decide)) nq_ifne_le, List.forall_mem_cons.mpr ⟨np_s_iconst hX dX12_compare_174 (by decide), List.forall_mem_cons.mpr ⟨np_s_goto hX dX12_compare_175 (by decide), List.forall_mem_cons.mpr ⟨np_s_iconst hX dX12_compare_178 (by decide), List.forall_mem_cons.mpr ⟨np_s_iadd hX dX12_compare_179, List.forall_mem_cons.mpr ⟨np_s_istore_n hX dX12_compare_180 rfl (by decide), List.forall_mem_cons.mpr ⟨np_s_iinc hX dX12_compare_181 (by decide), List.forall_mem_cons.mpr ⟨np_s_goto hX dX12_compare_184 (by decide), List.forall_mem_cons.mpr ⟨np_s_iinc hX dX12_compare_187 (by decide), List.forall_mem_cons.mpr ⟨np_s_goto hX dX12_compare_190 (by decide), List.forall_mem_cons.mpr ⟨np_s_iload_n hX dX12_compare_193 rfl, List.forall_mem_cons.mpr ⟨np_S.mono (op := np_ret X.2.2.1) (np_s_ret hX dX12_compare_194) (nq_ret_le hR), fun _ h => nomatch h⟩⟩⟩⟩⟩⟩⟩⟩⟩⟩⟩⟩⟩⟩⟩⟩⟩⟩⟩⟩⟩⟩⟩⟩⟩⟩⟩⟩⟩⟩⟩⟩⟩⟩⟩⟩⟩⟩⟩⟩⟩⟩⟩⟩⟩⟩⟩⟩⟩⟩⟩⟩⟩⟩⟩⟩⟩⟩⟩⟩⟩⟩⟩⟩⟩⟩⟩⟩⟩⟩⟩⟩⟩⟩⟩⟩⟩⟩⟩⟩⟩⟩⟩⟩⟩⟩⟩⟩⟩⟩⟩⟩⟩⟩⟩⟩⟩⟩⟩⟩⟩⟩⟩⟩
abbrev sp_X12_compare : np_Sp := nq_in is_X12_compare (some .int) 0 0 400
theorem C_X12_compare : np_C yX12_compare cX12_compare 8 (some .int) 2 42 0 0 sp_X12_compare := nq_inC 400 (by decide) (fun X Rt hX hmn hR => so_X12_compare hX hR)
theorem dX12_find_0 : decode cX12_find 0 = .ok (.aload_n 0, 1) := by decide +kernel
theorem dX12_find_1 : decode cX12_find 1 = .ok (.iload_n 1, 1) := by decide +kernel
theorem dX12_find_2 : decode cX12_find 2 = .ok (.iload_n 2, 1) := by decide +kernel
theorem dX12_find_3 : decode cX12_find 3 = .ok (.iload 4, 2) := by decide +kernel
theorem dX12_find_5 : decode cX12_find 5 = .ok (.invokevirtual 509, 3) := by decide +kernel
theorem dX12_find_8 : decode cX12_find 8 = .ok (.ifCond .eq 15, 3) := by decide +kernel
theorem dX12_find_11 : decode cX12_find 11 = .ok (.aload_n 0, 1) := by decide +kernel
theorem dX12_find_12 : decode cX12_find 12 = .ok (.iload_n 1, 1) := by decide +kernel
theorem dX12_find_13 : decode cX12_find 13 = .ok (.iload_n 2, 1) := by decide +kernel
theorem dX12_find_14 : decode cX12_find 14 = .ok (.iload_n 3, 1) := by decide +kernel
theorem dX12_find_15 : decode cX12_find 15 = .ok (.iload 4, 2) := by decide +kernel
theorem dX12_find_17 : decode cX12_find 17 = .ok (.invokevirtual 512, 3) := by decide +kernel
theorem dX12_find_20 : decode cX12_find 20 = .ok (.goto 4, 3) := by decide +kernel
theorem dX12_find_23 : decode cX12_find 23 = .ok (.iconst 0, 1) := by decide +kernel
theorem dX12_find_24 : decode cX12_find 24 = .ok (.ireturn, 1) := by decide +kernel
def is_X12_find (Rt : np_Rt) : List (Nat × np_Op) := [(0, np_ald 1 0), (1, np_ild 1 1), (2, np_ild 1 2), (3, np_ild 2 4), (5, nq_callV 12 4 sp_X12_isFound 4 0 0 0 0), (8, nq_if (fun x => x = 0) 23), (11, np_ald 1 0), (12, np_ild 1 1), (13, np_ild 1 2), (14, np_ild 1 3), (15, np_ild 2 4), (17, nq_callV 12 5 sp_X12_findsRow 9 0 0 0 0), (20, np_goto 24), (23, np_push 1 (.int 0)), (24, np_ret Rt)]
set_option maxRecDepth 20000 in
theorem so_X12_find {X : np_Ctx} {Rt : np_Rt} (hX : np_ok RX12 cX12_find 5 3 65 0 0 .ireturn X) (hR : ∀ st w ce sl, Rt st w ce sl → X.2.2.1 st w ce sl) : ∀ q ∈ is_X12_find Rt, np_S X q.1 q.2 :=
  List.forall_mem_cons.mpr ⟨np_s_aload_n hX dX12_find_0 rfl, List.forall_mem_cons.mpr ⟨np_s_iload_n hX dX12_find_1 rfl, List.forall_mem_cons.mpr ⟨np_s_iload_n hX dX12_find_2 rfl, List.forall_mem_cons.mpr ⟨np_s_iload hX dX12_find_3, List.forall_mem_cons.mpr ⟨np_S.mono (op := np_callV 12 4 sp_X12_isFound 4 0 0 0 0) (np_s_callV hX C_X12_isFound dX12_find_5 (q := (RX12, TX12, 77)) rfl rfl gw2314 gw142 gw2311 gw2313 gw127 ⟨by decide, by decide, by decide⟩ (by decide) (by decide)) nq_callV_le, List.forall_mem_cons.mpr ⟨np_S.mono (op := np_if (fun x => x = 0) 23) (np_s_if_eq hX dX12_find_8 (by decide)) nq_if_le, List.forall_mem_cons.mpr ⟨np_s_aload_n hX dX12_find_11 rfl, List.forall_mem_cons.mpr ⟨np_s_iload_n hX dX12_find_12 rfl, List.forall_mem_cons.mpr ⟨np_s_iload_n hX dX12_find_13 rfl, List.forall_mem_cons.mpr ⟨np_s_iload_n hX dX12_find_14 rfl, List.forall_mem_cons.mpr ⟨np_s_iload hX dX12_find_15, List.forall_mem_cons.mpr ⟨np_S.mono (op := np_callV 12 5 sp_X12_findsRow 9 0 0 0 0) (np_s_callV hX C_X12_findsRow dX12_find_17 (q := (RX12, TX12, 77)) rfl rfl gw2318 gw142 gw2315 gw2317 gw128 ⟨by decide, by decide, by decide⟩ (by decide) (by decide)) nq_callV_le, List.forall_mem_cons.mpr ⟨np_s_goto hX dX12_find_20 (by decide), List.forall_mem_cons.mpr ⟨np_s_iconst hX dX12_find_23 (by decide), List.forall_mem_cons.mpr ⟨np_S.mono (op := np_ret X.2.2.1) (np_s_ret hX dX12_find_24) (nq_ret_le hR), fun _ h => nomatch h⟩⟩⟩⟩⟩⟩⟩⟩⟩⟩⟩⟩⟩⟩⟩
abbrev sp_X12_find : np_Sp := nq_in is_X12_find (some .int) 0 0 400
theorem C_X12_find : np_C yX12_find cX12_find 5 (some .int) 3 65 0 0 sp_X12_find := nq_inC 400 (by decide) (fun X Rt hX hmn hR => so_X12_find hX hR)
theorem dX12_findAnew_0 : decode cX12_findAnew 0 = .ok (.aload_n 0, 1) := by decide +kernel
theorem dX12_findAnew_1 : decode cX12_findAnew 1 = .ok (.iload_n 1, 1) := by decide +kernel
theorem dX12_findAnew_2 : decode cX12_findAnew 2 = .ok (.iload_n 2, 1) := by decide +kernel
theorem dX12_findAnew_3 : decode cX12_findAnew 3 = .ok (.iload 4, 2) := by decide +kernel
theorem dX12_findAnew_5 : decode cX12_findAnew 5 = .ok (.invokevirtual 509, 3) := by decide +kernel
theorem dX12_findAnew_8 : decode cX12_findAnew 8 = .ok (.ifCond .eq 15, 3) := by decide +kernel
theorem dX12_findAnew_11 : decode cX12_findAnew 11 = .ok (.aload_n 0, 1) := by decide +kernel
theorem dX12_findAnew_12 : decode cX12_findAnew 12 = .ok (.iload_n 1, 1) := by decide +kernel
theorem dX12_findAnew_13 : decode cX12_findAnew 13 = .ok (.iload_n 2, 1) := by decide +kernel
theorem dX12_findAnew_14 : decode cX12_findAnew 14 = .ok (.iload_n 3, 1) := by decide +kernel
theorem dX12_findAnew_15 : decode cX12_findAnew 15 = .ok (.iload 4, 2) := by decide +kernel
theorem dX12_findAnew_17 : decode cX12_findAnew 17 = .ok (.invokevirtual 512, 3) := by decide +kernel
theorem dX12_findAnew_20 : decode cX12_findAnew 20 = .ok (.goto 4, 3) := by decide +kernel
theorem dX12_findAnew_23 : decode cX12_findAnew 23 = .ok (.iconst 0, 1) := by decide +kernel
theorem dX12_findAnew_24 : decode cX12_findAnew 24 = .ok (.ireturn, 1) := by decide +kernel
def is_X12_findAnew (Rt : np_Rt) : List (Nat × np_Op) := [(0, np_ald 1 0), (1, np_ild 1 1), (2, np_ild 1 2), (3, np_ild 2 4), (5, nq_callV 12 4 sp_X12_isFound 4 0 0 0 0), (8, nq_if (fun x => x = 0) 23), (11, np_ald 1 0), (12, np_ild 1 1), (13, np_ild 1 2), (14, np_ild 1 3), (15, np_ild 2 4), (17, nq_callV 12 5 sp_X12_findsRow 9 0 0 0 0), (20, np_goto 24), (23, np_push 1 (.int 0)), (24, np_ret Rt)]
set_option maxRecDepth 20000 in
theorem so_X12_findAnew {X : np_Ctx} {Rt : np_Rt} (hX : np_ok RX12 cX12_findAnew 5 3 65 0 0 .ireturn X) (hR : ∀ st w ce sl, Rt st w ce sl → X.2.2.1 st w ce sl) : ∀ q ∈ is_X12_findAnew Rt, np_S X q.1 q.2 :=
  List.forall_mem_cons.mpr ⟨np_s_aload_n hX dX12_findAnew_0 rfl, List.forall_mem_cons.mpr ⟨np_s_iload_n hX dX12_findAnew_1 rfl, List.forall_mem_cons.mpr ⟨np_s_iload_n hX dX12_findAnew_2 rfl, List.forall_mem_cons.mpr ⟨np_s_iload hX dX12_findAnew_3, List.forall_mem_cons.mpr ⟨np_S.mono (op := np_callV 12 4 sp_X12_isFound 4 0 0 0 0) (np_s_callV hX C_X12_isFound dX12_findAnew_5 (q := (RX12, TX12, 77)) rfl rfl gw2314 gw142 gw2311 gw2313 gw127 ⟨by decide, by decide, by decide⟩ (by decide) (by decide)) nq_callV_le, List.forall_mem_cons.mpr ⟨np_S.mono (op := np_if (fun x => x = 0) 23) (np_s_if_eq hX dX12_findAnew_8 (by decide)) nq_if_le, List.forall_mem_cons.mpr ⟨np_s_aload_n hX dX12_findAnew_11 rfl, List.forall_mem_cons.mpr ⟨np_s_iload_n hX dX12_findAnew_12 rfl, List.forall_mem_cons.mpr ⟨np_s_iload_n hX dX12_findAnew_13 rfl, List.forall_mem_cons.mpr ⟨np_s_iload_n hX dX12_findAnew_14 rfl, List.forall_mem_cons.mpr ⟨np_s_iload hX dX12_findAnew_15, List.forall_mem_cons.mpr ⟨np_S.mono (op := np_callV 12 5 sp_X12_findsRow 9 0 0 0 0) (np_s_callV hX C_X12_findsRow dX12_findAnew_17 (q := (RX12, TX12, 77)) rfl rfl gw2318 gw142 gw2315 gw2317 gw128 ⟨by decide, by decide, by decide⟩ (by decide) (by decide)) nq_callV_le, List.forall_mem_cons.mpr ⟨np_s_goto hX dX12_findAnew_20 (by decide), List.forall_mem_cons.mpr ⟨np_s_iconst hX dX12_findAnew_23 (by decide), List.forall_mem_cons.mpr ⟨np_S.mono (op := np_ret X.2.2.1) (np_s_ret hX dX12_findAnew_24) (nq_ret_le hR), fun _ h => nomatch h⟩⟩⟩⟩⟩⟩⟩⟩⟩⟩⟩⟩⟩⟩⟩
abbrev sp_X12_findAnew : np_Sp := nq_in is_X12_findAnew (some .int) 0 0 400
theorem C_X12_findAnew : np_C yX12_findAnew cX12_findAnew 5 (some .int) 3 65 0 0 sp_X12_findAnew := nq_inC 400 (by decide) (fun X Rt hX hmn hR => so_X12_findAnew hX hR)
