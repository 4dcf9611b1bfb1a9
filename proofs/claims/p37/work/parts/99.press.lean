/-! The law's press: its code. -/
theorem gw86 : (Jvm.Cond.classLink "NotationPressLaw" (11 : Nat) "NotationPress") ∈ np_gw := np_gwi 86 (by decide +kernel) rfl
theorem gw87 : (Jvm.Cond.instantiable "NotationPress" (14 : Nat)) ∈ np_gw := np_gwi 87 (by decide +kernel) rfl
theorem gw484 : (Jvm.Cond.constant "NotationPressLaw" (175 : Nat) (1073741824 : Int32)) ∈ np_gw := np_gwi 484 (by decide +kernel) rfl
theorem gw485 : (Jvm.Cond.methodLink "NotationPressLaw" (176 : Nat) ({ cls := "NotationPressLaw", name := "draw", desc := "([III)I" } : Jvm.MethodName)) ∈ np_gw := np_gwi 485 (by decide +kernel) rfl
theorem gw486 : (Jvm.Cond.static ({ cls := "NotationPressLaw", name := "draw", desc := "([III)I" } : Jvm.MethodName)) ∈ np_gw := np_gwi 486 (by decide +kernel) rfl
theorem gw487 : (Jvm.Cond.code ({ cls := "NotationPressLaw", name := "draw", desc := "([III)I" } : Jvm.MethodName) method_2_code (4 : Nat) (Option.some Jvm.ClassFile.FieldType.int)) ∈ np_gw := np_gwi 487 (by decide +kernel) rfl
theorem gw491 : (Jvm.Cond.methodLink "NotationPressLaw" (180 : Nat) ({ cls := "NotationPressLaw", name := "describes", desc := "(LNotationPress;II[I)Z" } : Jvm.MethodName)) ∈ np_gw := np_gwi 491 (by decide +kernel) rfl
theorem gw492 : (Jvm.Cond.static ({ cls := "NotationPressLaw", name := "describes", desc := "(LNotationPress;II[I)Z" } : Jvm.MethodName)) ∈ np_gw := np_gwi 492 (by decide +kernel) rfl
theorem gw493 : (Jvm.Cond.code ({ cls := "NotationPressLaw", name := "describes", desc := "(LNotationPress;II[I)Z" } : Jvm.MethodName) method_10_code (11 : Nat) (Option.some Jvm.ClassFile.FieldType.boolean)) ∈ np_gw := np_gwi 493 (by decide +kernel) rfl
theorem gw708 : (Jvm.Cond.methodLink "NotationPressLaw" (184 : Nat) ({ cls := "NotationPressLaw", name := "samples", desc := "(LNotationPress;II[I[I)Z" } : Jvm.MethodName)) ∈ np_gw := np_gwi 708 (by decide +kernel) rfl
theorem gw709 : (Jvm.Cond.static ({ cls := "NotationPressLaw", name := "samples", desc := "(LNotationPress;II[I[I)Z" } : Jvm.MethodName)) ∈ np_gw := np_gwi 709 (by decide +kernel) rfl
theorem gw710 : (Jvm.Cond.code ({ cls := "NotationPressLaw", name := "samples", desc := "(LNotationPress;II[I[I)Z" } : Jvm.MethodName) method_14_code (11 : Nat) (Option.some Jvm.ClassFile.FieldType.boolean)) ∈ np_gw := np_gwi 710 (by decide +kernel) rfl
theorem gw1204 : (Jvm.Cond.methodLink "NotationPressLaw" (188 : Nat) ({ cls := "NotationPressLaw", name := "constrains", desc := "(LNotationPress;II[I)Z" } : Jvm.MethodName)) ∈ np_gw := np_gwi 1204 (by decide +kernel) rfl
theorem gw1205 : (Jvm.Cond.static ({ cls := "NotationPressLaw", name := "constrains", desc := "(LNotationPress;II[I)Z" } : Jvm.MethodName)) ∈ np_gw := np_gwi 1205 (by decide +kernel) rfl
theorem gw1206 : (Jvm.Cond.code ({ cls := "NotationPressLaw", name := "constrains", desc := "(LNotationPress;II[I)Z" } : Jvm.MethodName) method_11_code (8 : Nat) (Option.some Jvm.ClassFile.FieldType.boolean)) ∈ np_gw := np_gwi 1206 (by decide +kernel) rfl
theorem gw1237 : (Jvm.Cond.methodLink "NotationPressLaw" (191 : Nat) ({ cls := "NotationPress", name := "stream", desc := "(II)I" } : Jvm.MethodName)) ∈ np_gw := np_gwi 1237 (by decide +kernel) rfl
theorem gw1238 : (Jvm.Cond.instanceMethod ({ cls := "NotationPress", name := "stream", desc := "(II)I" } : Jvm.MethodName)) ∈ np_gw := np_gwi 1238 (by decide +kernel) rfl
theorem gw1239 : (Jvm.Cond.selects "NotationPress" ({ cls := "NotationPress", name := "stream", desc := "(II)I" } : Jvm.MethodName) ({ cls := "NotationPress", name := "stream", desc := "(II)I" } : Jvm.MethodName)) ∈ np_gw := np_gwi 1239 (by decide +kernel) rfl
theorem gw1240 : (Jvm.Cond.code ({ cls := "NotationPress", name := "stream", desc := "(II)I" } : Jvm.MethodName) prog_1_method_18_code (6 : Nat) (Option.some Jvm.ClassFile.FieldType.int)) ∈ np_gw := np_gwi 1240 (by decide +kernel) rfl
theorem gw1245 : (Jvm.Cond.methodLink "NotationPressLaw" (194 : Nat) ({ cls := "NotationPressLaw", name := "steps", desc := "(LNotationPress;I[I)Z" } : Jvm.MethodName)) ∈ np_gw := np_gwi 1245 (by decide +kernel) rfl
theorem gw1246 : (Jvm.Cond.static ({ cls := "NotationPressLaw", name := "steps", desc := "(LNotationPress;I[I)Z" } : Jvm.MethodName)) ∈ np_gw := np_gwi 1246 (by decide +kernel) rfl
theorem gw1247 : (Jvm.Cond.code ({ cls := "NotationPressLaw", name := "steps", desc := "(LNotationPress;I[I)Z" } : Jvm.MethodName) method_16_code (11 : Nat) (Option.some Jvm.ClassFile.FieldType.boolean)) ∈ np_gw := np_gwi 1247 (by decide +kernel) rfl
theorem gw1268 : (Jvm.Cond.methodLink "NotationPressLaw" (198 : Nat) ({ cls := "NotationPress", name := "close", desc := "(I)Z" } : Jvm.MethodName)) ∈ np_gw := np_gwi 1268 (by decide +kernel) rfl
theorem gw1269 : (Jvm.Cond.instanceMethod ({ cls := "NotationPress", name := "close", desc := "(I)Z" } : Jvm.MethodName)) ∈ np_gw := np_gwi 1269 (by decide +kernel) rfl
theorem gw1270 : (Jvm.Cond.selects "NotationPress" ({ cls := "NotationPress", name := "close", desc := "(I)Z" } : Jvm.MethodName) ({ cls := "NotationPress", name := "close", desc := "(I)Z" } : Jvm.MethodName)) ∈ np_gw := np_gwi 1270 (by decide +kernel) rfl
theorem gw1271 : (Jvm.Cond.code ({ cls := "NotationPress", name := "close", desc := "(I)Z" } : Jvm.MethodName) prog_1_method_13_code (4 : Nat) (Option.some Jvm.ClassFile.FieldType.boolean)) ∈ np_gw := np_gwi 1271 (by decide +kernel) rfl
theorem gw1272 : (Jvm.Cond.methodLink "NotationPressLaw" (202 : Nat) ({ cls := "NotationPress", name := "column", desc := "(IIII)I" } : Jvm.MethodName)) ∈ np_gw := np_gwi 1272 (by decide +kernel) rfl
theorem gw1273 : (Jvm.Cond.instanceMethod ({ cls := "NotationPress", name := "column", desc := "(IIII)I" } : Jvm.MethodName)) ∈ np_gw := np_gwi 1273 (by decide +kernel) rfl
theorem gw1274 : (Jvm.Cond.selects "NotationPress" ({ cls := "NotationPress", name := "column", desc := "(IIII)I" } : Jvm.MethodName) ({ cls := "NotationPress", name := "column", desc := "(IIII)I" } : Jvm.MethodName)) ∈ np_gw := np_gwi 1274 (by decide +kernel) rfl
theorem gw1275 : (Jvm.Cond.code ({ cls := "NotationPress", name := "column", desc := "(IIII)I" } : Jvm.MethodName) prog_1_method_24_code (7 : Nat) (Option.some Jvm.ClassFile.FieldType.int)) ∈ np_gw := np_gwi 1275 (by decide +kernel) rfl
theorem gw1284 : (Jvm.Cond.methodLink "NotationPressLaw" (205 : Nat) ({ cls := "NotationPressLaw", name := "upgrades", desc := "(LNotationPress;II[I[I)Z" } : Jvm.MethodName)) ∈ np_gw := np_gwi 1284 (by decide +kernel) rfl
theorem gw1285 : (Jvm.Cond.static ({ cls := "NotationPressLaw", name := "upgrades", desc := "(LNotationPress;II[I[I)Z" } : Jvm.MethodName)) ∈ np_gw := np_gwi 1285 (by decide +kernel) rfl
theorem gw1286 : (Jvm.Cond.code ({ cls := "NotationPressLaw", name := "upgrades", desc := "(LNotationPress;II[I[I)Z" } : Jvm.MethodName) method_22_code (17 : Nat) (Option.some Jvm.ClassFile.FieldType.boolean)) ∈ np_gw := np_gwi 1286 (by decide +kernel) rfl
theorem gw1450 : (Jvm.Cond.methodLink "NotationPressLaw" (208 : Nat) ({ cls := "NotationPressLaw", name := "areKeys", desc := "(LNotationPress;I[I)Z" } : Jvm.MethodName)) ∈ np_gw := np_gwi 1450 (by decide +kernel) rfl
theorem gw1451 : (Jvm.Cond.static ({ cls := "NotationPressLaw", name := "areKeys", desc := "(LNotationPress;I[I)Z" } : Jvm.MethodName)) ∈ np_gw := np_gwi 1451 (by decide +kernel) rfl
theorem gw1452 : (Jvm.Cond.code ({ cls := "NotationPressLaw", name := "areKeys", desc := "(LNotationPress;I[I)Z" } : Jvm.MethodName) method_19_code (13 : Nat) (Option.some Jvm.ClassFile.FieldType.boolean)) ∈ np_gw := np_gwi 1452 (by decide +kernel) rfl
theorem gw1494 : (Jvm.Cond.methodLink "NotationPressLaw" (211 : Nat) ({ cls := "NotationPressLaw", name := "areColumns", desc := "(LNotationPress;[I[I)Z" } : Jvm.MethodName)) ∈ np_gw := np_gwi 1494 (by decide +kernel) rfl
theorem gw1495 : (Jvm.Cond.static ({ cls := "NotationPressLaw", name := "areColumns", desc := "(LNotationPress;[I[I)Z" } : Jvm.MethodName)) ∈ np_gw := np_gwi 1495 (by decide +kernel) rfl
theorem gw1496 : (Jvm.Cond.code ({ cls := "NotationPressLaw", name := "areColumns", desc := "(LNotationPress;[I[I)Z" } : Jvm.MethodName) method_18_code (15 : Nat) (Option.some Jvm.ClassFile.FieldType.boolean)) ∈ np_gw := np_gwi 1496 (by decide +kernel) rfl
theorem dL_press_0 : decode cL_press 0 = .ok (.new 11, 3) := by decide +kernel
theorem dL_press_3 : decode cL_press 3 = .ok (.dup, 1) := by decide +kernel
theorem dL_press_4 : decode cL_press 4 = .ok (.invokespecial 174, 3) := by decide +kernel
theorem dL_press_7 : decode cL_press 7 = .ok (.astore_n 2, 1) := by decide +kernel
theorem dL_press_8 : decode cL_press 8 = .ok (.bipush 18, 2) := by decide +kernel
theorem dL_press_10 : decode cL_press 10 = .ok (.newarray .int, 2) := by decide +kernel
theorem dL_press_12 : decode cL_press 12 = .ok (.astore_n 3, 1) := by decide +kernel
theorem dL_press_13 : decode cL_press 13 = .ok (.bipush 6, 2) := by decide +kernel
theorem dL_press_15 : decode cL_press 15 = .ok (.newarray .int, 2) := by decide +kernel
theorem dL_press_17 : decode cL_press 17 = .ok (.astore 4, 2) := by decide +kernel
theorem dL_press_19 : decode cL_press 19 = .ok (.bipush 24, 2) := by decide +kernel
theorem dL_press_21 : decode cL_press 21 = .ok (.newarray .int, 2) := by decide +kernel
theorem dL_press_23 : decode cL_press 23 = .ok (.astore 5, 2) := by decide +kernel
theorem dL_press_25 : decode cL_press 25 = .ok (.bipush 8, 2) := by decide +kernel
theorem dL_press_27 : decode cL_press 27 = .ok (.newarray .int, 2) := by decide +kernel
theorem dL_press_29 : decode cL_press 29 = .ok (.astore 6, 2) := by decide +kernel
theorem dL_press_31 : decode cL_press 31 = .ok (.iconst 0, 1) := by decide +kernel
theorem dL_press_32 : decode cL_press 32 = .ok (.istore 7, 2) := by decide +kernel
theorem dL_press_34 : decode cL_press 34 = .ok (.iload 7, 2) := by decide +kernel
theorem dL_press_36 : decode cL_press 36 = .ok (.bipush 54, 2) := by decide +kernel
theorem dL_press_38 : decode cL_press 38 = .ok (.if_icmp .ge 711, 3) := by decide +kernel
theorem dL_press_41 : decode cL_press 41 = .ok (.aload_n 0, 1) := by decide +kernel
theorem dL_press_42 : decode cL_press 42 = .ok (.iload_n 1, 1) := by decide +kernel
theorem dL_press_43 : decode cL_press 43 = .ok (.iconst 3, 1) := by decide +kernel
theorem dL_press_44 : decode cL_press 44 = .ok (.iload 7, 2) := by decide +kernel
theorem dL_press_46 : decode cL_press 46 = .ok (.imul, 1) := by decide +kernel
theorem dL_press_47 : decode cL_press 47 = .ok (.iadd, 1) := by decide +kernel
theorem dL_press_48 : decode cL_press 48 = .ok (.iconst 1, 1) := by decide +kernel
theorem dL_press_49 : decode cL_press 49 = .ok (.iadd, 1) := by decide +kernel
theorem dL_press_50 : decode cL_press 50 = .ok (.ldc 175, 2) := by decide +kernel
theorem dL_press_52 : decode cL_press 52 = .ok (.invokestatic 176, 3) := by decide +kernel
theorem dL_press_55 : decode cL_press 55 = .ok (.istore 8, 2) := by decide +kernel
theorem dL_press_57 : decode cL_press 57 = .ok (.aload_n 0, 1) := by decide +kernel
theorem dL_press_58 : decode cL_press 58 = .ok (.iload_n 1, 1) := by decide +kernel
theorem dL_press_59 : decode cL_press 59 = .ok (.iconst 3, 1) := by decide +kernel
theorem dL_press_60 : decode cL_press 60 = .ok (.iload 7, 2) := by decide +kernel
theorem dL_press_62 : decode cL_press 62 = .ok (.imul, 1) := by decide +kernel
theorem dL_press_63 : decode cL_press 63 = .ok (.iadd, 1) := by decide +kernel
theorem dL_press_64 : decode cL_press 64 = .ok (.iconst 2, 1) := by decide +kernel
theorem dL_press_65 : decode cL_press 65 = .ok (.iadd, 1) := by decide +kernel
theorem dL_press_66 : decode cL_press 66 = .ok (.ldc 175, 2) := by decide +kernel
theorem dL_press_68 : decode cL_press 68 = .ok (.invokestatic 176, 3) := by decide +kernel
theorem dL_press_71 : decode cL_press 71 = .ok (.istore 9, 2) := by decide +kernel
theorem dL_press_73 : decode cL_press 73 = .ok (.iload 7, 2) := by decide +kernel
theorem dL_press_75 : decode cL_press 75 = .ok (.iconst 4, 1) := by decide +kernel
theorem dL_press_76 : decode cL_press 76 = .ok (.if_icmp .ge 7, 3) := by decide +kernel
theorem dL_press_79 : decode cL_press 79 = .ok (.iconst 0, 1) := by decide +kernel
theorem dL_press_80 : decode cL_press 80 = .ok (.goto 27, 3) := by decide +kernel
theorem dL_press_83 : decode cL_press 83 = .ok (.iload 7, 2) := by decide +kernel
theorem dL_press_85 : decode cL_press 85 = .ok (.bipush 6, 2) := by decide +kernel
theorem dL_press_87 : decode cL_press 87 = .ok (.if_icmp .ge 8, 3) := by decide +kernel
theorem dL_press_90 : decode cL_press 90 = .ok (.bipush 9, 2) := by decide +kernel
theorem dL_press_92 : decode cL_press 92 = .ok (.goto 15, 3) := by decide +kernel
theorem dL_press_95 : decode cL_press 95 = .ok (.aload_n 0, 1) := by decide +kernel
theorem dL_press_96 : decode cL_press 96 = .ok (.iload_n 1, 1) := by decide +kernel
theorem dL_press_97 : decode cL_press 97 = .ok (.iconst 3, 1) := by decide +kernel
theorem dL_press_98 : decode cL_press 98 = .ok (.iload 7, 2) := by decide +kernel
theorem dL_press_100 : decode cL_press 100 = .ok (.imul, 1) := by decide +kernel
theorem dL_press_101 : decode cL_press 101 = .ok (.iadd, 1) := by decide +kernel
theorem dL_press_102 : decode cL_press 102 = .ok (.bipush 22, 2) := by decide +kernel
theorem dL_press_104 : decode cL_press 104 = .ok (.invokestatic 176, 3) := by decide +kernel
theorem dL_press_107 : decode cL_press 107 = .ok (.istore 10, 2) := by decide +kernel
theorem dL_press_109 : decode cL_press 109 = .ok (.iload 8, 2) := by decide +kernel
theorem dL_press_111 : decode cL_press 111 = .ok (.iconst 3, 1) := by decide +kernel
theorem dL_press_112 : decode cL_press 112 = .ok (.idiv, 1) := by decide +kernel
theorem dL_press_113 : decode cL_press 113 = .ok (.iconst 2, 1) := by decide +kernel
theorem dL_press_114 : decode cL_press 114 = .ok (.irem, 1) := by decide +kernel
theorem dL_press_115 : decode cL_press 115 = .ok (.istore 11, 2) := by decide +kernel
theorem dL_press_117 : decode cL_press 117 = .ok (.iconst 1, 1) := by decide +kernel
theorem dL_press_118 : decode cL_press 118 = .ok (.istore 12, 2) := by decide +kernel
theorem dL_press_120 : decode cL_press 120 = .ok (.iload 10, 2) := by decide +kernel
theorem dL_press_122 : decode cL_press 122 = .ok (.iconst 2, 1) := by decide +kernel
theorem dL_press_123 : decode cL_press 123 = .ok (.if_icmp .ge 17, 3) := by decide +kernel
theorem dL_press_126 : decode cL_press 126 = .ok (.aload_n 2, 1) := by decide +kernel
theorem dL_press_127 : decode cL_press 127 = .ok (.iload 8, 2) := by decide +kernel
theorem dL_press_129 : decode cL_press 129 = .ok (.iload 9, 2) := by decide +kernel
theorem dL_press_131 : decode cL_press 131 = .ok (.aload_n 3, 1) := by decide +kernel
theorem dL_press_132 : decode cL_press 132 = .ok (.invokestatic 180, 3) := by decide +kernel
theorem dL_press_135 : decode cL_press 135 = .ok (.istore 12, 2) := by decide +kernel
theorem dL_press_137 : decode cL_press 137 = .ok (.goto 580, 3) := by decide +kernel
theorem dL_press_140 : decode cL_press 140 = .ok (.iload 10, 2) := by decide +kernel
theorem dL_press_142 : decode cL_press 142 = .ok (.bipush 8, 2) := by decide +kernel
theorem dL_press_144 : decode cL_press 144 = .ok (.if_icmp .ge 19, 3) := by decide +kernel
theorem dL_press_147 : decode cL_press 147 = .ok (.aload_n 2, 1) := by decide +kernel
theorem dL_press_148 : decode cL_press 148 = .ok (.iload 8, 2) := by decide +kernel
theorem dL_press_150 : decode cL_press 150 = .ok (.iload 9, 2) := by decide +kernel
theorem dL_press_152 : decode cL_press 152 = .ok (.aload 5, 2) := by decide +kernel
theorem dL_press_154 : decode cL_press 154 = .ok (.aload_n 3, 1) := by decide +kernel
theorem dL_press_155 : decode cL_press 155 = .ok (.invokestatic 184, 3) := by decide +kernel
theorem dL_press_158 : decode cL_press 158 = .ok (.istore 12, 2) := by decide +kernel
theorem dL_press_160 : decode cL_press 160 = .ok (.goto 557, 3) := by decide +kernel
theorem dL_press_163 : decode cL_press 163 = .ok (.iload 10, 2) := by decide +kernel
theorem dL_press_165 : decode cL_press 165 = .ok (.bipush 8, 2) := by decide +kernel
theorem dL_press_167 : decode cL_press 167 = .ok (.if_icmp .ne 17, 3) := by decide +kernel
theorem dL_press_170 : decode cL_press 170 = .ok (.aload_n 2, 1) := by decide +kernel
theorem dL_press_171 : decode cL_press 171 = .ok (.iload 8, 2) := by decide +kernel
theorem dL_press_173 : decode cL_press 173 = .ok (.iload 9, 2) := by decide +kernel
theorem dL_press_175 : decode cL_press 175 = .ok (.aload_n 3, 1) := by decide +kernel
theorem dL_press_176 : decode cL_press 176 = .ok (.invokestatic 188, 3) := by decide +kernel
theorem dL_press_179 : decode cL_press 179 = .ok (.istore 12, 2) := by decide +kernel
theorem dL_press_181 : decode cL_press 181 = .ok (.goto 536, 3) := by decide +kernel
theorem dL_press_184 : decode cL_press 184 = .ok (.iload 10, 2) := by decide +kernel
theorem dL_press_186 : decode cL_press 186 = .ok (.bipush 9, 2) := by decide +kernel
theorem dL_press_188 : decode cL_press 188 = .ok (.if_icmp .ne 106, 3) := by decide +kernel
theorem dL_press_191 : decode cL_press 191 = .ok (.aload_n 3, 1) := by decide +kernel
theorem dL_press_192 : decode cL_press 192 = .ok (.iconst 0, 1) := by decide +kernel
theorem dL_press_193 : decode cL_press 193 = .ok (.iaload, 1) := by decide +kernel
theorem dL_press_194 : decode cL_press 194 = .ok (.ifCond .le 523, 3) := by decide +kernel
theorem dL_press_197 : decode cL_press 197 = .ok (.aload_n 2, 1) := by decide +kernel
theorem dL_press_198 : decode cL_press 198 = .ok (.iload 11, 2) := by decide +kernel
theorem dL_press_200 : decode cL_press 200 = .ok (.iload 9, 2) := by decide +kernel
theorem dL_press_202 : decode cL_press 202 = .ok (.aload_n 3, 1) := by decide +kernel
theorem dL_press_203 : decode cL_press 203 = .ok (.iconst 0, 1) := by decide +kernel
theorem dL_press_204 : decode cL_press 204 = .ok (.iaload, 1) := by decide +kernel
theorem dL_press_205 : decode cL_press 205 = .ok (.irem, 1) := by decide +kernel
theorem dL_press_206 : decode cL_press 206 = .ok (.invokevirtual 191, 3) := by decide +kernel
theorem dL_press_209 : decode cL_press 209 = .ok (.istore 13, 2) := by decide +kernel
theorem dL_press_211 : decode cL_press 211 = .ok (.iload 13, 2) := by decide +kernel
theorem dL_press_213 : decode cL_press 213 = .ok (.aload_n 3, 1) := by decide +kernel
theorem dL_press_214 : decode cL_press 214 = .ok (.iconst 4, 1) := by decide +kernel
theorem dL_press_215 : decode cL_press 215 = .ok (.bipush 6, 2) := by decide +kernel
theorem dL_press_217 : decode cL_press 217 = .ok (.iload 11, 2) := by decide +kernel
theorem dL_press_219 : decode cL_press 219 = .ok (.imul, 1) := by decide +kernel
theorem dL_press_220 : decode cL_press 220 = .ok (.iadd, 1) := by decide +kernel
theorem dL_press_221 : decode cL_press 221 = .ok (.iaload, 1) := by decide +kernel
theorem dL_press_222 : decode cL_press 222 = .ok (.if_icmp .ne 7, 3) := by decide +kernel
theorem dL_press_225 : decode cL_press 225 = .ok (.iconst 1, 1) := by decide +kernel
theorem dL_press_226 : decode cL_press 226 = .ok (.goto 4, 3) := by decide +kernel
theorem dL_press_229 : decode cL_press 229 = .ok (.iconst 0, 1) := by decide +kernel
theorem dL_press_230 : decode cL_press 230 = .ok (.istore 12, 2) := by decide +kernel
theorem dL_press_232 : decode cL_press 232 = .ok (.aload_n 3, 1) := by decide +kernel
theorem dL_press_233 : decode cL_press 233 = .ok (.iconst 3, 1) := by decide +kernel
theorem dL_press_234 : decode cL_press 234 = .ok (.bipush 6, 2) := by decide +kernel
theorem dL_press_236 : decode cL_press 236 = .ok (.iload 11, 2) := by decide +kernel
theorem dL_press_238 : decode cL_press 238 = .ok (.imul, 1) := by decide +kernel
theorem dL_press_239 : decode cL_press 239 = .ok (.iadd, 1) := by decide +kernel
theorem dL_press_240 : decode cL_press 240 = .ok (.iload 9, 2) := by decide +kernel
theorem dL_press_242 : decode cL_press 242 = .ok (.aload_n 3, 1) := by decide +kernel
theorem dL_press_243 : decode cL_press 243 = .ok (.iconst 0, 1) := by decide +kernel
theorem dL_press_244 : decode cL_press 244 = .ok (.iaload, 1) := by decide +kernel
theorem dL_press_245 : decode cL_press 245 = .ok (.irem, 1) := by decide +kernel
theorem dL_press_246 : decode cL_press 246 = .ok (.iconst 1, 1) := by decide +kernel
theorem dL_press_247 : decode cL_press 247 = .ok (.iadd, 1) := by decide +kernel
theorem dL_press_248 : decode cL_press 248 = .ok (.iastore, 1) := by decide +kernel
theorem dL_press_249 : decode cL_press 249 = .ok (.aload_n 3, 1) := by decide +kernel
theorem dL_press_250 : decode cL_press 250 = .ok (.iconst 4, 1) := by decide +kernel
theorem dL_press_251 : decode cL_press 251 = .ok (.bipush 6, 2) := by decide +kernel
theorem dL_press_253 : decode cL_press 253 = .ok (.iload 11, 2) := by decide +kernel
theorem dL_press_255 : decode cL_press 255 = .ok (.imul, 1) := by decide +kernel
theorem dL_press_256 : decode cL_press 256 = .ok (.iadd, 1) := by decide +kernel
theorem dL_press_257 : decode cL_press 257 = .ok (.iconst 0, 1) := by decide +kernel
theorem dL_press_258 : decode cL_press 258 = .ok (.iastore, 1) := by decide +kernel
theorem dL_press_259 : decode cL_press 259 = .ok (.aload_n 3, 1) := by decide +kernel
theorem dL_press_260 : decode cL_press 260 = .ok (.iconst 5, 1) := by decide +kernel
theorem dL_press_261 : decode cL_press 261 = .ok (.bipush 6, 2) := by decide +kernel
theorem dL_press_263 : decode cL_press 263 = .ok (.iload 11, 2) := by decide +kernel
theorem dL_press_265 : decode cL_press 265 = .ok (.imul, 1) := by decide +kernel
theorem dL_press_266 : decode cL_press 266 = .ok (.iadd, 1) := by decide +kernel
theorem dL_press_267 : decode cL_press 267 = .ok (.iconst 0, 1) := by decide +kernel
theorem dL_press_268 : decode cL_press 268 = .ok (.iastore, 1) := by decide +kernel
theorem dL_press_269 : decode cL_press 269 = .ok (.aload_n 3, 1) := by decide +kernel
theorem dL_press_270 : decode cL_press 270 = .ok (.bipush 6, 2) := by decide +kernel
theorem dL_press_272 : decode cL_press 272 = .ok (.bipush 6, 2) := by decide +kernel
theorem dL_press_274 : decode cL_press 274 = .ok (.iload 11, 2) := by decide +kernel
theorem dL_press_276 : decode cL_press 276 = .ok (.imul, 1) := by decide +kernel
theorem dL_press_277 : decode cL_press 277 = .ok (.iadd, 1) := by decide +kernel
theorem dL_press_278 : decode cL_press 278 = .ok (.iconst 0, 1) := by decide +kernel
theorem dL_press_279 : decode cL_press 279 = .ok (.iastore, 1) := by decide +kernel
theorem dL_press_280 : decode cL_press 280 = .ok (.aload_n 3, 1) := by decide +kernel
theorem dL_press_281 : decode cL_press 281 = .ok (.bipush 7, 2) := by decide +kernel
theorem dL_press_283 : decode cL_press 283 = .ok (.bipush 6, 2) := by decide +kernel
theorem dL_press_285 : decode cL_press 285 = .ok (.iload 11, 2) := by decide +kernel
theorem dL_press_287 : decode cL_press 287 = .ok (.imul, 1) := by decide +kernel
theorem dL_press_288 : decode cL_press 288 = .ok (.iadd, 1) := by decide +kernel
theorem dL_press_289 : decode cL_press 289 = .ok (.iconst 0, 1) := by decide +kernel
theorem dL_press_290 : decode cL_press 290 = .ok (.iastore, 1) := by decide +kernel
theorem dL_press_291 : decode cL_press 291 = .ok (.goto 426, 3) := by decide +kernel
theorem dL_press_294 : decode cL_press 294 = .ok (.iload 10, 2) := by decide +kernel
theorem dL_press_296 : decode cL_press 296 = .ok (.bipush 17, 2) := by decide +kernel
theorem dL_press_298 : decode cL_press 298 = .ok (.if_icmp .ge 40, 3) := by decide +kernel
theorem dL_press_301 : decode cL_press 301 = .ok (.aload_n 3, 1) := by decide +kernel
theorem dL_press_302 : decode cL_press 302 = .ok (.bipush 17, 2) := by decide +kernel
theorem dL_press_304 : decode cL_press 304 = .ok (.dup2, 1) := by decide +kernel
theorem dL_press_305 : decode cL_press 305 = .ok (.iaload, 1) := by decide +kernel
theorem dL_press_306 : decode cL_press 306 = .ok (.iconst 1, 1) := by decide +kernel
theorem dL_press_307 : decode cL_press 307 = .ok (.iadd, 1) := by decide +kernel
theorem dL_press_308 : decode cL_press 308 = .ok (.iastore, 1) := by decide +kernel
theorem dL_press_309 : decode cL_press 309 = .ok (.aload_n 3, 1) := by decide +kernel
theorem dL_press_310 : decode cL_press 310 = .ok (.bipush 17, 2) := by decide +kernel
theorem dL_press_312 : decode cL_press 312 = .ok (.iaload, 1) := by decide +kernel
theorem dL_press_313 : decode cL_press 313 = .ok (.bipush 10, 2) := by decide +kernel
theorem dL_press_315 : decode cL_press 315 = .ok (.if_icmp .gt 13, 3) := by decide +kernel
theorem dL_press_318 : decode cL_press 318 = .ok (.aload_n 2, 1) := by decide +kernel
theorem dL_press_319 : decode cL_press 319 = .ok (.iload 11, 2) := by decide +kernel
theorem dL_press_321 : decode cL_press 321 = .ok (.aload_n 3, 1) := by decide +kernel
theorem dL_press_322 : decode cL_press 322 = .ok (.invokestatic 194, 3) := by decide +kernel
theorem dL_press_325 : decode cL_press 325 = .ok (.ifCond .eq 7, 3) := by decide +kernel
theorem dL_press_328 : decode cL_press 328 = .ok (.iconst 1, 1) := by decide +kernel
theorem dL_press_329 : decode cL_press 329 = .ok (.goto 4, 3) := by decide +kernel
theorem dL_press_332 : decode cL_press 332 = .ok (.iconst 0, 1) := by decide +kernel
theorem dL_press_333 : decode cL_press 333 = .ok (.istore 12, 2) := by decide +kernel
theorem dL_press_335 : decode cL_press 335 = .ok (.goto 382, 3) := by decide +kernel
theorem dL_press_338 : decode cL_press 338 = .ok (.iload 10, 2) := by decide +kernel
theorem dL_press_340 : decode cL_press 340 = .ok (.bipush 17, 2) := by decide +kernel
theorem dL_press_342 : decode cL_press 342 = .ok (.if_icmp .ne 175, 3) := by decide +kernel
theorem dL_press_345 : decode cL_press 345 = .ok (.iload 9, 2) := by decide +kernel
theorem dL_press_347 : decode cL_press 347 = .ok (.iconst 3, 1) := by decide +kernel
theorem dL_press_348 : decode cL_press 348 = .ok (.irem, 1) := by decide +kernel
theorem dL_press_349 : decode cL_press 349 = .ok (.ifCond .ne 8, 3) := by decide +kernel
theorem dL_press_352 : decode cL_press 352 = .ok (.bipush 10, 2) := by decide +kernel
theorem dL_press_354 : decode cL_press 354 = .ok (.goto 33, 3) := by decide +kernel
theorem dL_press_357 : decode cL_press 357 = .ok (.iload 9, 2) := by decide +kernel
theorem dL_press_359 : decode cL_press 359 = .ok (.iconst 3, 1) := by decide +kernel
theorem dL_press_360 : decode cL_press 360 = .ok (.irem, 1) := by decide +kernel
theorem dL_press_361 : decode cL_press 361 = .ok (.iconst 1, 1) := by decide +kernel
theorem dL_press_362 : decode cL_press 362 = .ok (.if_icmp .ne 15, 3) := by decide +kernel
theorem dL_press_365 : decode cL_press 365 = .ok (.bipush 97, 2) := by decide +kernel
theorem dL_press_367 : decode cL_press 367 = .ok (.iload 9, 2) := by decide +kernel
theorem dL_press_369 : decode cL_press 369 = .ok (.iconst 3, 1) := by decide +kernel
theorem dL_press_370 : decode cL_press 370 = .ok (.idiv, 1) := by decide +kernel
theorem dL_press_371 : decode cL_press 371 = .ok (.iconst 4, 1) := by decide +kernel
theorem dL_press_372 : decode cL_press 372 = .ok (.irem, 1) := by decide +kernel
theorem dL_press_373 : decode cL_press 373 = .ok (.iadd, 1) := by decide +kernel
theorem dL_press_374 : decode cL_press 374 = .ok (.goto 13, 3) := by decide +kernel
theorem dL_press_377 : decode cL_press 377 = .ok (.bipush 32, 2) := by decide +kernel
theorem dL_press_379 : decode cL_press 379 = .ok (.iload 9, 2) := by decide +kernel
theorem dL_press_381 : decode cL_press 381 = .ok (.iconst 3, 1) := by decide +kernel
theorem dL_press_382 : decode cL_press 382 = .ok (.idiv, 1) := by decide +kernel
theorem dL_press_383 : decode cL_press 383 = .ok (.bipush 95, 2) := by decide +kernel
theorem dL_press_385 : decode cL_press 385 = .ok (.irem, 1) := by decide +kernel
theorem dL_press_386 : decode cL_press 386 = .ok (.iadd, 1) := by decide +kernel
theorem dL_press_387 : decode cL_press 387 = .ok (.istore 13, 2) := by decide +kernel
theorem dL_press_389 : decode cL_press 389 = .ok (.iload 9, 2) := by decide +kernel
theorem dL_press_391 : decode cL_press 391 = .ok (.sipush 400, 3) := by decide +kernel
theorem dL_press_394 : decode cL_press 394 = .ok (.idiv, 1) := by decide +kernel
theorem dL_press_395 : decode cL_press 395 = .ok (.iconst 2, 1) := by decide +kernel
theorem dL_press_396 : decode cL_press 396 = .ok (.irem, 1) := by decide +kernel
theorem dL_press_397 : decode cL_press 397 = .ok (.ifCond .ne 7, 3) := by decide +kernel
theorem dL_press_400 : decode cL_press 400 = .ok (.iconst 0, 1) := by decide +kernel
theorem dL_press_401 : decode cL_press 401 = .ok (.goto 6, 3) := by decide +kernel
theorem dL_press_404 : decode cL_press 404 = .ok (.sipush 2560, 3) := by decide +kernel
theorem dL_press_407 : decode cL_press 407 = .ok (.istore 14, 2) := by decide +kernel
theorem dL_press_409 : decode cL_press 409 = .ok (.aload_n 2, 1) := by decide +kernel
theorem dL_press_410 : decode cL_press 410 = .ok (.iload 11, 2) := by decide +kernel
theorem dL_press_412 : decode cL_press 412 = .ok (.invokestatic 105, 3) := by decide +kernel
theorem dL_press_415 : decode cL_press 415 = .ok (.istore 15, 2) := by decide +kernel
theorem dL_press_417 : decode cL_press 417 = .ok (.aload_n 2, 1) := by decide +kernel
theorem dL_press_418 : decode cL_press 418 = .ok (.iconst 1, 1) := by decide +kernel
theorem dL_press_419 : decode cL_press 419 = .ok (.iload 11, 2) := by decide +kernel
theorem dL_press_421 : decode cL_press 421 = .ok (.iload 13, 2) := by decide +kernel
theorem dL_press_423 : decode cL_press 423 = .ok (.iload 14, 2) := by decide +kernel
theorem dL_press_425 : decode cL_press 425 = .ok (.ior, 1) := by decide +kernel
theorem dL_press_426 : decode cL_press 426 = .ok (.iconst 0, 1) := by decide +kernel
theorem dL_press_427 : decode cL_press 427 = .ok (.invokestatic 52, 3) := by decide +kernel
theorem dL_press_430 : decode cL_press 430 = .ok (.istore 16, 2) := by decide +kernel
theorem dL_press_432 : decode cL_press 432 = .ok (.iload 14, 2) := by decide +kernel
theorem dL_press_434 : decode cL_press 434 = .ok (.ifCond .le 7, 3) := by decide +kernel
theorem dL_press_437 : decode cL_press 437 = .ok (.iconst 2, 1) := by decide +kernel
theorem dL_press_438 : decode cL_press 438 = .ok (.goto 4, 3) := by decide +kernel
theorem dL_press_441 : decode cL_press 441 = .ok (.iconst 1, 1) := by decide +kernel
theorem dL_press_442 : decode cL_press 442 = .ok (.istore 17, 2) := by decide +kernel
theorem dL_press_444 : decode cL_press 444 = .ok (.aload_n 3, 1) := by decide +kernel
theorem dL_press_445 : decode cL_press 445 = .ok (.bipush 8, 2) := by decide +kernel
theorem dL_press_447 : decode cL_press 447 = .ok (.bipush 6, 2) := by decide +kernel
theorem dL_press_449 : decode cL_press 449 = .ok (.iload 11, 2) := by decide +kernel
theorem dL_press_451 : decode cL_press 451 = .ok (.imul, 1) := by decide +kernel
theorem dL_press_452 : decode cL_press 452 = .ok (.iadd, 1) := by decide +kernel
theorem dL_press_453 : decode cL_press 453 = .ok (.iaload, 1) := by decide +kernel
theorem dL_press_454 : decode cL_press 454 = .ok (.iconst 1, 1) := by decide +kernel
theorem dL_press_455 : decode cL_press 455 = .ok (.if_icmp .eq 14, 3) := by decide +kernel
theorem dL_press_458 : decode cL_press 458 = .ok (.iload 15, 2) := by decide +kernel
theorem dL_press_460 : decode cL_press 460 = .ok (.iload 17, 2) := by decide +kernel
theorem dL_press_462 : decode cL_press 462 = .ok (.iadd, 1) := by decide +kernel
theorem dL_press_463 : decode cL_press 463 = .ok (.sipush 300, 3) := by decide +kernel
theorem dL_press_466 : decode cL_press 466 = .ok (.if_icmp .le 18, 3) := by decide +kernel
theorem dL_press_469 : decode cL_press 469 = .ok (.iload 16, 2) := by decide +kernel
theorem dL_press_471 : decode cL_press 471 = .ok (.ldc 42, 2) := by decide +kernel
theorem dL_press_473 : decode cL_press 473 = .ok (.if_icmp .ne 7, 3) := by decide +kernel
theorem dL_press_476 : decode cL_press 476 = .ok (.iconst 1, 1) := by decide +kernel
theorem dL_press_477 : decode cL_press 477 = .ok (.goto 35, 3) := by decide +kernel
theorem dL_press_480 : decode cL_press 480 = .ok (.iconst 0, 1) := by decide +kernel
theorem dL_press_481 : decode cL_press 481 = .ok (.goto 31, 3) := by decide +kernel
theorem dL_press_484 : decode cL_press 484 = .ok (.iload 16, 2) := by decide +kernel
theorem dL_press_486 : decode cL_press 486 = .ok (.iload 15, 2) := by decide +kernel
theorem dL_press_488 : decode cL_press 488 = .ok (.iload 17, 2) := by decide +kernel
theorem dL_press_490 : decode cL_press 490 = .ok (.iadd, 1) := by decide +kernel
theorem dL_press_491 : decode cL_press 491 = .ok (.if_icmp .ne 20, 3) := by decide +kernel
theorem dL_press_494 : decode cL_press 494 = .ok (.aload_n 2, 1) := by decide +kernel
theorem dL_press_495 : decode cL_press 495 = .ok (.iload 11, 2) := by decide +kernel
theorem dL_press_497 : decode cL_press 497 = .ok (.iload 15, 2) := by decide +kernel
theorem dL_press_499 : decode cL_press 499 = .ok (.invokevirtual 33, 3) := by decide +kernel
theorem dL_press_502 : decode cL_press 502 = .ok (.iload 13, 2) := by decide +kernel
theorem dL_press_504 : decode cL_press 504 = .ok (.if_icmp .ne 7, 3) := by decide +kernel
theorem dL_press_507 : decode cL_press 507 = .ok (.iconst 1, 1) := by decide +kernel
theorem dL_press_508 : decode cL_press 508 = .ok (.goto 4, 3) := by decide +kernel
theorem dL_press_511 : decode cL_press 511 = .ok (.iconst 0, 1) := by decide +kernel
theorem dL_press_512 : decode cL_press 512 = .ok (.istore 12, 2) := by decide +kernel
theorem dL_press_514 : decode cL_press 514 = .ok (.goto 203, 3) := by decide +kernel
theorem dL_press_517 : decode cL_press 517 = .ok (.iload 10, 2) := by decide +kernel
theorem dL_press_519 : decode cL_press 519 = .ok (.bipush 18, 2) := by decide +kernel
theorem dL_press_521 : decode cL_press 521 = .ok (.if_icmp .ne 59, 3) := by decide +kernel
theorem dL_press_524 : decode cL_press 524 = .ok (.iload 9, 2) := by decide +kernel
theorem dL_press_526 : decode cL_press 526 = .ok (.bipush 6, 2) := by decide +kernel
theorem dL_press_528 : decode cL_press 528 = .ok (.irem, 1) := by decide +kernel
theorem dL_press_529 : decode cL_press 529 = .ok (.ifCond .ne 188, 3) := by decide +kernel
theorem dL_press_532 : decode cL_press 532 = .ok (.aload_n 2, 1) := by decide +kernel
theorem dL_press_533 : decode cL_press 533 = .ok (.iload 11, 2) := by decide +kernel
theorem dL_press_535 : decode cL_press 535 = .ok (.invokevirtual 198, 3) := by decide +kernel
theorem dL_press_538 : decode cL_press 538 = .ok (.aload_n 3, 1) := by decide +kernel
theorem dL_press_539 : decode cL_press 539 = .ok (.bipush 8, 2) := by decide +kernel
theorem dL_press_541 : decode cL_press 541 = .ok (.bipush 6, 2) := by decide +kernel
theorem dL_press_543 : decode cL_press 543 = .ok (.iload 11, 2) := by decide +kernel
theorem dL_press_545 : decode cL_press 545 = .ok (.imul, 1) := by decide +kernel
theorem dL_press_546 : decode cL_press 546 = .ok (.iadd, 1) := by decide +kernel
theorem dL_press_547 : decode cL_press 547 = .ok (.iaload, 1) := by decide +kernel
theorem dL_press_548 : decode cL_press 548 = .ok (.ifCond .ne 7, 3) := by decide +kernel
theorem dL_press_551 : decode cL_press 551 = .ok (.iconst 1, 1) := by decide +kernel
theorem dL_press_552 : decode cL_press 552 = .ok (.goto 4, 3) := by decide +kernel
theorem dL_press_555 : decode cL_press 555 = .ok (.iconst 0, 1) := by decide +kernel
theorem dL_press_556 : decode cL_press 556 = .ok (.if_icmp .ne 7, 3) := by decide +kernel
theorem dL_press_559 : decode cL_press 559 = .ok (.iconst 1, 1) := by decide +kernel
theorem dL_press_560 : decode cL_press 560 = .ok (.goto 4, 3) := by decide +kernel
theorem dL_press_563 : decode cL_press 563 = .ok (.iconst 0, 1) := by decide +kernel
theorem dL_press_564 : decode cL_press 564 = .ok (.istore 12, 2) := by decide +kernel
theorem dL_press_566 : decode cL_press 566 = .ok (.aload_n 3, 1) := by decide +kernel
theorem dL_press_567 : decode cL_press 567 = .ok (.bipush 8, 2) := by decide +kernel
theorem dL_press_569 : decode cL_press 569 = .ok (.bipush 6, 2) := by decide +kernel
theorem dL_press_571 : decode cL_press 571 = .ok (.iload 11, 2) := by decide +kernel
theorem dL_press_573 : decode cL_press 573 = .ok (.imul, 1) := by decide +kernel
theorem dL_press_574 : decode cL_press 574 = .ok (.iadd, 1) := by decide +kernel
theorem dL_press_575 : decode cL_press 575 = .ok (.iconst 1, 1) := by decide +kernel
theorem dL_press_576 : decode cL_press 576 = .ok (.iastore, 1) := by decide +kernel
theorem dL_press_577 : decode cL_press 577 = .ok (.goto 140, 3) := by decide +kernel
theorem dL_press_580 : decode cL_press 580 = .ok (.iload 10, 2) := by decide +kernel
theorem dL_press_582 : decode cL_press 582 = .ok (.bipush 19, 2) := by decide +kernel
theorem dL_press_584 : decode cL_press 584 = .ok (.if_icmp .ne 100, 3) := by decide +kernel
theorem dL_press_587 : decode cL_press 587 = .ok (.aload_n 3, 1) := by decide +kernel
theorem dL_press_588 : decode cL_press 588 = .ok (.iconst 1, 1) := by decide +kernel
theorem dL_press_589 : decode cL_press 589 = .ok (.iaload, 1) := by decide +kernel
theorem dL_press_590 : decode cL_press 590 = .ok (.bipush 6, 2) := by decide +kernel
theorem dL_press_592 : decode cL_press 592 = .ok (.if_icmp .ge 125, 3) := by decide +kernel
theorem dL_press_595 : decode cL_press 595 = .ok (.aload 4, 2) := by decide +kernel
theorem dL_press_597 : decode cL_press 597 = .ok (.aload_n 3, 1) := by decide +kernel
theorem dL_press_598 : decode cL_press 598 = .ok (.iconst 1, 1) := by decide +kernel
theorem dL_press_599 : decode cL_press 599 = .ok (.iaload, 1) := by decide +kernel
theorem dL_press_600 : decode cL_press 600 = .ok (.iload 11, 2) := by decide +kernel
theorem dL_press_602 : decode cL_press 602 = .ok (.iload 9, 2) := by decide +kernel
theorem dL_press_604 : decode cL_press 604 = .ok (.iconst 4, 1) := by decide +kernel
theorem dL_press_605 : decode cL_press 605 = .ok (.irem, 1) := by decide +kernel
theorem dL_press_606 : decode cL_press 606 = .ok (.iconst 1, 1) := by decide +kernel
theorem dL_press_607 : decode cL_press 607 = .ok (.ishl, 1) := by decide +kernel
theorem dL_press_608 : decode cL_press 608 = .ok (.ior, 1) := by decide +kernel
theorem dL_press_609 : decode cL_press 609 = .ok (.iload 9, 2) := by decide +kernel
theorem dL_press_611 : decode cL_press 611 = .ok (.iconst 4, 1) := by decide +kernel
theorem dL_press_612 : decode cL_press 612 = .ok (.idiv, 1) := by decide +kernel
theorem dL_press_613 : decode cL_press 613 = .ok (.bipush 6, 2) := by decide +kernel
theorem dL_press_615 : decode cL_press 615 = .ok (.irem, 1) := by decide +kernel
theorem dL_press_616 : decode cL_press 616 = .ok (.iconst 3, 1) := by decide +kernel
theorem dL_press_617 : decode cL_press 617 = .ok (.ishl, 1) := by decide +kernel
theorem dL_press_618 : decode cL_press 618 = .ok (.ior, 1) := by decide +kernel
theorem dL_press_619 : decode cL_press 619 = .ok (.iconst 1, 1) := by decide +kernel
theorem dL_press_620 : decode cL_press 620 = .ok (.iload 9, 2) := by decide +kernel
theorem dL_press_622 : decode cL_press 622 = .ok (.bipush 32, 2) := by decide +kernel
theorem dL_press_624 : decode cL_press 624 = .ok (.idiv, 1) := by decide +kernel
theorem dL_press_625 : decode cL_press 625 = .ok (.iconst 5, 1) := by decide +kernel
theorem dL_press_626 : decode cL_press 626 = .ok (.irem, 1) := by decide +kernel
theorem dL_press_627 : decode cL_press 627 = .ok (.iadd, 1) := by decide +kernel
theorem dL_press_628 : decode cL_press 628 = .ok (.bipush 6, 2) := by decide +kernel
theorem dL_press_630 : decode cL_press 630 = .ok (.ishl, 1) := by decide +kernel
theorem dL_press_631 : decode cL_press 631 = .ok (.ior, 1) := by decide +kernel
theorem dL_press_632 : decode cL_press 632 = .ok (.iastore, 1) := by decide +kernel
theorem dL_press_633 : decode cL_press 633 = .ok (.aload_n 3, 1) := by decide +kernel
theorem dL_press_634 : decode cL_press 634 = .ok (.iconst 1, 1) := by decide +kernel
theorem dL_press_635 : decode cL_press 635 = .ok (.dup2, 1) := by decide +kernel
theorem dL_press_636 : decode cL_press 636 = .ok (.iaload, 1) := by decide +kernel
theorem dL_press_637 : decode cL_press 637 = .ok (.iconst 1, 1) := by decide +kernel
theorem dL_press_638 : decode cL_press 638 = .ok (.iadd, 1) := by decide +kernel
theorem dL_press_639 : decode cL_press 639 = .ok (.iastore, 1) := by decide +kernel
theorem dL_press_640 : decode cL_press 640 = .ok (.aload_n 2, 1) := by decide +kernel
theorem dL_press_641 : decode cL_press 641 = .ok (.iload 11, 2) := by decide +kernel
theorem dL_press_643 : decode cL_press 643 = .ok (.iload 9, 2) := by decide +kernel
theorem dL_press_645 : decode cL_press 645 = .ok (.iconst 4, 1) := by decide +kernel
theorem dL_press_646 : decode cL_press 646 = .ok (.irem, 1) := by decide +kernel
theorem dL_press_647 : decode cL_press 647 = .ok (.iload 9, 2) := by decide +kernel
theorem dL_press_649 : decode cL_press 649 = .ok (.iconst 4, 1) := by decide +kernel
theorem dL_press_650 : decode cL_press 650 = .ok (.idiv, 1) := by decide +kernel
theorem dL_press_651 : decode cL_press 651 = .ok (.bipush 6, 2) := by decide +kernel
theorem dL_press_653 : decode cL_press 653 = .ok (.irem, 1) := by decide +kernel
theorem dL_press_654 : decode cL_press 654 = .ok (.iconst 1, 1) := by decide +kernel
theorem dL_press_655 : decode cL_press 655 = .ok (.iload 9, 2) := by decide +kernel
theorem dL_press_657 : decode cL_press 657 = .ok (.bipush 32, 2) := by decide +kernel
theorem dL_press_659 : decode cL_press 659 = .ok (.idiv, 1) := by decide +kernel
theorem dL_press_660 : decode cL_press 660 = .ok (.iconst 5, 1) := by decide +kernel
theorem dL_press_661 : decode cL_press 661 = .ok (.irem, 1) := by decide +kernel
theorem dL_press_662 : decode cL_press 662 = .ok (.iadd, 1) := by decide +kernel
theorem dL_press_663 : decode cL_press 663 = .ok (.invokevirtual 202, 3) := by decide +kernel
theorem dL_press_666 : decode cL_press 666 = .ok (.aload_n 3, 1) := by decide +kernel
theorem dL_press_667 : decode cL_press 667 = .ok (.iconst 1, 1) := by decide +kernel
theorem dL_press_668 : decode cL_press 668 = .ok (.iaload, 1) := by decide +kernel
theorem dL_press_669 : decode cL_press 669 = .ok (.iconst 1, 1) := by decide +kernel
theorem dL_press_670 : decode cL_press 670 = .ok (.isub, 1) := by decide +kernel
theorem dL_press_671 : decode cL_press 671 = .ok (.if_icmp .ne 7, 3) := by decide +kernel
theorem dL_press_674 : decode cL_press 674 = .ok (.iconst 1, 1) := by decide +kernel
theorem dL_press_675 : decode cL_press 675 = .ok (.goto 4, 3) := by decide +kernel
theorem dL_press_678 : decode cL_press 678 = .ok (.iconst 0, 1) := by decide +kernel
theorem dL_press_679 : decode cL_press 679 = .ok (.istore 12, 2) := by decide +kernel
theorem dL_press_681 : decode cL_press 681 = .ok (.goto 36, 3) := by decide +kernel
theorem dL_press_684 : decode cL_press 684 = .ok (.iload 10, 2) := by decide +kernel
theorem dL_press_686 : decode cL_press 686 = .ok (.bipush 20, 2) := by decide +kernel
theorem dL_press_688 : decode cL_press 688 = .ok (.if_icmp .ne 17, 3) := by decide +kernel
theorem dL_press_691 : decode cL_press 691 = .ok (.aload_n 2, 1) := by decide +kernel
theorem dL_press_692 : decode cL_press 692 = .ok (.iload 8, 2) := by decide +kernel
theorem dL_press_694 : decode cL_press 694 = .ok (.iload 9, 2) := by decide +kernel
theorem dL_press_696 : decode cL_press 696 = .ok (.aload 6, 2) := by decide +kernel
theorem dL_press_698 : decode cL_press 698 = .ok (.aload_n 3, 1) := by decide +kernel
theorem dL_press_699 : decode cL_press 699 = .ok (.invokestatic 205, 3) := by decide +kernel
theorem dL_press_702 : decode cL_press 702 = .ok (.goto 13, 3) := by decide +kernel
theorem dL_press_705 : decode cL_press 705 = .ok (.aload_n 2, 1) := by decide +kernel
theorem dL_press_706 : decode cL_press 706 = .ok (.iload 9, 2) := by decide +kernel
theorem dL_press_708 : decode cL_press 708 = .ok (.bipush 6, 2) := by decide +kernel
theorem dL_press_710 : decode cL_press 710 = .ok (.irem, 1) := by decide +kernel
theorem dL_press_711 : decode cL_press 711 = .ok (.aload_n 3, 1) := by decide +kernel
theorem dL_press_712 : decode cL_press 712 = .ok (.invokestatic 208, 3) := by decide +kernel
theorem dL_press_715 : decode cL_press 715 = .ok (.istore 12, 2) := by decide +kernel
theorem dL_press_717 : decode cL_press 717 = .ok (.iload 12, 2) := by decide +kernel
theorem dL_press_719 : decode cL_press 719 = .ok (.ifCond .eq 22, 3) := by decide +kernel
theorem dL_press_722 : decode cL_press 722 = .ok (.iload 7, 2) := by decide +kernel
theorem dL_press_724 : decode cL_press 724 = .ok (.bipush 6, 2) := by decide +kernel
theorem dL_press_726 : decode cL_press 726 = .ok (.irem, 1) := by decide +kernel
theorem dL_press_727 : decode cL_press 727 = .ok (.iconst 5, 1) := by decide +kernel
theorem dL_press_728 : decode cL_press 728 = .ok (.if_icmp .ne 15, 3) := by decide +kernel
theorem dL_press_731 : decode cL_press 731 = .ok (.aload_n 2, 1) := by decide +kernel
theorem dL_press_732 : decode cL_press 732 = .ok (.aload 4, 2) := by decide +kernel
theorem dL_press_734 : decode cL_press 734 = .ok (.aload_n 3, 1) := by decide +kernel
theorem dL_press_735 : decode cL_press 735 = .ok (.invokestatic 211, 3) := by decide +kernel
theorem dL_press_738 : decode cL_press 738 = .ok (.ifCond .ne 5, 3) := by decide +kernel
theorem dL_press_741 : decode cL_press 741 = .ok (.iconst 0, 1) := by decide +kernel
theorem dL_press_742 : decode cL_press 742 = .ok (.ireturn, 1) := by decide +kernel
theorem dL_press_743 : decode cL_press 743 = .ok (.iinc 7 1, 3) := by decide +kernel
theorem dL_press_746 : decode cL_press 746 = .ok (.goto (-712), 3) := by decide +kernel
theorem dL_press_749 : decode cL_press 749 = .ok (.aload_n 2, 1) := by decide +kernel
theorem dL_press_750 : decode cL_press 750 = .ok (.aload 4, 2) := by decide +kernel
theorem dL_press_752 : decode cL_press 752 = .ok (.aload_n 3, 1) := by decide +kernel
theorem dL_press_753 : decode cL_press 753 = .ok (.invokestatic 211, 3) := by decide +kernel
theorem dL_press_756 : decode cL_press 756 = .ok (.ifCond .eq 25, 3) := by decide +kernel
theorem dL_press_759 : decode cL_press 759 = .ok (.aload_n 2, 1) := by decide +kernel
theorem dL_press_760 : decode cL_press 760 = .ok (.iconst 0, 1) := by decide +kernel
theorem dL_press_761 : decode cL_press 761 = .ok (.aload_n 3, 1) := by decide +kernel
theorem dL_press_762 : decode cL_press 762 = .ok (.invokestatic 208, 3) := by decide +kernel
theorem dL_press_765 : decode cL_press 765 = .ok (.ifCond .eq 16, 3) := by decide +kernel
theorem dL_press_768 : decode cL_press 768 = .ok (.aload_n 2, 1) := by decide +kernel
theorem dL_press_769 : decode cL_press 769 = .ok (.iconst 1, 1) := by decide +kernel
theorem dL_press_770 : decode cL_press 770 = .ok (.aload_n 3, 1) := by decide +kernel
theorem dL_press_771 : decode cL_press 771 = .ok (.invokestatic 208, 3) := by decide +kernel
theorem dL_press_774 : decode cL_press 774 = .ok (.ifCond .eq 7, 3) := by decide +kernel
theorem dL_press_777 : decode cL_press 777 = .ok (.iconst 1, 1) := by decide +kernel
theorem dL_press_778 : decode cL_press 778 = .ok (.goto 4, 3) := by decide +kernel
theorem dL_press_781 : decode cL_press 781 = .ok (.iconst 0, 1) := by decide +kernel
theorem dL_press_782 : decode cL_press 782 = .ok (.ireturn, 1) := by decide +kernel
