theorem gw4 : (Jvm.Cond.selects "NotationPress$Sampler" ({ cls := "NotationPress$Sampler", name := "levelAt", desc := "(I)LNotationPress$Trace;" } : Jvm.MethodName) ({ cls := "NotationPress$Sampler", name := "levelAt", desc := "(I)LNotationPress$Trace;" } : Jvm.MethodName)) ∈ np_gw := np_gwi 4 (by decide +kernel) rfl
theorem gw6 : (Jvm.Cond.selects "NotationPress$Sampler" ({ cls := "NotationPress$Sampler", name := "comeTo", desc := "(LNotationPress$Items;LNotationPress$Trace;)V" } : Jvm.MethodName) ({ cls := "NotationPress$Sampler", name := "comeTo", desc := "(LNotationPress$Items;LNotationPress$Trace;)V" } : Jvm.MethodName)) ∈ np_gw := np_gwi 6 (by decide +kernel) rfl
theorem gw15 : (Jvm.Cond.selects "NotationPress$Sampler" ({ cls := "NotationPress$Sampler", name := "tryNext", desc := "(LNotationPress$Description;LNotationPress$Trace;I)V" } : Jvm.MethodName) ({ cls := "NotationPress$Sampler", name := "tryNext", desc := "(LNotationPress$Description;LNotationPress$Trace;I)V" } : Jvm.MethodName)) ∈ np_gw := np_gwi 15 (by decide +kernel) rfl
theorem gw69 : (Jvm.Cond.initialized "NotationPress$Sampler") ∈ np_gw := np_gwi 69 (by decide +kernel) rfl
theorem gw146 : (Jvm.Cond.fieldLinkNest "NotationPress$Sampler" (60 : Nat) "NotationPress$Trace" "values" "[I" "NotationPress") ∈ np_nw := np_nwi 146 (by decide +kernel) rfl
theorem gw150 : (Jvm.Cond.fieldLinkNest "NotationPress$Sampler" (49 : Nat) "NotationPress$Trace" "item" "I" "NotationPress") ∈ np_nw := np_nwi 150 (by decide +kernel) rfl
theorem gw266 : (Jvm.Cond.fieldLink "NotationPress$Sampler" (11 : Nat) "NotationPress$Sampler" "levels" "[LNotationPress$Trace;") ∈ np_gw := np_gwi 266 (by decide +kernel) rfl
theorem gw267 : (Jvm.Cond.fieldLink "NotationPress$Sampler" (17 : Nat) "NotationPress$Sampler" "drawn" "[I") ∈ np_gw := np_gwi 267 (by decide +kernel) rfl
theorem gw268 : (Jvm.Cond.fieldLink "NotationPress$Sampler" (21 : Nat) "NotationPress$Sampler" "tried" "[I") ∈ np_gw := np_gwi 268 (by decide +kernel) rfl
theorem gw269 : (Jvm.Cond.fieldLink "NotationPress$Sampler" (35 : Nat) "NotationPress$Sampler" "seed" "I") ∈ np_gw := np_gwi 269 (by decide +kernel) rfl
theorem gw270 : (Jvm.Cond.fieldLink "NotationPress$Sampler" (39 : Nat) "NotationPress$Sampler" "depth" "I") ∈ np_gw := np_gwi 270 (by decide +kernel) rfl
theorem gw271 : (Jvm.Cond.laysFinal "NotationPress$Sampler" "NotationPress$Sampler" "levels" "[LNotationPress$Trace;") ∈ np_gw := np_gwi 271 (by decide +kernel) rfl
theorem gw273 : (Jvm.Cond.laysFinal "NotationPress$Sampler" "NotationPress$Sampler" "drawn" "[I") ∈ np_gw := np_gwi 273 (by decide +kernel) rfl
theorem gw275 : (Jvm.Cond.laysFinal "NotationPress$Sampler" "NotationPress$Sampler" "tried" "[I") ∈ np_gw := np_gwi 275 (by decide +kernel) rfl
theorem gw277 : (Jvm.Cond.lays "NotationPress$Sampler" "NotationPress$Sampler" "seed" "I") ∈ np_gw := np_gwi 277 (by decide +kernel) rfl
theorem gw279 : (Jvm.Cond.lays "NotationPress$Sampler" "NotationPress$Sampler" "depth" "I") ∈ np_gw := np_gwi 279 (by decide +kernel) rfl
theorem gw314 : (Jvm.Cond.fieldLinkNest "NotationPress$Sampler" (25 : Nat) "NotationPress$Description" "items" "LNotationPress$Items;" "NotationPress") ∈ np_nw := np_nwi 314 (by decide +kernel) rfl
theorem gw344 : (Jvm.Cond.methodLinkNest "NotationPress$Table" (27 : Nat) ({ cls := "NotationPress", name := "fillAll", desc := "([II)V" } : Jvm.MethodName) "NotationPress") ∈ np_nw := np_nwi 344 (by decide +kernel) rfl
theorem gw349 : (Jvm.Cond.fieldLink "NotationPress$Table" (18 : Nat) "NotationPress$Table" "bucketFirst" "[I") ∈ np_gw := np_gwi 349 (by decide +kernel) rfl
theorem gw350 : (Jvm.Cond.fieldLink "NotationPress$Table" (21 : Nat) "NotationPress$Table" "bucketLast" "[I") ∈ np_gw := np_gwi 350 (by decide +kernel) rfl
theorem gw352 : (Jvm.Cond.fieldLink "NotationPress$Table" (31 : Nat) "NotationPress$Table" "description" "LNotationPress$Description;") ∈ np_gw := np_gwi 352 (by decide +kernel) rfl
theorem gw354 : (Jvm.Cond.fieldLink "NotationPress$Table" (35 : Nat) "NotationPress$Table" "place" "I") ∈ np_gw := np_gwi 354 (by decide +kernel) rfl
theorem gw358 : (Jvm.Cond.fieldLink "NotationPress$Table" (42 : Nat) "NotationPress$Table" "doubts" "I") ∈ np_gw := np_gwi 358 (by decide +kernel) rfl
theorem gw360 : (Jvm.Cond.fieldLink "NotationPress$Table" (45 : Nat) "NotationPress$Table" "skippedCount" "I") ∈ np_gw := np_gwi 360 (by decide +kernel) rfl
theorem gw362 : (Jvm.Cond.fieldLink "NotationPress$Table" (64 : Nat) "NotationPress$Table" "right" "I") ∈ np_gw := np_gwi 362 (by decide +kernel) rfl
theorem gw363 : (Jvm.Cond.fieldLink "NotationPress$Table" (67 : Nat) "NotationPress$Table" "why" "I") ∈ np_gw := np_gwi 363 (by decide +kernel) rfl
theorem gw737 : (Jvm.Cond.methodLink "NotationPress$Sampler" (31 : Nat) ({ cls := "NotationPress$Sampler", name := "levelAt", desc := "(I)LNotationPress$Trace;" } : Jvm.MethodName)) ∈ np_gw := np_gwi 737 (by decide +kernel) rfl
theorem gw739 : (Jvm.Cond.instanceMethod ({ cls := "NotationPress$Sampler", name := "levelAt", desc := "(I)LNotationPress$Trace;" } : Jvm.MethodName)) ∈ np_gw := np_gwi 739 (by decide +kernel) rfl
theorem gw740 : (Jvm.Cond.code ({ cls := "NotationPress$Sampler", name := "levelAt", desc := "(I)LNotationPress$Trace;" } : Jvm.MethodName) prog_7_method_3_code (2 : Nat) (Option.some (Jvm.ClassFile.FieldType.object "NotationPress$Trace"))) ∈ np_gw := np_gwi 740 (by decide +kernel) rfl
theorem gw741 : (Jvm.Cond.methodLink "NotationPress$Sampler" (42 : Nat) ({ cls := "NotationPress$Trace", name := "restart", desc := "()V" } : Jvm.MethodName)) ∈ np_gw := np_gwi 741 (by decide +kernel) rfl
theorem gw751 : (Jvm.Cond.methodLink "NotationPress$Sampler" (45 : Nat) ({ cls := "NotationPress$Sampler", name := "comeTo", desc := "(LNotationPress$Items;LNotationPress$Trace;)V" } : Jvm.MethodName)) ∈ np_gw := np_gwi 751 (by decide +kernel) rfl
theorem gw753 : (Jvm.Cond.instanceMethod ({ cls := "NotationPress$Sampler", name := "comeTo", desc := "(LNotationPress$Items;LNotationPress$Trace;)V" } : Jvm.MethodName)) ∈ np_gw := np_gwi 753 (by decide +kernel) rfl
theorem gw754 : (Jvm.Cond.code ({ cls := "NotationPress$Sampler", name := "comeTo", desc := "(LNotationPress$Items;LNotationPress$Trace;)V" } : Jvm.MethodName) prog_7_method_5_code (4 : Nat) (Option.none : Option Jvm.ClassFile.FieldType)) ∈ np_gw := np_gwi 754 (by decide +kernel) rfl
theorem gw755 : (Jvm.Cond.methodLink "NotationPress$Sampler" (56 : Nat) ({ cls := "NotationPress$Trace", name := "isOver", desc := "(LNotationPress$Items;)Z" } : Jvm.MethodName)) ∈ np_gw := np_gwi 755 (by decide +kernel) rfl
theorem gw759 : (Jvm.Cond.methodLink "NotationPress$Sampler" (103 : Nat) ({ cls := "NotationPress$Items", name := "hasSlot", desc := "(I)Z" } : Jvm.MethodName)) ∈ np_gw := np_gwi 759 (by decide +kernel) rfl
theorem gw760 : (Jvm.Cond.methodLink "NotationPress$Sampler" (107 : Nat) ({ cls := "NotationPress$Items", name := "embraces", desc := "(I)Z" } : Jvm.MethodName)) ∈ np_gw := np_gwi 760 (by decide +kernel) rfl
theorem gw761 : (Jvm.Cond.methodLink "NotationPress$Sampler" (110 : Nat) ({ cls := "NotationPress$Trace", name := "enter", desc := "(LNotationPress$Items;)V" } : Jvm.MethodName)) ∈ np_gw := np_gwi 761 (by decide +kernel) rfl
theorem gw772 : (Jvm.Cond.methodLink "NotationPress$Sampler" (99 : Nat) ({ cls := "NotationPress$Trace", name := "finish", desc := "(LNotationPress$Items;)V" } : Jvm.MethodName)) ∈ np_gw := np_gwi 772 (by decide +kernel) rfl
theorem gw776 : (Jvm.Cond.methodLink "NotationPress$Sampler" (52 : Nat) ({ cls := "NotationPress$Sampler", name := "choicesOf", desc := "(LNotationPress$Items;I)I" } : Jvm.MethodName)) ∈ np_gw := np_gwi 776 (by decide +kernel) rfl
theorem gw777 : (Jvm.Cond.static ({ cls := "NotationPress$Sampler", name := "choicesOf", desc := "(LNotationPress$Items;I)I" } : Jvm.MethodName)) ∈ np_gw := np_gwi 777 (by decide +kernel) rfl
theorem gw778 : (Jvm.Cond.code ({ cls := "NotationPress$Sampler", name := "choicesOf", desc := "(LNotationPress$Items;I)I" } : Jvm.MethodName) prog_7_method_6_code (2 : Nat) (Option.some Jvm.ClassFile.FieldType.int)) ∈ np_gw := np_gwi 778 (by decide +kernel) rfl
theorem gw779 : (Jvm.Cond.methodLink "NotationPress$Sampler" (120 : Nat) ({ cls := "NotationPress$Items", name := "kind", desc := "(I)I" } : Jvm.MethodName)) ∈ np_gw := np_gwi 779 (by decide +kernel) rfl
theorem gw780 : (Jvm.Cond.methodLink "NotationPress$Sampler" (123 : Nat) ({ cls := "NotationPress$Items", name := "b", desc := "(I)I" } : Jvm.MethodName)) ∈ np_gw := np_gwi 780 (by decide +kernel) rfl
theorem gw781 : (Jvm.Cond.methodLinkNest "NotationPress$Sampler" (126 : Nat) ({ cls := "NotationPress", name := "unitsOfLetter", desc := "(I)I" } : Jvm.MethodName) "NotationPress") ∈ np_nw := np_nwi 781 (by decide +kernel) rfl
theorem gw784 : (Jvm.Cond.constantLong "NotationPress$Sampler" (113 : Nat) (1103515245 : Int64)) ∈ np_gw := np_gwi 784 (by decide +kernel) rfl
theorem gw785 : (Jvm.Cond.constantLong "NotationPress$Sampler" (115 : Nat) (12345 : Int64)) ∈ np_gw := np_gwi 785 (by decide +kernel) rfl
theorem gw786 : (Jvm.Cond.constantLong "NotationPress$Sampler" (117 : Nat) (2147483647 : Int64)) ∈ np_gw := np_gwi 786 (by decide +kernel) rfl
theorem gw787 : (Jvm.Cond.constant "NotationPress$Sampler" (119 : Nat) (65536 : Int32)) ∈ np_gw := np_gwi 787 (by decide +kernel) rfl
theorem gw788 : (Jvm.Cond.methodLinkNest "NotationPress$Sampler" (77 : Nat) ({ cls := "NotationPress", name := "put", desc := "([III)V" } : Jvm.MethodName) "NotationPress") ∈ np_nw := np_nwi 788 (by decide +kernel) rfl
theorem gw789 : (Jvm.Cond.methodLink "NotationPress$Sampler" (63 : Nat) ({ cls := "NotationPress$Printer", name := "canPrint", desc := "(LNotationPress$Items;[I)Z" } : Jvm.MethodName)) ∈ np_gw := np_gwi 789 (by decide +kernel) rfl
theorem gw790 : (Jvm.Cond.instanceMethod ({ cls := "NotationPress$Printer", name := "canPrint", desc := "(LNotationPress$Items;[I)Z" } : Jvm.MethodName)) ∈ np_gw := np_gwi 790 (by decide +kernel) rfl
theorem gw791 : (Jvm.Cond.selects "NotationPress$Printer" ({ cls := "NotationPress$Printer", name := "canPrint", desc := "(LNotationPress$Items;[I)Z" } : Jvm.MethodName) ({ cls := "NotationPress$Printer", name := "canPrint", desc := "(LNotationPress$Items;[I)Z" } : Jvm.MethodName)) ∈ np_gw := np_gwi 791 (by decide +kernel) rfl
theorem gw792 : (Jvm.Cond.code ({ cls := "NotationPress$Printer", name := "canPrint", desc := "(LNotationPress$Items;[I)Z" } : Jvm.MethodName) prog_5_method_4_code (5 : Nat) (Option.some Jvm.ClassFile.FieldType.boolean)) ∈ np_gw := np_gwi 792 (by decide +kernel) rfl
theorem gw882 : (Jvm.Cond.methodLinkNest "NotationPress$Sampler" (69 : Nat) ({ cls := "NotationPress", name := "at", desc := "([III)I" } : Jvm.MethodName) "NotationPress") ∈ np_nw := np_nwi 882 (by decide +kernel) rfl
theorem gw883 : (Jvm.Cond.methodLink "NotationPress$Sampler" (73 : Nat) ({ cls := "NotationPress$Sampler", name := "tryNext", desc := "(LNotationPress$Description;LNotationPress$Trace;I)V" } : Jvm.MethodName)) ∈ np_gw := np_gwi 883 (by decide +kernel) rfl
theorem gw885 : (Jvm.Cond.instanceMethod ({ cls := "NotationPress$Sampler", name := "tryNext", desc := "(LNotationPress$Description;LNotationPress$Trace;I)V" } : Jvm.MethodName)) ∈ np_gw := np_gwi 885 (by decide +kernel) rfl
theorem gw886 : (Jvm.Cond.code ({ cls := "NotationPress$Sampler", name := "tryNext", desc := "(LNotationPress$Description;LNotationPress$Trace;I)V" } : Jvm.MethodName) prog_7_method_4_code (6 : Nat) (Option.none : Option Jvm.ClassFile.FieldType)) ∈ np_gw := np_gwi 886 (by decide +kernel) rfl
theorem gw887 : (Jvm.Cond.methodLink "NotationPress$Sampler" (81 : Nat) ({ cls := "NotationPress$Trace", name := "copyFrom", desc := "(LNotationPress$Trace;)V" } : Jvm.MethodName)) ∈ np_gw := np_gwi 887 (by decide +kernel) rfl
theorem gw897 : (Jvm.Cond.methodLink "NotationPress$Sampler" (85 : Nat) ({ cls := "NotationPress$Items", name := "a", desc := "(I)I" } : Jvm.MethodName)) ∈ np_gw := np_gwi 897 (by decide +kernel) rfl
theorem gw898 : (Jvm.Cond.methodLink "NotationPress$Sampler" (91 : Nat) ({ cls := "NotationPress$Trace", name := "keep", desc := "(II)V" } : Jvm.MethodName)) ∈ np_gw := np_gwi 898 (by decide +kernel) rfl
theorem gw899 : (Jvm.Cond.methodLink "NotationPress$Sampler" (95 : Nat) ({ cls := "NotationPress$Description", name := "firstBroken", desc := "([I)I" } : Jvm.MethodName)) ∈ np_gw := np_gwi 899 (by decide +kernel) rfl
theorem gw900 : (Jvm.Cond.instanceMethod ({ cls := "NotationPress$Description", name := "firstBroken", desc := "([I)I" } : Jvm.MethodName)) ∈ np_gw := np_gwi 900 (by decide +kernel) rfl
theorem gw901 : (Jvm.Cond.selects "NotationPress$Description" ({ cls := "NotationPress$Description", name := "firstBroken", desc := "([I)I" } : Jvm.MethodName) ({ cls := "NotationPress$Description", name := "firstBroken", desc := "([I)I" } : Jvm.MethodName)) ∈ np_gw := np_gwi 901 (by decide +kernel) rfl
theorem gw902 : (Jvm.Cond.code ({ cls := "NotationPress$Description", name := "firstBroken", desc := "([I)I" } : Jvm.MethodName) prog_3_method_6_code (3 : Nat) (Option.some Jvm.ClassFile.FieldType.int)) ∈ np_gw := np_gwi 902 (by decide +kernel) rfl
theorem gw1095 : (Jvm.Cond.methodLink "NotationPress$Table" (70 : Nat) ({ cls := "NotationPress$Description", name := "firstBroken", desc := "([I)I" } : Jvm.MethodName)) ∈ np_gw := np_gwi 1095 (by decide +kernel) rfl
theorem gw1096 : (Jvm.Cond.methodLinkNest "NotationPress$Table" (76 : Nat) ({ cls := "NotationPress", name := "copyCells", desc := "([II[III)V" } : Jvm.MethodName) "NotationPress") ∈ np_nw := np_nwi 1096 (by decide +kernel) rfl
set_option maxRecDepth 20000 in
theorem guX5 : ∀ w ∈ u_ws RX5 TX5 5, w ∈ np_gw := by
  show ∀ w ∈ [(Jvm.Cond.laysFinal "NotationPress$Sampler" "NotationPress$Sampler" "levels" "[LNotationPress$Trace;"), (Jvm.Cond.laysFinal "NotationPress$Sampler" "NotationPress$Sampler" "drawn" "[I"), (Jvm.Cond.laysFinal "NotationPress$Sampler" "NotationPress$Sampler" "tried" "[I"), (Jvm.Cond.lays "NotationPress$Sampler" "NotationPress$Sampler" "seed" "I"), (Jvm.Cond.lays "NotationPress$Sampler" "NotationPress$Sampler" "depth" "I")], w ∈ np_gw
  exact List.forall_mem_cons.mpr ⟨gw271, List.forall_mem_cons.mpr ⟨gw273, List.forall_mem_cons.mpr ⟨gw275, List.forall_mem_cons.mpr ⟨gw277, List.forall_mem_cons.mpr ⟨gw279, fun _ h => nomatch h⟩⟩⟩⟩⟩
theorem ndX5 : ∀ j, j < 5 → defaultValue (tyX5 j) = vp_V [.null, .null, .null, .int 0, .int 0] j := by decide +kernel
theorem nfX5 : ∀ v ∈ ([.null, .null, .null, .int 0, .int 0] : List Value), ∀ ad : Nat → Nat, np_v ad v = v := by
  intro v hv ad
  simp only [List.mem_cons, List.not_mem_nil, or_false] at hv
  rcases hv with rfl | rfl | rfl | rfl | rfl <;> rfl
theorem dX4_countItemByItem_0 : decode cX4_countItemByItem 0 = .ok (.iconst 0, 1) := by decide +kernel
theorem dX4_countItemByItem_1 : decode cX4_countItemByItem 1 = .ok (.istore_n 1, 1) := by decide +kernel
theorem dX4_countItemByItem_2 : decode cX4_countItemByItem 2 = .ok (.iconst 0, 1) := by decide +kernel
theorem dX4_countItemByItem_3 : decode cX4_countItemByItem 3 = .ok (.istore_n 2, 1) := by decide +kernel
theorem dX4_countItemByItem_4 : decode cX4_countItemByItem 4 = .ok (.iload_n 2, 1) := by decide +kernel
theorem dX4_countItemByItem_5 : decode cX4_countItemByItem 5 = .ok (.aload_n 0, 1) := by decide +kernel
theorem dX4_countItemByItem_6 : decode cX4_countItemByItem 6 = .ok (.getfield 64, 3) := by decide +kernel
theorem dX4_countItemByItem_9 : decode cX4_countItemByItem 9 = .ok (.if_icmp .ge 103, 3) := by decide +kernel
theorem dX4_countItemByItem_12 : decode cX4_countItemByItem 12 = .ok (.aload_n 0, 1) := by decide +kernel
theorem dX4_countItemByItem_13 : decode cX4_countItemByItem 13 = .ok (.getfield 64, 3) := by decide +kernel
theorem dX4_countItemByItem_16 : decode cX4_countItemByItem 16 = .ok (.sipush 400, 3) := by decide +kernel
theorem dX4_countItemByItem_19 : decode cX4_countItemByItem 19 = .ok (.if_icmp .gt 93, 3) := by decide +kernel
theorem dX4_countItemByItem_22 : decode cX4_countItemByItem 22 = .ok (.aload_n 0, 1) := by decide +kernel
theorem dX4_countItemByItem_23 : decode cX4_countItemByItem 23 = .ok (.iload_n 2, 1) := by decide +kernel
theorem dX4_countItemByItem_24 : decode cX4_countItemByItem 24 = .ok (.invokevirtual 57, 3) := by decide +kernel
theorem dX4_countItemByItem_27 : decode cX4_countItemByItem 27 = .ok (.astore_n 3, 1) := by decide +kernel
theorem dX4_countItemByItem_28 : decode cX4_countItemByItem 28 = .ok (.aload_n 3, 1) := by decide +kernel
theorem dX4_countItemByItem_29 : decode cX4_countItemByItem 29 = .ok (.ifnonnull 5, 3) := by decide +kernel
theorem dX4_countItemByItem_32 : decode cX4_countItemByItem 32 = .ok (.iconst (-1), 1) := by decide +kernel
theorem dX4_countItemByItem_33 : decode cX4_countItemByItem 33 = .ok (.ireturn, 1) := by decide +kernel
theorem dX4_countItemByItem_34 : decode cX4_countItemByItem 34 = .ok (.aload_n 0, 1) := by decide +kernel
theorem dX4_countItemByItem_35 : decode cX4_countItemByItem 35 = .ok (.getfield 18, 3) := by decide +kernel
theorem dX4_countItemByItem_38 : decode cX4_countItemByItem 38 = .ok (.aload_n 3, 1) := by decide +kernel
theorem dX4_countItemByItem_39 : decode cX4_countItemByItem 39 = .ok (.invokevirtual 67, 3) := by decide +kernel
theorem dX4_countItemByItem_42 : decode cX4_countItemByItem 42 = .ok (.aload_n 0, 1) := by decide +kernel
theorem dX4_countItemByItem_43 : decode cX4_countItemByItem 43 = .ok (.getfield 64, 3) := by decide +kernel
theorem dX4_countItemByItem_46 : decode cX4_countItemByItem 46 = .ok (.istore 4, 2) := by decide +kernel
theorem dX4_countItemByItem_48 : decode cX4_countItemByItem 48 = .ok (.aload_n 0, 1) := by decide +kernel
theorem dX4_countItemByItem_49 : decode cX4_countItemByItem 49 = .ok (.invokevirtual 75, 3) := by decide +kernel
theorem dX4_countItemByItem_52 : decode cX4_countItemByItem 52 = .ok (.aload_n 0, 1) := by decide +kernel
theorem dX4_countItemByItem_53 : decode cX4_countItemByItem 53 = .ok (.aload_n 0, 1) := by decide +kernel
theorem dX4_countItemByItem_54 : decode cX4_countItemByItem 54 = .ok (.getfield 64, 3) := by decide +kernel
theorem dX4_countItemByItem_57 : decode cX4_countItemByItem 57 = .ok (.iconst 1, 1) := by decide +kernel
theorem dX4_countItemByItem_58 : decode cX4_countItemByItem 58 = .ok (.isub, 1) := by decide +kernel
theorem dX4_countItemByItem_59 : decode cX4_countItemByItem 59 = .ok (.invokevirtual 57, 3) := by decide +kernel
theorem dX4_countItemByItem_62 : decode cX4_countItemByItem 62 = .ok (.astore 5, 2) := by decide +kernel
theorem dX4_countItemByItem_64 : decode cX4_countItemByItem 64 = .ok (.aload_n 0, 1) := by decide +kernel
theorem dX4_countItemByItem_65 : decode cX4_countItemByItem 65 = .ok (.getfield 64, 3) := by decide +kernel
theorem dX4_countItemByItem_68 : decode cX4_countItemByItem 68 = .ok (.iload 4, 2) := by decide +kernel
theorem dX4_countItemByItem_70 : decode cX4_countItemByItem 70 = .ok (.if_icmp .le 36, 3) := by decide +kernel
theorem dX4_countItemByItem_73 : decode cX4_countItemByItem 73 = .ok (.aload 5, 2) := by decide +kernel
theorem dX4_countItemByItem_75 : decode cX4_countItemByItem 75 = .ok (.ifnull 31, 3) := by decide +kernel
theorem dX4_countItemByItem_78 : decode cX4_countItemByItem 78 = .ok (.aload 5, 2) := by decide +kernel
theorem dX4_countItemByItem_80 : decode cX4_countItemByItem 80 = .ok (.aload_n 0, 1) := by decide +kernel
theorem dX4_countItemByItem_81 : decode cX4_countItemByItem 81 = .ok (.getfield 35, 3) := by decide +kernel
theorem dX4_countItemByItem_84 : decode cX4_countItemByItem 84 = .ok (.invokevirtual 71, 3) := by decide +kernel
theorem dX4_countItemByItem_87 : decode cX4_countItemByItem 87 = .ok (.ifCond .eq 19, 3) := by decide +kernel
theorem dX4_countItemByItem_90 : decode cX4_countItemByItem 90 = .ok (.iload_n 1, 1) := by decide +kernel
theorem dX4_countItemByItem_91 : decode cX4_countItemByItem 91 = .ok (.aload_n 0, 1) := by decide +kernel
theorem dX4_countItemByItem_92 : decode cX4_countItemByItem 92 = .ok (.getfield 64, 3) := by decide +kernel
theorem dX4_countItemByItem_95 : decode cX4_countItemByItem 95 = .ok (.iload 4, 2) := by decide +kernel
theorem dX4_countItemByItem_97 : decode cX4_countItemByItem 97 = .ok (.isub, 1) := by decide +kernel
theorem dX4_countItemByItem_98 : decode cX4_countItemByItem 98 = .ok (.iadd, 1) := by decide +kernel
theorem dX4_countItemByItem_99 : decode cX4_countItemByItem 99 = .ok (.istore_n 1, 1) := by decide +kernel
theorem dX4_countItemByItem_100 : decode cX4_countItemByItem 100 = .ok (.aload_n 0, 1) := by decide +kernel
theorem dX4_countItemByItem_101 : decode cX4_countItemByItem 101 = .ok (.iload 4, 2) := by decide +kernel
theorem dX4_countItemByItem_103 : decode cX4_countItemByItem 103 = .ok (.putfield 64, 3) := by decide +kernel
theorem dX4_countItemByItem_106 : decode cX4_countItemByItem 106 = .ok (.iinc 2 1, 3) := by decide +kernel
theorem dX4_countItemByItem_109 : decode cX4_countItemByItem 109 = .ok (.goto (-105), 3) := by decide +kernel
theorem dX4_countItemByItem_112 : decode cX4_countItemByItem 112 = .ok (.aload_n 0, 1) := by decide +kernel
theorem dX4_countItemByItem_113 : decode cX4_countItemByItem 113 = .ok (.getfield 64, 3) := by decide +kernel
theorem dX4_countItemByItem_116 : decode cX4_countItemByItem 116 = .ok (.sipush 400, 3) := by decide +kernel
theorem dX4_countItemByItem_119 : decode cX4_countItemByItem 119 = .ok (.if_icmp .le 7, 3) := by decide +kernel
theorem dX4_countItemByItem_122 : decode cX4_countItemByItem 122 = .ok (.iconst (-1), 1) := by decide +kernel
theorem dX4_countItemByItem_123 : decode cX4_countItemByItem 123 = .ok (.goto 4, 3) := by decide +kernel
theorem dX4_countItemByItem_126 : decode cX4_countItemByItem 126 = .ok (.iload_n 1, 1) := by decide +kernel
theorem dX4_countItemByItem_127 : decode cX4_countItemByItem 127 = .ok (.ireturn, 1) := by decide +kernel
def is_X4_countItemByItem (Rt : np_Rt) : List (Nat × np_Op) := [(0, np_push 1 (.int 0)), (1, nw_ist 1 1), (2, np_push 1 (.int 0)), (3, nw_ist 1 2), (4, np_ild 1 2), (5, np_ald 1 0), (6, nw_getf 4 8), (9, nq_ic (fun x y => y ≤ x) 112), (12, np_ald 1 0), (13, nw_getf 4 8), (16, np_push 3 (.int 400)), (19, nq_ic (fun x y => y < x) 112), (22, np_ald 1 0), (23, np_ild 1 2), (24, nw_callV 4 2 sp_X4_beginningAt 2 0 0 0 0), (27, np_ast 1 3), (28, np_ald 1 3), (29, np_ifnonnull 34), (32, np_push 1 (.int (-1))), (33, np_ret Rt), (34, np_ald 1 0), (35, nw_getf 4 1), (38, np_ald 1 3), (39, nw_callV 8 2 sp_X8_copyFrom 2 0 0 0 0), (42, np_ald 1 0), (43, nw_getf 4 8), (46, nw_ist 2 4), (48, np_ald 1 0), (49, nw_callV 4 1 sp_X4_branch 1 0 0 0 0), (52, np_ald 1 0), (53, np_ald 1 0), (54, nw_getf 4 8), (57, np_push 1 (.int 1)), (58, np_ib (fun x y => x - y)), (59, nw_callV 4 2 sp_X4_beginningAt 2 0 0 0 0), (62, np_ast 2 5), (64, np_ald 1 0), (65, nw_getf 4 8), (68, np_ild 2 4), (70, nq_ic (fun x y => x ≤ y) 106), (73, np_ald 2 5), (75, np_ifnull 106), (78, np_ald 2 5), (80, np_ald 1 0), (81, nw_getf 4 5), (84, nw_callV 8 2 sp_X8_isOver 2 0 0 0 0), (87, nq_if (fun x => x = 0) 106), (90, np_ild 1 1), (91, np_ald 1 0), (92, nw_getf 4 8), (95, np_ild 2 4), (97, np_ib (fun x y => x - y)), (98, np_ib (fun x y => x + y)), (99, nw_ist 1 1), (100, np_ald 1 0), (101, np_ild 2 4), (103, nw_putf 4 8 (.int)), (106, nw_iinc 2 1), (109, np_goto 4), (112, np_ald 1 0), (113, nw_getf 4 8), (116, np_push 3 (.int 400)), (119, nq_ic (fun x y => x ≤ y) 126), (122, np_push 1 (.int (-1))), (123, np_goto 127), (126, np_ild 1 1), (127, np_ret Rt)]
set_option maxRecDepth 20000 in
theorem so_X4_countItemByItem {X : np_Ctx} {Rt : np_Rt} (hX : np_ok RX4 cX4_countItemByItem 6 6 175 0 0 .ireturn X) (hR : ∀ st w ce sl, Rt st w ce sl → X.2.2.1 st w ce sl) : ∀ q ∈ is_X4_countItemByItem Rt, np_S X q.1 q.2 :=
  List.forall_mem_cons.mpr ⟨np_s_iconst hX dX4_countItemByItem_0 (by decide), List.forall_mem_cons.mpr ⟨np_S.mono (op := np_ist 1 1) (np_s_istore_n hX dX4_countItemByItem_1 rfl (by decide)) nw_ist_le, List.forall_mem_cons.mpr ⟨np_s_iconst hX dX4_countItemByItem_2 (by decide), List.forall_mem_cons.mpr ⟨np_S.mono (op := np_ist 1 2) (np_s_istore_n hX dX4_countItemByItem_3 rfl (by decide)) nw_ist_le, List.forall_mem_cons.mpr ⟨np_s_iload_n hX dX4_countItemByItem_4 rfl, List.forall_mem_cons.mpr ⟨np_s_aload_n hX dX4_countItemByItem_5 rfl, List.forall_mem_cons.mpr ⟨np_S.mono (op := np_getf 4 8) (np_s_getf hX dX4_countItemByItem_6 (C := RX4) (T := TX4) (N := 11) rfl guX4 (by decide) gw231) nw_getf_le, List.forall_mem_cons.mpr ⟨np_S.mono (op := np_ic (fun x y => y ≤ x) 112) (np_s_icmp_ge hX dX4_countItemByItem_9 (by decide)) nq_ic_le, List.forall_mem_cons.mpr ⟨np_s_aload_n hX dX4_countItemByItem_12 rfl, List.forall_mem_cons.mpr ⟨np_S.mono (op := np_getf 4 8) (np_s_getf hX dX4_countItemByItem_13 (C := RX4) (T := TX4) (N := 11) rfl guX4 (by decide) gw231) nw_getf_le, List.forall_mem_cons.mpr ⟨np_s_sipush hX dX4_countItemByItem_16 (by decide), List.forall_mem_cons.mpr ⟨np_S.mono (op := np_ic (fun x y => y < x) 112) (np_s_icmp_gt hX dX4_countItemByItem_19 (by decide)) nq_ic_le, List.forall_mem_cons.mpr ⟨np_s_aload_n hX dX4_countItemByItem_22 rfl, List.forall_mem_cons.mpr ⟨np_s_iload_n hX dX4_countItemByItem_23 rfl, List.forall_mem_cons.mpr ⟨np_S.mono (op := np_callV 4 2 sp_X4_beginningAt 2 0 0 0 0) (np_s_callV hX C_X4_beginningAt dX4_countItemByItem_24 (q := (RX4, TX4, 11)) rfl rfl gw1006 gw67 gw1003 gw1005 gw19 ⟨by decide, by decide, by decide⟩ (by decide) (by decide)) nw_callV_le, List.forall_mem_cons.mpr ⟨np_s_astore_n hX dX4_countItemByItem_27 rfl (by decide), List.forall_mem_cons.mpr ⟨np_s_aload_n hX dX4_countItemByItem_28 rfl, List.forall_mem_cons.mpr ⟨np_s_ifnonnull hX dX4_countItemByItem_29 (by decide), List.forall_mem_cons.mpr ⟨np_s_iconst hX dX4_countItemByItem_32 (by decide), List.forall_mem_cons.mpr ⟨np_S.mono (op := np_ret X.2.2.1) (np_s_ret hX dX4_countItemByItem_33) (nq_ret_le hR), List.forall_mem_cons.mpr ⟨np_s_aload_n hX dX4_countItemByItem_34 rfl, List.forall_mem_cons.mpr ⟨np_S.mono (op := np_getf 4 1) (np_s_getf hX dX4_countItemByItem_35 (C := RX4) (T := TX4) (N := 11) rfl guX4 (by decide) gw223) nw_getf_le, List.forall_mem_cons.mpr ⟨np_s_aload_n hX dX4_countItemByItem_38 rfl, List.forall_mem_cons.mpr ⟨np_S.mono (op := np_callV 8 2 sp_X8_copyFrom 2 0 0 0 0) (np_s_callV hX C_X8_copyFrom dX4_countItemByItem_39 (q := (RX8, TX8, 9)) rfl rfl gw890 gw66 gw1012 gw888 gw889 ⟨by decide, by decide, by decide⟩ (by decide) (by decide)) nw_callV_le, List.forall_mem_cons.mpr ⟨np_s_aload_n hX dX4_countItemByItem_42 rfl, List.forall_mem_cons.mpr ⟨np_S.mono (op := np_getf 4 8) (np_s_getf hX dX4_countItemByItem_43 (C := RX4) (T := TX4) (N := 11) rfl guX4 (by decide) gw231) nw_getf_le, List.forall_mem_cons.mpr ⟨np_S.mono (op := np_ist 2 4) (np_s_istore hX dX4_countItemByItem_46 (by decide)) nw_ist_le, List.forall_mem_cons.mpr ⟨np_s_aload_n hX dX4_countItemByItem_48 rfl, List.forall_mem_cons.mpr ⟨np_S.mono (op := np_callV 4 1 sp_X4_branch 1 0 0 0 0) (np_s_callV hX C_X4_branch dX4_countItemByItem_49 (q := (RX4, TX4, 11)) rfl rfl gw1017 gw67 gw1014 gw1016 gw20 ⟨by decide, by decide, by decide⟩ (by decide) (by decide)) nw_callV_le, List.forall_mem_cons.mpr ⟨np_s_aload_n hX dX4_countItemByItem_52 rfl, List.forall_mem_cons.mpr ⟨np_s_aload_n hX dX4_countItemByItem_53 rfl, List.forall_mem_cons.mpr ⟨np_S.mono (op := np_getf 4 8) (np_s_getf hX dX4_countItemByItem_54 (C := RX4) (T := TX4) (N := 11) rfl guX4 (by decide) gw231) nw_getf_le, List.forall_mem_cons.mpr ⟨np_s_iconst hX dX4_countItemByItem_57 (by decide), List.forall_mem_cons.mpr ⟨np_s_isub hX dX4_countItemByItem_58, List.forall_mem_cons.mpr ⟨np_S.mono (op := np_callV 4 2 sp_X4_beginningAt 2 0 0 0 0) (np_s_callV hX C_X4_beginningAt dX4_countItemByItem_59 (q := (RX4, TX4, 11)) rfl rfl gw1006 gw67 gw1003 gw1005 gw19 ⟨by decide, by decide, by decide⟩ (by decide) (by decide)) nw_callV_le, List.forall_mem_cons.mpr ⟨np_s_astore hX dX4_countItemByItem_62 (by decide), List.forall_mem_cons.mpr ⟨np_s_aload_n hX dX4_countItemByItem_64 rfl, List.forall_mem_cons.mpr ⟨np_S.mono (op := np_getf 4 8) (np_s_getf hX dX4_countItemByItem_65 (C := RX4) (T := TX4) (N := 11) rfl guX4 (by decide) gw231) nw_getf_le, List.forall_mem_cons.mpr ⟨np_s_iload hX dX4_countItemByItem_68, List.forall_mem_cons.mpr ⟨np_S.mono (op := np_ic (fun x y => x ≤ y) 106) (np_s_icmp_le hX dX4_countItemByItem_70 (by decide)) nq_ic_le, List.forall_mem_cons.mpr ⟨np_s_aload hX dX4_countItemByItem_73, List.forall_mem_cons.mpr ⟨np_s_ifnull hX dX4_countItemByItem_75 (by decide), List.forall_mem_cons.mpr ⟨np_s_aload hX dX4_countItemByItem_78, List.forall_mem_cons.mpr ⟨np_s_aload_n hX dX4_countItemByItem_80 rfl, List.forall_mem_cons.mpr ⟨np_S.mono (op := np_getf 4 5) (np_s_getf hX dX4_countItemByItem_81 (C := RX4) (T := TX4) (N := 11) rfl guX4 (by decide) gw228) nw_getf_le, List.forall_mem_cons.mpr ⟨np_S.mono (op := np_callV 8 2 sp_X8_isOver 2 0 0 0 0) (np_s_callV hX C_X8_isOver dX4_countItemByItem_84 (q := (RX8, TX8, 9)) rfl rfl gw758 gw66 gw1013 gw756 gw757 ⟨by decide, by decide, by decide⟩ (by decide) (by decide)) nw_callV_le, List.forall_mem_cons.mpr ⟨np_S.mono (op := np_if (fun x => x = 0) 106) (np_s_if_eq hX dX4_countItemByItem_87 (by decide)) nq_if_le, List.forall_mem_cons.mpr ⟨np_s_iload_n hX dX4_countItemByItem_90 rfl, List.forall_mem_cons.mpr ⟨np_s_aload_n hX dX4_countItemByItem_91 rfl, List.forall_mem_cons.mpr ⟨np_S.mono (op := np_getf 4 8) (np_s_getf hX dX4_countItemByItem_92 (C := RX4) (T := TX4) (N := 11) rfl guX4 (by decide) gw231) nw_getf_le, List.forall_mem_cons.mpr ⟨np_s_iload hX dX4_countItemByItem_95, List.forall_mem_cons.mpr ⟨np_s_isub hX dX4_countItemByItem_97, List.forall_mem_cons.mpr ⟨np_s_iadd hX dX4_countItemByItem_98, List.forall_mem_cons.mpr ⟨np_S.mono (op := np_ist 1 1) (np_s_istore_n hX dX4_countItemByItem_99 rfl (by decide)) nw_ist_le, List.forall_mem_cons.mpr ⟨np_s_aload_n hX dX4_countItemByItem_100 rfl, List.forall_mem_cons.mpr ⟨np_s_iload hX dX4_countItemByItem_101, List.forall_mem_cons.mpr ⟨np_S.mono (op := np_putf 4 8 (.int)) (np_s_putf hX dX4_countItemByItem_103 (C := RX4) (T := TX4) (N := 11) (ty0 := tyX4) rfl guX4 tyX4_ok nmX4 (by decide) gw231 rfl rfl) nw_putf_le, List.forall_mem_cons.mpr ⟨np_S.mono (op := np_iinc 2 1) (np_s_iinc hX dX4_countItemByItem_106 (by decide)) nw_iinc_le, List.forall_mem_cons.mpr ⟨np_s_goto hX dX4_countItemByItem_109 (by decide), List.forall_mem_cons.mpr ⟨np_s_aload_n hX dX4_countItemByItem_112 rfl, List.forall_mem_cons.mpr ⟨np_S.mono (op := np_getf 4 8) (np_s_getf hX dX4_countItemByItem_113 (C := RX4) (T := TX4) (N := 11) rfl guX4 (by decide) gw231) nw_getf_le, List.forall_mem_cons.mpr ⟨np_s_sipush hX dX4_countItemByItem_116 (by decide), List.forall_mem_cons.mpr ⟨np_S.mono (op := np_ic (fun x y => x ≤ y) 126) (np_s_icmp_le hX dX4_countItemByItem_119 (by decide)) nq_ic_le, List.forall_mem_cons.mpr ⟨np_s_iconst hX dX4_countItemByItem_122 (by decide), List.forall_mem_cons.mpr ⟨np_s_goto hX dX4_countItemByItem_123 (by decide), List.forall_mem_cons.mpr ⟨np_s_iload_n hX dX4_countItemByItem_126 rfl, List.forall_mem_cons.mpr ⟨np_S.mono (op := np_ret X.2.2.1) (np_s_ret hX dX4_countItemByItem_127) (nq_ret_le hR), fun _ h => nomatch h⟩⟩⟩⟩⟩⟩⟩⟩⟩⟩⟩⟩⟩⟩⟩⟩⟩⟩⟩⟩⟩⟩⟩⟩⟩⟩⟩⟩⟩⟩⟩⟩⟩⟩⟩⟩⟩⟩⟩⟩⟩⟩⟩⟩⟩⟩⟩⟩⟩⟩⟩⟩⟩⟩⟩⟩⟩⟩⟩⟩⟩⟩⟩⟩⟩⟩⟩
noncomputable def m_X4_countItemByItem_4 : Nat → pw_S → Nat → Int32 → Int32 → pw_R Int32
| 0, _, _, _, _ => none
| N + 1, S, v0, v1, v2 =>
 if (S 59 v0 8) ≤ v2 then
 (if (S 59 v0 8) ≤ 400 then
 (some (S, v1))
 else
 (some (S, (-1))))
 else
 (if 400 < (S 59 v0 8) then
 (if (S 59 v0 8) ≤ 400 then
 (some (S, v1))
 else
 (some (S, (-1))))
 else
 (pw_b (m_X4_beginningAt S v0 v2) fun S1 r4 =>
 pw_o r4 (
 (some (S1, (-1)))) (fun j6 =>
 (pw_b (m_X8_copyFrom S1 407 j6) fun S7 r10 =>
 pw_l ((S7 59 v0 8) : Int32) fun z12 =>
 pw_b (m_X4_branch S7 v0) fun S13 r16 =>
 pw_b (m_X4_beginningAt S13 v0 ((S13 59 v0 8) - 1)) fun S18 r21 =>
 pw_o r21 (
 (if (S18 59 v0 8) ≤ z12 then
 (pw_l (v2 + 1 : Int32) fun z24 =>
 m_X4_countItemByItem_4 N S18 v0 v1 z24)
 else
 (pw_l (v2 + 1 : Int32) fun z25 =>
 m_X4_countItemByItem_4 N S18 v0 v1 z25))) (fun j23 =>
 (if (S18 59 v0 8) ≤ z12 then
 (pw_l (v2 + 1 : Int32) fun z26 =>
 m_X4_countItemByItem_4 N S18 v0 v1 z26)
 else
 (pw_b (m_X8_isOver S18 j23 (pw_dn 8 (S18 59 v0 5))) fun S27 r30 =>
 if r30 = 0 then
 (pw_l (v2 + 1 : Int32) fun z32 =>
 m_X4_countItemByItem_4 N S27 v0 v1 z32)
 else
 (pw_l ((v1 + ((S27 59 v0 8) - z12)) : Int32) fun z33 =>
 pw_l (pw_up S27 59 v0 (upd (S27 59 v0) 8 z12)) fun S34 =>
 pw_l (v2 + 1 : Int32) fun z37 =>
 m_X4_countItemByItem_4 N S34 v0 z33 z37))))))))
set_option maxRecDepth 100000 in
set_option maxHeartbeats 8000000 in
theorem L_X4_countItemByItem_4 {X : np_Ctx} (hX : np_ok RX4 cX4_countItemByItem 6 6 175 0 0 .ireturn X) {Q : Option Value → np_W → Prop} {q n : Nat} (hR : ∀ st w ce sl, np_rt (some .int) 0 0 Q st w ce sl → X.2.2.1 st w ce sl) : ∀ (N : Nat) (S : pw_S) (v0 : Nat) (v1 : Int32) (v2 : Int32) (f : Nat → Option np_E) (hv0 : pw_ok q 59 v0 = true), pw_W q (n, f) S → pw_p (m_X4_countItemByItem_4 N S v0 v1 v2) (fun S' r => ∀ f', pw_W q (n, f') S' → Q (some (.int r)) (n, f')) → np_G X 4 [(0, .ref (pw_pl 59 v0)), (1, .int v1), (2, .int v2)] [] (n, f) 0 0 := by
  intro N
  induction N with
  | zero =>
    intro S v0 v1 v2 f hv0 hW h
    exact (pw_pn h).elim
  | succ N ih =>
    intro S v0 v1 v2 f hv0 hW h
    unfold m_X4_countItemByItem_4 at h
    refine np_soundW (so_X4_countItemByItem hX hR) [4] 400 4 _ _ _ _ _ ?_
    conv => whnf
    refine np_rd_i (hW.g hv0) ?_
    conv => whnf
    refine pw_br h (fun _ h => ?_) (fun _ h => ?_)
    · conv => whnf
      refine np_rd_i (hW.g hv0) ?_
      conv => whnf
      refine pw_br h (fun _ h => ?_) (fun _ h => ?_)
      · conv => whnf
        exact ⟨Nat.le_of_ble_eq_true rfl, Nat.le_of_ble_eq_true rfl, ⟨_, rfl⟩, _, fun _ _ h9 => h9, pw_ps h _ hW⟩
      · conv => whnf
        exact ⟨Nat.le_of_ble_eq_true rfl, Nat.le_of_ble_eq_true rfl, ⟨_, rfl⟩, _, fun _ _ h9 => h9, pw_ps h _ hW⟩
    · conv => whnf
      refine np_rd_i (hW.g hv0) ?_
      conv => whnf
      refine pw_br h (fun _ h => ?_) (fun _ h => ?_)
      · conv => whnf
        refine np_rd_i (hW.g hv0) ?_
        conv => whnf
        refine pw_br h (fun _ h => ?_) (fun _ h => ?_)
        · conv => whnf
          exact ⟨Nat.le_of_ble_eq_true rfl, Nat.le_of_ble_eq_true rfl, ⟨_, rfl⟩, _, fun _ _ h9 => h9, pw_ps h _ hW⟩
        · conv => whnf
          exact ⟨Nat.le_of_ble_eq_true rfl, Nat.le_of_ble_eq_true rfl, ⟨_, rfl⟩, _, fun _ _ h9 => h9, pw_ps h _ hW⟩
      · conv => whnf
        refine np_rd_i (hW.g hv0) ?_
        conv => whnf
        refine ⟨q, S, v0, v2, rfl, hv0, hW, pw_bd h (fun S1 r4 h f2 hW3 ho5 => ?_)⟩
        rcases r4 with _ | j6
        · replace h := pw_on h
          conv => whnf
          exact ⟨Nat.le_of_ble_eq_true rfl, Nat.le_of_ble_eq_true rfl, ⟨_, rfl⟩, _, fun _ _ h9 => h9, pw_ps h _ hW3⟩
        · replace h := pw_os h
          replace ho5 : pw_ok q 50 j6 = true := ho5
          conv => whnf
          refine np_rd_i (hW3.g hv0) ?_
          conv => whnf
          refine np_rd_i (hW3.g rfl) ?_
          conv => whnf
          refine ⟨q, S1, 407, j6, rfl, rfl, ho5, hW3, pw_bd h (fun S7 r10 h f8 hW9 => ?_)⟩
          conv => whnf
          refine np_rd_i (hW9.g hv0) ?_
          conv => whnf
          refine pw_st h (fun z12 h => ?_)
          conv => whnf
          refine np_rd_i (hW9.g hv0) ?_
          conv => whnf
          refine ⟨q, S7, v0, rfl, hv0, hW9, pw_bd h (fun S13 r16 h f14 hW15 => ?_)⟩
          conv => whnf
          refine np_rd_i (hW15.g hv0) ?_
          conv => whnf
          refine np_rd_i (hW15.g hv0) ?_
          conv => whnf
          refine ⟨q, S13, v0, ((S13 59 v0 8) - 1), rfl, hv0, hW15, pw_bd h (fun S18 r21 h f19 hW20 ho22 => ?_)⟩
          rcases r21 with _ | j23
          · replace h := pw_on h
            conv => whnf
            refine np_rd_i (hW20.g hv0) ?_
            conv => whnf
            refine pw_br h (fun _ h => ?_) (fun _ h => ?_)
            · conv => whnf
              refine pw_st h (fun z24 h => ?_)
              conv => whnf
              exact np_gl (ih S18 v0 v1 z24 f19 hv0 hW20 h) ⟨rfl, rfl, rfl, trivial⟩
            · conv => whnf
              refine pw_st h (fun z25 h => ?_)
              conv => whnf
              exact np_gl (ih S18 v0 v1 z25 f19 hv0 hW20 h) ⟨rfl, rfl, rfl, trivial⟩
          · replace h := pw_os h
            replace ho22 : pw_ok q 50 j23 = true := ho22
            conv => whnf
            refine np_rd_i (hW20.g hv0) ?_
            conv => whnf
            refine pw_br h (fun _ h => ?_) (fun _ h => ?_)
            · conv => whnf
              refine pw_st h (fun z26 h => ?_)
              conv => whnf
              exact np_gl (ih S18 v0 v1 z26 f19 hv0 hW20 h) ⟨rfl, rfl, rfl, trivial⟩
            · conv => whnf
              refine np_rd_i (hW20.g hv0) ?_
              conv => whnf
              refine np_rd_i (hW20.g ho22) ?_
              conv => whnf
              refine ⟨q, S18, j23, (pw_dn 8 (S18 59 v0 5)), rfl, ho22, (pw_okd (a := 51) (n := 8) rfl rfl rfl), hW20, pw_bd h (fun S27 r30 h f28 hW29 => ?_)⟩
              conv => whnf
              refine pw_br h (fun _ h => ?_) (fun _ h => ?_)
              · conv => whnf
                refine pw_st h (fun z32 h => ?_)
                conv => whnf
                exact np_gl (ih S27 v0 v1 z32 f28 hv0 hW29 h) ⟨rfl, rfl, rfl, trivial⟩
              · conv => whnf
                refine np_rd_i (hW29.g hv0) ?_
                conv => whnf
                refine pw_st h (fun z33 h => ?_)
                conv => whnf
                refine np_rd_i (hW29.g hv0) ?_
                conv => whnf
                refine pw_wr (a := 59) (i := v0) (d := upd (S27 59 v0) 8 z12) hW29 hv0 rfl h (fun S34 f35 hW36 h => ?_)
                conv => whnf
                refine pw_st h (fun z37 h => ?_)
                conv => whnf
                exact np_gl (ih S34 v0 z33 z37 f35 hv0 hW36 h) ⟨rfl, rfl, rfl, trivial⟩
noncomputable def m_X4_countItemByItem (S : pw_S) (i0 : Nat) : pw_R Int32 :=
 pw_l (0 : Int32) fun z38 =>
 pw_l (0 : Int32) fun z39 =>
 m_X4_countItemByItem_4 (pw_F 20000) S i0 z38 z39
def sp_X4_countItemByItem : np_Sp := fun vs w Q => ∃ (q : Nat) (S : pw_S) (i0 : Nat), vs = [.ref (pw_pl 59 i0)] ∧ pw_ok q 59 i0 = true ∧ pw_W q w S ∧ pw_p (m_X4_countItemByItem S i0) (fun S' r => ∀ f', pw_W q (w.1, f') S' → Q (some (.int r)) (w.1, f'))
set_option maxRecDepth 100000 in
set_option maxHeartbeats 8000000 in
theorem C_X4_countItemByItem : np_C yX4_countItemByItem cX4_countItemByItem 6 (some .int) 6 175 0 0 sp_X4_countItemByItem := by
  refine np_of (by decide) ?_
  intro X vs w Q hsp hX hmn hRt hlt
  obtain ⟨q, S, i0, rfl, hi0, hW, h⟩ := hsp
  obtain ⟨n, f⟩ := w
  unfold m_X4_countItemByItem at h
  have hR : ∀ st w ce sl, np_rt (some .int) 0 0 Q st w ce sl → X.2.2.1 st w ce sl := fun _ _ _ _ h => by rw [hRt]; exact h
  refine np_soundW (so_X4_countItemByItem hX hR) [4] 400 0 _ _ _ _ _ ?_
  conv => whnf
  refine pw_st h (fun z38 h => ?_)
  conv => whnf
  refine pw_st h (fun z39 h => ?_)
  conv => whnf
  exact np_gl (L_X4_countItemByItem_4 hX hR (pw_F 20000) S i0 z38 z39 f hi0 hW h) ⟨rfl, rfl, rfl, trivial⟩
theorem dX5_levelAt_0 : decode cX5_levelAt 0 = .ok (.iload_n 1, 1) := by decide +kernel
theorem dX5_levelAt_1 : decode cX5_levelAt 1 = .ok (.ifCond .lt 21, 3) := by decide +kernel
theorem dX5_levelAt_4 : decode cX5_levelAt 4 = .ok (.iload_n 1, 1) := by decide +kernel
theorem dX5_levelAt_5 : decode cX5_levelAt 5 = .ok (.aload_n 0, 1) := by decide +kernel
theorem dX5_levelAt_6 : decode cX5_levelAt 6 = .ok (.getfield 11, 3) := by decide +kernel
theorem dX5_levelAt_9 : decode cX5_levelAt 9 = .ok (.arraylength, 1) := by decide +kernel
theorem dX5_levelAt_10 : decode cX5_levelAt 10 = .ok (.if_icmp .ge 12, 3) := by decide +kernel
theorem dX5_levelAt_13 : decode cX5_levelAt 13 = .ok (.aload_n 0, 1) := by decide +kernel
theorem dX5_levelAt_14 : decode cX5_levelAt 14 = .ok (.getfield 11, 3) := by decide +kernel
theorem dX5_levelAt_17 : decode cX5_levelAt 17 = .ok (.iload_n 1, 1) := by decide +kernel
theorem dX5_levelAt_18 : decode cX5_levelAt 18 = .ok (.aaload, 1) := by decide +kernel
theorem dX5_levelAt_19 : decode cX5_levelAt 19 = .ok (.goto 4, 3) := by decide +kernel
theorem dX5_levelAt_22 : decode cX5_levelAt 22 = .ok (.aconst_null, 1) := by decide +kernel
theorem dX5_levelAt_23 : decode cX5_levelAt 23 = .ok (.areturn, 1) := by decide +kernel
def is_X5_levelAt (Rt : np_Rt) : List (Nat × np_Op) := [(0, np_ild 1 1), (1, nq_if (fun x => x < 0) 22), (4, np_ild 1 1), (5, np_ald 1 0), (6, nw_getf 5 0), (9, nw_alen), (10, nq_ic (fun x y => y ≤ x) 22), (13, np_ald 1 0), (14, nw_getf 5 0), (17, np_ild 1 1), (18, nw_aald "NotationPress$Trace"), (19, np_goto 23), (22, np_push 1 .null), (23, np_ret Rt)]
set_option maxRecDepth 20000 in
theorem so_X5_levelAt {X : np_Ctx} {Rt : np_Rt} (hX : np_ok RX5 cX5_levelAt 2 0 0 0 0 .areturn X) (hR : ∀ st w ce sl, Rt st w ce sl → X.2.2.1 st w ce sl) : ∀ q ∈ is_X5_levelAt Rt, np_S X q.1 q.2 :=
  List.forall_mem_cons.mpr ⟨np_s_iload_n hX dX5_levelAt_0 rfl, List.forall_mem_cons.mpr ⟨np_S.mono (op := np_if (fun x => x < 0) 22) (np_s_if_lt hX dX5_levelAt_1 (by decide)) nq_if_le, List.forall_mem_cons.mpr ⟨np_s_iload_n hX dX5_levelAt_4 rfl, List.forall_mem_cons.mpr ⟨np_s_aload_n hX dX5_levelAt_5 rfl, List.forall_mem_cons.mpr ⟨np_S.mono (op := np_getf 5 0) (np_s_getf hX dX5_levelAt_6 (C := RX5) (T := TX5) (N := 5) rfl guX5 (by decide) gw266) nw_getf_le, List.forall_mem_cons.mpr ⟨np_S.mono (op := np_alen) (np_s_alen hX dX5_levelAt_9) nw_alen_le, List.forall_mem_cons.mpr ⟨np_S.mono (op := np_ic (fun x y => y ≤ x) 22) (np_s_icmp_ge hX dX5_levelAt_10 (by decide)) nq_ic_le, List.forall_mem_cons.mpr ⟨np_s_aload_n hX dX5_levelAt_13 rfl, List.forall_mem_cons.mpr ⟨np_S.mono (op := np_getf 5 0) (np_s_getf hX dX5_levelAt_14 (C := RX5) (T := TX5) (N := 5) rfl guX5 (by decide) gw266) nw_getf_le, List.forall_mem_cons.mpr ⟨np_s_iload_n hX dX5_levelAt_17 rfl, List.forall_mem_cons.mpr ⟨np_S.mono (op := np_aald "NotationPress$Trace") (np_s_aald hX dX5_levelAt_18) nw_aald_le, List.forall_mem_cons.mpr ⟨np_s_goto hX dX5_levelAt_19 (by decide), List.forall_mem_cons.mpr ⟨np_s_null hX dX5_levelAt_22, List.forall_mem_cons.mpr ⟨np_S.mono (op := np_ret X.2.2.1) (np_s_ret hX dX5_levelAt_23) (nq_ret_le hR), fun _ h => nomatch h⟩⟩⟩⟩⟩⟩⟩⟩⟩⟩⟩⟩⟩⟩
noncomputable def m_X5_levelAt (S : pw_S) (i0 : Nat) (x1 : Int32) : pw_R (Option Nat) :=
 if x1 < 0 then
 (some (S, none))
 else
 (if 26 ≤ x1 then
 (some (S, none))
 else
 (pw_c (np_inb x1 26) <|
 some (S, some (409 + pw_dn 26 x1))))
def sp_X5_levelAt : np_Sp := fun vs w Q => ∃ (q : Nat) (S : pw_S) (i0 : Nat) (x1 : Int32), vs = [.ref (pw_pl 60 i0), .int x1] ∧ pw_ok q 60 i0 = true ∧ pw_W q w S ∧ pw_p (m_X5_levelAt S i0 x1) (fun S' r => ∀ f', pw_W q (w.1, f') S' → pw_oo q 50 r = true → Q (some (pw_v 50 r)) (w.1, f'))
set_option maxRecDepth 100000 in
set_option maxHeartbeats 8000000 in
theorem C_X5_levelAt : np_C yX5_levelAt cX5_levelAt 2 (some (.object "NotationPress$Trace")) 0 0 0 0 sp_X5_levelAt := by
  refine np_of (by decide) ?_
  intro X vs w Q hsp hX hmn hRt hlt
  obtain ⟨q, S, i0, x1, rfl, hi0, hW, h⟩ := hsp
  obtain ⟨n, f⟩ := w
  unfold m_X5_levelAt at h
  have hR : ∀ st w ce sl, np_rt (some (.object "NotationPress$Trace")) 0 0 Q st w ce sl → X.2.2.1 st w ce sl := fun _ _ _ _ h => by rw [hRt]; exact h
  refine np_soundW (so_X5_levelAt hX hR) [] 400 0 _ _ _ _ _ ?_
  conv => whnf
  refine pw_br h (fun _ h => ?_) (fun _ h => ?_)
  · conv => whnf
    exact ⟨Nat.le_of_ble_eq_true rfl, Nat.le_of_ble_eq_true rfl, Or.inl rfl, _, fun _ _ h9 => h9, pw_ps h _ hW rfl⟩
  · conv => whnf
    refine np_rd_i (hW.g hi0) ?_
    conv => whnf
    refine np_rd_i (hW.g rfl) ?_
    conv => whnf
    refine pw_br h (fun _ h => ?_) (fun _ h => ?_)
    · conv => whnf
      exact ⟨Nat.le_of_ble_eq_true rfl, Nat.le_of_ble_eq_true rfl, Or.inl rfl, _, fun _ _ h9 => h9, pw_ps h _ hW rfl⟩
    · conv => whnf
      refine np_rd_i (hW.g hi0) ?_
      conv => whnf
      refine np_rd_i (hW.g rfl) ?_
      conv => whnf
      refine ⟨rfl, ?_⟩
      conv => whnf
      refine pw_ck h (fun hb1 h => ?_)
      conv => whnf
      exact ⟨Nat.le_of_ble_eq_true rfl, Nat.le_of_ble_eq_true rfl, Or.inr ⟨_, rfl⟩, _, fun _ _ h9 => h9, pw_ps h _ hW (pw_okb (a := 50) (b := 409) (n := 26) rfl rfl rfl)⟩
theorem dX5_choicesOf_0 : decode cX5_choicesOf 0 = .ok (.aload_n 0, 1) := by decide +kernel
theorem dX5_choicesOf_1 : decode cX5_choicesOf 1 = .ok (.iload_n 1, 1) := by decide +kernel
theorem dX5_choicesOf_2 : decode cX5_choicesOf 2 = .ok (.invokevirtual 120, 3) := by decide +kernel
theorem dX5_choicesOf_5 : decode cX5_choicesOf 5 = .ok (.tableswitch 101 0 6 #[43, 77, 98, 48, 101, 101, 46], 43) := by decide +kernel
theorem dX5_choicesOf_48 : decode cX5_choicesOf 48 = .ok (.bipush 10, 2) := by decide +kernel
theorem dX5_choicesOf_50 : decode cX5_choicesOf 50 = .ok (.ireturn, 1) := by decide +kernel
theorem dX5_choicesOf_51 : decode cX5_choicesOf 51 = .ok (.iconst 4, 1) := by decide +kernel
theorem dX5_choicesOf_52 : decode cX5_choicesOf 52 = .ok (.ireturn, 1) := by decide +kernel
theorem dX5_choicesOf_53 : decode cX5_choicesOf 53 = .ok (.aload_n 0, 1) := by decide +kernel
theorem dX5_choicesOf_54 : decode cX5_choicesOf 54 = .ok (.iload_n 1, 1) := by decide +kernel
theorem dX5_choicesOf_55 : decode cX5_choicesOf 55 = .ok (.invokevirtual 123, 3) := by decide +kernel
theorem dX5_choicesOf_58 : decode cX5_choicesOf 58 = .ok (.iconst 1, 1) := by decide +kernel
theorem dX5_choicesOf_59 : decode cX5_choicesOf 59 = .ok (.if_icmp .ne 7, 3) := by decide +kernel
theorem dX5_choicesOf_62 : decode cX5_choicesOf 62 = .ok (.iconst 2, 1) := by decide +kernel
theorem dX5_choicesOf_63 : decode cX5_choicesOf 63 = .ok (.goto 18, 3) := by decide +kernel
theorem dX5_choicesOf_66 : decode cX5_choicesOf 66 = .ok (.aload_n 0, 1) := by decide +kernel
theorem dX5_choicesOf_67 : decode cX5_choicesOf 67 = .ok (.iload_n 1, 1) := by decide +kernel
theorem dX5_choicesOf_68 : decode cX5_choicesOf 68 = .ok (.invokevirtual 123, 3) := by decide +kernel
theorem dX5_choicesOf_71 : decode cX5_choicesOf 71 = .ok (.iconst 2, 1) := by decide +kernel
theorem dX5_choicesOf_72 : decode cX5_choicesOf 72 = .ok (.if_icmp .ne 7, 3) := by decide +kernel
theorem dX5_choicesOf_75 : decode cX5_choicesOf 75 = .ok (.iconst 4, 1) := by decide +kernel
theorem dX5_choicesOf_76 : decode cX5_choicesOf 76 = .ok (.goto 5, 3) := by decide +kernel
theorem dX5_choicesOf_79 : decode cX5_choicesOf 79 = .ok (.bipush 8, 2) := by decide +kernel
theorem dX5_choicesOf_81 : decode cX5_choicesOf 81 = .ok (.ireturn, 1) := by decide +kernel
theorem dX5_choicesOf_82 : decode cX5_choicesOf 82 = .ok (.aload_n 0, 1) := by decide +kernel
theorem dX5_choicesOf_83 : decode cX5_choicesOf 83 = .ok (.iload_n 1, 1) := by decide +kernel
theorem dX5_choicesOf_84 : decode cX5_choicesOf 84 = .ok (.invokevirtual 123, 3) := by decide +kernel
theorem dX5_choicesOf_87 : decode cX5_choicesOf 87 = .ok (.bipush 27, 2) := by decide +kernel
theorem dX5_choicesOf_89 : decode cX5_choicesOf 89 = .ok (.invokestatic 126, 3) := by decide +kernel
theorem dX5_choicesOf_92 : decode cX5_choicesOf 92 = .ok (.if_icmp .ge 8, 3) := by decide +kernel
theorem dX5_choicesOf_95 : decode cX5_choicesOf 95 = .ok (.bipush 27, 2) := by decide +kernel
theorem dX5_choicesOf_97 : decode cX5_choicesOf 97 = .ok (.goto 5, 3) := by decide +kernel
theorem dX5_choicesOf_100 : decode cX5_choicesOf 100 = .ok (.bipush 28, 2) := by decide +kernel
theorem dX5_choicesOf_102 : decode cX5_choicesOf 102 = .ok (.ireturn, 1) := by decide +kernel
theorem dX5_choicesOf_103 : decode cX5_choicesOf 103 = .ok (.bipush 28, 2) := by decide +kernel
theorem dX5_choicesOf_105 : decode cX5_choicesOf 105 = .ok (.ireturn, 1) := by decide +kernel
theorem dX5_choicesOf_106 : decode cX5_choicesOf 106 = .ok (.iconst 0, 1) := by decide +kernel
theorem dX5_choicesOf_107 : decode cX5_choicesOf 107 = .ok (.ireturn, 1) := by decide +kernel
def is_X5_choicesOf (Rt : np_Rt) : List (Nat × np_Op) := [(0, np_ald 1 0), (1, np_ild 1 1), (2, nw_callV 2 2 sp_X2_kind 2 0 0 0 0), (5, nq_tsw (0) [48, 82, 103, 53, 106, 106, 51] 106), (48, np_push 2 (.int 10)), (50, np_ret Rt), (51, np_push 1 (.int 4)), (52, np_ret Rt), (53, np_ald 1 0), (54, np_ild 1 1), (55, nw_callV 2 2 sp_X2_b 2 0 0 0 0), (58, np_push 1 (.int 1)), (59, nq_icne 66), (62, np_push 1 (.int 2)), (63, np_goto 81), (66, np_ald 1 0), (67, np_ild 1 1), (68, nw_callV 2 2 sp_X2_b 2 0 0 0 0), (71, np_push 1 (.int 2)), (72, nq_icne 79), (75, np_push 1 (.int 4)), (76, np_goto 81), (79, np_push 2 (.int 8)), (81, np_ret Rt), (82, np_ald 1 0), (83, np_ild 1 1), (84, nw_callV 2 2 sp_X2_b 2 0 0 0 0), (87, np_push 2 (.int 27)), (89, nq_call 1 sp_X11_unitsOfLetter 1 0 0 0 0), (92, nq_ic (fun x y => y ≤ x) 100), (95, np_push 2 (.int 27)), (97, np_goto 102), (100, np_push 2 (.int 28)), (102, np_ret Rt), (103, np_push 2 (.int 28)), (105, np_ret Rt), (106, np_push 1 (.int 0)), (107, np_ret Rt)]
set_option maxRecDepth 20000 in
theorem so_X5_choicesOf {X : np_Ctx} {Rt : np_Rt} (hX : np_ok RX5 cX5_choicesOf 2 2 43 0 0 .ireturn X) (hR : ∀ st w ce sl, Rt st w ce sl → X.2.2.1 st w ce sl) : ∀ q ∈ is_X5_choicesOf Rt, np_S X q.1 q.2 :=
  List.forall_mem_cons.mpr ⟨np_s_aload_n hX dX5_choicesOf_0 rfl, List.forall_mem_cons.mpr ⟨np_s_iload_n hX dX5_choicesOf_1 rfl, List.forall_mem_cons.mpr ⟨np_S.mono (op := np_callV 2 2 sp_X2_kind 2 0 0 0 0) (np_s_callV hX C_X2_kind dX5_choicesOf_2 (q := (RX2, TX2, 5)) rfl rfl gw650 gw64 gw779 gw648 gw649 ⟨by decide, by decide, by decide⟩ (by decide) (by decide)) nw_callV_le, List.forall_mem_cons.mpr ⟨np_S.mono (op := np_tsw (0) (6) [48, 82, 103, 53, 106, 106, 51] 106) (np_s_tsw hX dX5_choicesOf_5 (by decide) (by decide) (by decide)) (nq_tsw_le (by decide)), List.forall_mem_cons.mpr ⟨np_s_bipush hX dX5_choicesOf_48 (by decide), List.forall_mem_cons.mpr ⟨np_S.mono (op := np_ret X.2.2.1) (np_s_ret hX dX5_choicesOf_50) (nq_ret_le hR), List.forall_mem_cons.mpr ⟨np_s_iconst hX dX5_choicesOf_51 (by decide), List.forall_mem_cons.mpr ⟨np_S.mono (op := np_ret X.2.2.1) (np_s_ret hX dX5_choicesOf_52) (nq_ret_le hR), List.forall_mem_cons.mpr ⟨np_s_aload_n hX dX5_choicesOf_53 rfl, List.forall_mem_cons.mpr ⟨np_s_iload_n hX dX5_choicesOf_54 rfl, List.forall_mem_cons.mpr ⟨np_S.mono (op := np_callV 2 2 sp_X2_b 2 0 0 0 0) (np_s_callV hX C_X2_b dX5_choicesOf_55 (q := (RX2, TX2, 5)) rfl rfl gw673 gw64 gw780 gw671 gw672 ⟨by decide, by decide, by decide⟩ (by decide) (by decide)) nw_callV_le, List.forall_mem_cons.mpr ⟨np_s_iconst hX dX5_choicesOf_58 (by decide), List.forall_mem_cons.mpr ⟨np_S.mono (op := np_icne 66) (np_s_icmp_ne hX dX5_choicesOf_59 (by decide)) nq_icne_le, List.forall_mem_cons.mpr ⟨np_s_iconst hX dX5_choicesOf_62 (by decide), List.forall_mem_cons.mpr ⟨np_s_goto hX dX5_choicesOf_63 (by decide), List.forall_mem_cons.mpr ⟨np_s_aload_n hX dX5_choicesOf_66 rfl, List.forall_mem_cons.mpr ⟨np_s_iload_n hX dX5_choicesOf_67 rfl, List.forall_mem_cons.mpr ⟨np_S.mono (op := np_callV 2 2 sp_X2_b 2 0 0 0 0) (np_s_callV hX C_X2_b dX5_choicesOf_68 (q := (RX2, TX2, 5)) rfl rfl gw673 gw64 gw780 gw671 gw672 ⟨by decide, by decide, by decide⟩ (by decide) (by decide)) nw_callV_le, List.forall_mem_cons.mpr ⟨np_s_iconst hX dX5_choicesOf_71 (by decide), List.forall_mem_cons.mpr ⟨np_S.mono (op := np_icne 79) (np_s_icmp_ne hX dX5_choicesOf_72 (by decide)) nq_icne_le, List.forall_mem_cons.mpr ⟨np_s_iconst hX dX5_choicesOf_75 (by decide), List.forall_mem_cons.mpr ⟨np_s_goto hX dX5_choicesOf_76 (by decide), List.forall_mem_cons.mpr ⟨np_s_bipush hX dX5_choicesOf_79 (by decide), List.forall_mem_cons.mpr ⟨np_S.mono (op := np_ret X.2.2.1) (np_s_ret hX dX5_choicesOf_81) (nq_ret_le hR), List.forall_mem_cons.mpr ⟨np_s_aload_n hX dX5_choicesOf_82 rfl, List.forall_mem_cons.mpr ⟨np_s_iload_n hX dX5_choicesOf_83 rfl, List.forall_mem_cons.mpr ⟨np_S.mono (op := np_callV 2 2 sp_X2_b 2 0 0 0 0) (np_s_callV hX C_X2_b dX5_choicesOf_84 (q := (RX2, TX2, 5)) rfl rfl gw673 gw64 gw780 gw671 gw672 ⟨by decide, by decide, by decide⟩ (by decide) (by decide)) nw_callV_le, List.forall_mem_cons.mpr ⟨np_s_bipush hX dX5_choicesOf_87 (by decide), List.forall_mem_cons.mpr ⟨np_S.mono (op := np_call 1 sp_X11_unitsOfLetter 1 0 0 0 0) (np_s_callSN hX C_X11_unitsOfLetter dX5_choicesOf_89 gw783 gw63 gw781 gw782 ⟨by decide, by decide, by decide⟩ (by decide) (by decide)) nq_call_le, List.forall_mem_cons.mpr ⟨np_S.mono (op := np_ic (fun x y => y ≤ x) 100) (np_s_icmp_ge hX dX5_choicesOf_92 (by decide)) nq_ic_le, List.forall_mem_cons.mpr ⟨np_s_bipush hX dX5_choicesOf_95 (by decide), List.forall_mem_cons.mpr ⟨np_s_goto hX dX5_choicesOf_97 (by decide), List.forall_mem_cons.mpr ⟨np_s_bipush hX dX5_choicesOf_100 (by decide), List.forall_mem_cons.mpr ⟨np_S.mono (op := np_ret X.2.2.1) (np_s_ret hX dX5_choicesOf_102) (nq_ret_le hR), List.forall_mem_cons.mpr ⟨np_s_bipush hX dX5_choicesOf_103 (by decide), List.forall_mem_cons.mpr ⟨np_S.mono (op := np_ret X.2.2.1) (np_s_ret hX dX5_choicesOf_105) (nq_ret_le hR), List.forall_mem_cons.mpr ⟨np_s_iconst hX dX5_choicesOf_106 (by decide), List.forall_mem_cons.mpr ⟨np_S.mono (op := np_ret X.2.2.1) (np_s_ret hX dX5_choicesOf_107) (nq_ret_le hR), fun _ h => nomatch h⟩⟩⟩⟩⟩⟩⟩⟩⟩⟩⟩⟩⟩⟩⟩⟩⟩⟩⟩⟩⟩⟩⟩⟩⟩⟩⟩⟩⟩⟩⟩⟩⟩⟩⟩⟩⟩⟩
noncomputable def m_X5_choicesOf (S : pw_S) (i0 : Nat) (x1 : Int32) : pw_R Int32 :=
 pw_b (m_X2_kind S i0 x1) fun S1 r4 =>
 if (r4 : Int32).toInt = 0 then
 (some (S1, 10))
 else if (r4 : Int32).toInt = (0 + 1) then
 (pw_b (m_X2_b S1 i0 x1) fun S6 r9 =>
 pw_b (m_X11_unitsOfLetter S6 27) fun S11 r14 =>
 if r14 ≤ r9 then
 (some (S11, 28))
 else
 (some (S11, 27)))
 else if (r4 : Int32).toInt = ((0 + 1) + 1) then
 (some (S1, 28))
 else if (r4 : Int32).toInt = (((0 + 1) + 1) + 1) then
 (pw_b (m_X2_b S1 i0 x1) fun S16 r19 =>
 if r19 = 1 then
 (some (S16, 2))
 else
 (pw_b (m_X2_b S16 i0 x1) fun S21 r24 =>
 if r24 = 2 then
 (some (S21, 4))
 else
 (some (S21, 8))))
 else if (r4 : Int32).toInt = ((((0 + 1) + 1) + 1) + 1) then
 (some (S1, 0))
 else if (r4 : Int32).toInt = (((((0 + 1) + 1) + 1) + 1) + 1) then
 (some (S1, 0))
 else if (r4 : Int32).toInt = ((((((0 + 1) + 1) + 1) + 1) + 1) + 1) then
 (some (S1, 4))
 else 
 (some (S1, 0))
def sp_X5_choicesOf : np_Sp := fun vs w Q => ∃ (q : Nat) (S : pw_S) (i0 : Nat) (x1 : Int32), vs = [.ref (pw_pl 51 i0), .int x1] ∧ pw_ok q 51 i0 = true ∧ pw_W q w S ∧ pw_p (m_X5_choicesOf S i0 x1) (fun S' r => ∀ f', pw_W q (w.1, f') S' → Q (some (.int r)) (w.1, f'))
set_option maxRecDepth 100000 in
set_option maxHeartbeats 8000000 in
theorem C_X5_choicesOf : np_C yX5_choicesOf cX5_choicesOf 2 (some .int) 2 43 0 0 sp_X5_choicesOf := by
  refine np_of (by decide) ?_
  intro X vs w Q hsp hX hmn hRt hlt
  obtain ⟨q, S, i0, x1, rfl, hi0, hW, h⟩ := hsp
  obtain ⟨n, f⟩ := w
  unfold m_X5_choicesOf at h
  have hR : ∀ st w ce sl, np_rt (some .int) 0 0 Q st w ce sl → X.2.2.1 st w ce sl := fun _ _ _ _ h => by rw [hRt]; exact h
  refine np_soundW (so_X5_choicesOf hX hR) [] 400 0 _ _ _ _ _ ?_
  conv => whnf
  refine np_rd_i (hW.g hi0) ?_
  conv => whnf
  refine ⟨q, S, i0, x1, rfl, hi0, hW, pw_bd h (fun S1 r4 h f2 hW3 => ?_)⟩
  conv => whnf
  refine pw_br h (fun _ h => ?_) (fun _ h => ?_)
  · conv => whnf
    exact ⟨Nat.le_of_ble_eq_true rfl, Nat.le_of_ble_eq_true rfl, ⟨_, rfl⟩, _, fun _ _ h9 => h9, pw_ps h _ hW3⟩
  conv => whnf
  refine pw_br h (fun _ h => ?_) (fun _ h => ?_)
  · conv => whnf
    refine np_rd_i (hW3.g hi0) ?_
    conv => whnf
    refine ⟨q, S1, i0, x1, rfl, hi0, hW3, pw_bd h (fun S6 r9 h f7 hW8 => ?_)⟩
    conv => whnf
    refine ⟨q, S6, 27, rfl, hW8, pw_bd h (fun S11 r14 h f12 hW13 => ?_)⟩
    conv => whnf
    refine pw_br h (fun _ h => ?_) (fun _ h => ?_)
    · conv => whnf
      exact ⟨Nat.le_of_ble_eq_true rfl, Nat.le_of_ble_eq_true rfl, ⟨_, rfl⟩, _, fun _ _ h9 => h9, pw_ps h _ hW13⟩
    · conv => whnf
      exact ⟨Nat.le_of_ble_eq_true rfl, Nat.le_of_ble_eq_true rfl, ⟨_, rfl⟩, _, fun _ _ h9 => h9, pw_ps h _ hW13⟩
  conv => whnf
  refine pw_br h (fun _ h => ?_) (fun _ h => ?_)
  · conv => whnf
    exact ⟨Nat.le_of_ble_eq_true rfl, Nat.le_of_ble_eq_true rfl, ⟨_, rfl⟩, _, fun _ _ h9 => h9, pw_ps h _ hW3⟩
  conv => whnf
  refine pw_br h (fun _ h => ?_) (fun _ h => ?_)
  · conv => whnf
    refine np_rd_i (hW3.g hi0) ?_
    conv => whnf
    refine ⟨q, S1, i0, x1, rfl, hi0, hW3, pw_bd h (fun S16 r19 h f17 hW18 => ?_)⟩
    conv => whnf
    refine pw_br h (fun _ h => ?_) (fun _ h => ?_)
    · conv => whnf
      exact ⟨Nat.le_of_ble_eq_true rfl, Nat.le_of_ble_eq_true rfl, ⟨_, rfl⟩, _, fun _ _ h9 => h9, pw_ps h _ hW18⟩
    · conv => whnf
      refine np_rd_i (hW18.g hi0) ?_
      conv => whnf
      refine ⟨q, S16, i0, x1, rfl, hi0, hW18, pw_bd h (fun S21 r24 h f22 hW23 => ?_)⟩
      conv => whnf
      refine pw_br h (fun _ h => ?_) (fun _ h => ?_)
      · conv => whnf
        exact ⟨Nat.le_of_ble_eq_true rfl, Nat.le_of_ble_eq_true rfl, ⟨_, rfl⟩, _, fun _ _ h9 => h9, pw_ps h _ hW23⟩
      · conv => whnf
        exact ⟨Nat.le_of_ble_eq_true rfl, Nat.le_of_ble_eq_true rfl, ⟨_, rfl⟩, _, fun _ _ h9 => h9, pw_ps h _ hW23⟩
  conv => whnf
  refine pw_br h (fun _ h => ?_) (fun _ h => ?_)
  · conv => whnf
    exact ⟨Nat.le_of_ble_eq_true rfl, Nat.le_of_ble_eq_true rfl, ⟨_, rfl⟩, _, fun _ _ h9 => h9, pw_ps h _ hW3⟩
  conv => whnf
  refine pw_br h (fun _ h => ?_) (fun _ h => ?_)
  · conv => whnf
    exact ⟨Nat.le_of_ble_eq_true rfl, Nat.le_of_ble_eq_true rfl, ⟨_, rfl⟩, _, fun _ _ h9 => h9, pw_ps h _ hW3⟩
  conv => whnf
  refine pw_br h (fun _ h => ?_) (fun _ h => ?_)
  · conv => whnf
    exact ⟨Nat.le_of_ble_eq_true rfl, Nat.le_of_ble_eq_true rfl, ⟨_, rfl⟩, _, fun _ _ h9 => h9, pw_ps h _ hW3⟩
  conv => whnf
  exact ⟨Nat.le_of_ble_eq_true rfl, Nat.le_of_ble_eq_true rfl, ⟨_, rfl⟩, _, fun _ _ h9 => h9, pw_ps h _ hW3⟩
theorem dX5_comeTo_0 : decode cX5_comeTo 0 = .ok (.iconst 0, 1) := by decide +kernel
theorem dX5_comeTo_1 : decode cX5_comeTo 1 = .ok (.istore_n 3, 1) := by decide +kernel
theorem dX5_comeTo_2 : decode cX5_comeTo 2 = .ok (.iload_n 3, 1) := by decide +kernel
theorem dX5_comeTo_3 : decode cX5_comeTo 3 = .ok (.sipush 200, 3) := by decide +kernel
theorem dX5_comeTo_6 : decode cX5_comeTo 6 = .ok (.if_icmp .ge 52, 3) := by decide +kernel
theorem dX5_comeTo_9 : decode cX5_comeTo 9 = .ok (.aload_n 2, 1) := by decide +kernel
theorem dX5_comeTo_10 : decode cX5_comeTo 10 = .ok (.aload_n 1, 1) := by decide +kernel
theorem dX5_comeTo_11 : decode cX5_comeTo 11 = .ok (.invokevirtual 56, 3) := by decide +kernel
theorem dX5_comeTo_14 : decode cX5_comeTo 14 = .ok (.ifCond .ne 44, 3) := by decide +kernel
theorem dX5_comeTo_17 : decode cX5_comeTo 17 = .ok (.aload_n 1, 1) := by decide +kernel
theorem dX5_comeTo_18 : decode cX5_comeTo 18 = .ok (.aload_n 2, 1) := by decide +kernel
theorem dX5_comeTo_19 : decode cX5_comeTo 19 = .ok (.getfield 49, 3) := by decide +kernel
theorem dX5_comeTo_22 : decode cX5_comeTo 22 = .ok (.invokevirtual 103, 3) := by decide +kernel
theorem dX5_comeTo_25 : decode cX5_comeTo 25 = .ok (.ifCond .ne 33, 3) := by decide +kernel
theorem dX5_comeTo_28 : decode cX5_comeTo 28 = .ok (.aload_n 1, 1) := by decide +kernel
theorem dX5_comeTo_29 : decode cX5_comeTo 29 = .ok (.aload_n 2, 1) := by decide +kernel
theorem dX5_comeTo_30 : decode cX5_comeTo 30 = .ok (.getfield 49, 3) := by decide +kernel
theorem dX5_comeTo_33 : decode cX5_comeTo 33 = .ok (.invokevirtual 107, 3) := by decide +kernel
theorem dX5_comeTo_36 : decode cX5_comeTo 36 = .ok (.ifCond .eq 11, 3) := by decide +kernel
theorem dX5_comeTo_39 : decode cX5_comeTo 39 = .ok (.aload_n 2, 1) := by decide +kernel
theorem dX5_comeTo_40 : decode cX5_comeTo 40 = .ok (.aload_n 1, 1) := by decide +kernel
theorem dX5_comeTo_41 : decode cX5_comeTo 41 = .ok (.invokevirtual 110, 3) := by decide +kernel
theorem dX5_comeTo_44 : decode cX5_comeTo 44 = .ok (.goto 8, 3) := by decide +kernel
theorem dX5_comeTo_47 : decode cX5_comeTo 47 = .ok (.aload_n 2, 1) := by decide +kernel
theorem dX5_comeTo_48 : decode cX5_comeTo 48 = .ok (.aload_n 1, 1) := by decide +kernel
theorem dX5_comeTo_49 : decode cX5_comeTo 49 = .ok (.invokevirtual 99, 3) := by decide +kernel
theorem dX5_comeTo_52 : decode cX5_comeTo 52 = .ok (.iinc 3 1, 3) := by decide +kernel
theorem dX5_comeTo_55 : decode cX5_comeTo 55 = .ok (.goto (-53), 3) := by decide +kernel
theorem dX5_comeTo_58 : decode cX5_comeTo 58 = .ok (.aload_n 1, 1) := by decide +kernel
theorem dX5_comeTo_59 : decode cX5_comeTo 59 = .ok (.aload_n 2, 1) := by decide +kernel
theorem dX5_comeTo_60 : decode cX5_comeTo 60 = .ok (.getfield 49, 3) := by decide +kernel
theorem dX5_comeTo_63 : decode cX5_comeTo 63 = .ok (.invokestatic 52, 3) := by decide +kernel
theorem dX5_comeTo_66 : decode cX5_comeTo 66 = .ok (.istore_n 3, 1) := by decide +kernel
theorem dX5_comeTo_67 : decode cX5_comeTo 67 = .ok (.aload_n 2, 1) := by decide +kernel
theorem dX5_comeTo_68 : decode cX5_comeTo 68 = .ok (.aload_n 1, 1) := by decide +kernel
theorem dX5_comeTo_69 : decode cX5_comeTo 69 = .ok (.invokevirtual 56, 3) := by decide +kernel
theorem dX5_comeTo_72 : decode cX5_comeTo 72 = .ok (.ifCond .ne 8, 3) := by decide +kernel
theorem dX5_comeTo_75 : decode cX5_comeTo 75 = .ok (.iload_n 3, 1) := by decide +kernel
theorem dX5_comeTo_76 : decode cX5_comeTo 76 = .ok (.iconst 1, 1) := by decide +kernel
theorem dX5_comeTo_77 : decode cX5_comeTo 77 = .ok (.if_icmp .ge 4, 3) := by decide +kernel
theorem dX5_comeTo_80 : decode cX5_comeTo 80 = .ok (.return_, 1) := by decide +kernel
theorem dX5_comeTo_81 : decode cX5_comeTo 81 = .ok (.aload_n 0, 1) := by decide +kernel
theorem dX5_comeTo_82 : decode cX5_comeTo 82 = .ok (.ldc2_w 113, 3) := by decide +kernel
theorem dX5_comeTo_85 : decode cX5_comeTo 85 = .ok (.aload_n 0, 1) := by decide +kernel
theorem dX5_comeTo_86 : decode cX5_comeTo 86 = .ok (.getfield 35, 3) := by decide +kernel
theorem dX5_comeTo_89 : decode cX5_comeTo 89 = .ok (.i2l, 1) := by decide +kernel
theorem dX5_comeTo_90 : decode cX5_comeTo 90 = .ok (.lmul, 1) := by decide +kernel
theorem dX5_comeTo_91 : decode cX5_comeTo 91 = .ok (.ldc2_w 115, 3) := by decide +kernel
theorem dX5_comeTo_94 : decode cX5_comeTo 94 = .ok (.ladd, 1) := by decide +kernel
theorem dX5_comeTo_95 : decode cX5_comeTo 95 = .ok (.ldc2_w 117, 3) := by decide +kernel
theorem dX5_comeTo_98 : decode cX5_comeTo 98 = .ok (.land, 1) := by decide +kernel
theorem dX5_comeTo_99 : decode cX5_comeTo 99 = .ok (.l2i, 1) := by decide +kernel
theorem dX5_comeTo_100 : decode cX5_comeTo 100 = .ok (.putfield 35, 3) := by decide +kernel
theorem dX5_comeTo_103 : decode cX5_comeTo 103 = .ok (.aload_n 0, 1) := by decide +kernel
theorem dX5_comeTo_104 : decode cX5_comeTo 104 = .ok (.getfield 17, 3) := by decide +kernel
theorem dX5_comeTo_107 : decode cX5_comeTo 107 = .ok (.aload_n 0, 1) := by decide +kernel
theorem dX5_comeTo_108 : decode cX5_comeTo 108 = .ok (.getfield 39, 3) := by decide +kernel
theorem dX5_comeTo_111 : decode cX5_comeTo 111 = .ok (.aload_n 0, 1) := by decide +kernel
theorem dX5_comeTo_112 : decode cX5_comeTo 112 = .ok (.getfield 35, 3) := by decide +kernel
theorem dX5_comeTo_115 : decode cX5_comeTo 115 = .ok (.ldc 119, 2) := by decide +kernel
theorem dX5_comeTo_117 : decode cX5_comeTo 117 = .ok (.idiv, 1) := by decide +kernel
theorem dX5_comeTo_118 : decode cX5_comeTo 118 = .ok (.iload_n 3, 1) := by decide +kernel
theorem dX5_comeTo_119 : decode cX5_comeTo 119 = .ok (.irem, 1) := by decide +kernel
theorem dX5_comeTo_120 : decode cX5_comeTo 120 = .ok (.invokestatic 77, 3) := by decide +kernel
theorem dX5_comeTo_123 : decode cX5_comeTo 123 = .ok (.aload_n 0, 1) := by decide +kernel
theorem dX5_comeTo_124 : decode cX5_comeTo 124 = .ok (.getfield 21, 3) := by decide +kernel
theorem dX5_comeTo_127 : decode cX5_comeTo 127 = .ok (.aload_n 0, 1) := by decide +kernel
theorem dX5_comeTo_128 : decode cX5_comeTo 128 = .ok (.getfield 39, 3) := by decide +kernel
theorem dX5_comeTo_131 : decode cX5_comeTo 131 = .ok (.iconst 0, 1) := by decide +kernel
theorem dX5_comeTo_132 : decode cX5_comeTo 132 = .ok (.invokestatic 77, 3) := by decide +kernel
theorem dX5_comeTo_135 : decode cX5_comeTo 135 = .ok (.return_, 1) := by decide +kernel
def is_X5_comeTo (Rt : np_Rt) : List (Nat × np_Op) := [(0, np_push 1 (.int 0)), (1, nw_ist 1 3), (2, np_ild 1 3), (3, np_push 3 (.int 200)), (6, nq_ic (fun x y => y ≤ x) 58), (9, np_ald 1 2), (10, np_ald 1 1), (11, nw_callV 8 2 sp_X8_isOver 2 0 0 0 0), (14, nq_ifne 58), (17, np_ald 1 1), (18, np_ald 1 2), (19, nw_getf 8 2), (22, nw_callV 2 2 sp_X2_hasSlot 3 0 0 0 0), (25, nq_ifne 58), (28, np_ald 1 1), (29, np_ald 1 2), (30, nw_getf 8 2), (33, nw_callV 2 2 sp_X2_embraces 2 0 0 0 0), (36, nq_if (fun x => x = 0) 47), (39, np_ald 1 2), (40, np_ald 1 1), (41, nw_callV 8 2 sp_X8_enter 5 0 0 0 0), (44, np_goto 52), (47, np_ald 1 2), (48, np_ald 1 1), (49, nw_callV 8 2 sp_X8_finish 2 0 0 0 0), (52, nw_iinc 3 1), (55, np_goto 2), (58, np_ald 1 1), (59, np_ald 1 2), (60, nw_getf 8 2), (63, nq_call 2 sp_X5_choicesOf 2 0 0 0 0), (66, nw_ist 1 3), (67, np_ald 1 2), (68, np_ald 1 1), (69, nw_callV 8 2 sp_X8_isOver 2 0 0 0 0), (72, nq_ifne 80), (75, np_ild 1 3), (76, np_push 1 (.int 1)), (77, nq_ic (fun x y => y ≤ x) 81), (80, np_ret Rt), (81, np_ald 1 0), (82, np_push 3 (.long 1103515245)), (85, np_ald 1 0), (86, nw_getf 5 3), (89, np_i2l), (90, np_lb (fun x y => x * y)), (91, np_push 3 (.long 12345)), (94, np_lb (fun x y => x + y)), (95, np_push 3 (.long 2147483647)), (98, np_lb (fun x y => x &&& y)), (99, np_l2i), (100, nw_putf 5 3 (.int)), (103, np_ald 1 0), (104, nw_getf 5 1), (107, np_ald 1 0), (108, nw_getf 5 4), (111, np_ald 1 0), (112, nw_getf 5 3), (115, np_push 2 (.int 65536)), (117, nq_ibn (fun x y => x / y)), (118, np_ild 1 3), (119, nq_ibn (fun x y => x - x / y * y)), (120, nq_call 3 sp_X11_put 3 0 0 0 0), (123, np_ald 1 0), (124, nw_getf 5 2), (127, np_ald 1 0), (128, nw_getf 5 4), (131, np_push 1 (.int 0)), (132, nq_call 3 sp_X11_put 3 0 0 0 0), (135, np_ret Rt)]
set_option maxRecDepth 20000 in
theorem so_X5_comeTo {X : np_Ctx} {Rt : np_Rt} (hX : np_ok RX5 cX5_comeTo 4 3 67 0 0 .return_ X) (hR : ∀ st w ce sl, Rt st w ce sl → X.2.2.1 st w ce sl) : ∀ q ∈ is_X5_comeTo Rt, np_S X q.1 q.2 :=
  List.forall_mem_cons.mpr ⟨np_s_iconst hX dX5_comeTo_0 (by decide), List.forall_mem_cons.mpr ⟨np_S.mono (op := np_ist 1 3) (np_s_istore_n hX dX5_comeTo_1 rfl (by decide)) nw_ist_le, List.forall_mem_cons.mpr ⟨np_s_iload_n hX dX5_comeTo_2 rfl, List.forall_mem_cons.mpr ⟨np_s_sipush hX dX5_comeTo_3 (by decide), List.forall_mem_cons.mpr ⟨np_S.mono (op := np_ic (fun x y => y ≤ x) 58) (np_s_icmp_ge hX dX5_comeTo_6 (by decide)) nq_ic_le, List.forall_mem_cons.mpr ⟨np_s_aload_n hX dX5_comeTo_9 rfl, List.forall_mem_cons.mpr ⟨np_s_aload_n hX dX5_comeTo_10 rfl, List.forall_mem_cons.mpr ⟨np_S.mono (op := np_callV 8 2 sp_X8_isOver 2 0 0 0 0) (np_s_callV hX C_X8_isOver dX5_comeTo_11 (q := (RX8, TX8, 9)) rfl rfl gw758 gw66 gw755 gw756 gw757 ⟨by decide, by decide, by decide⟩ (by decide) (by decide)) nw_callV_le, List.forall_mem_cons.mpr ⟨np_S.mono (op := np_ifne 58) (np_s_if_ne hX dX5_comeTo_14 (by decide)) nq_ifne_le, List.forall_mem_cons.mpr ⟨np_s_aload_n hX dX5_comeTo_17 rfl, List.forall_mem_cons.mpr ⟨np_s_aload_n hX dX5_comeTo_18 rfl, List.forall_mem_cons.mpr ⟨np_S.mono (op := np_getf 8 2) (np_s_getN hX dX5_comeTo_19 (C := RX8) (T := TX8) (N := 9) rfl guX8 (by decide) gw150) nw_getf_le, List.forall_mem_cons.mpr ⟨np_S.mono (op := np_callV 2 2 sp_X2_hasSlot 3 0 0 0 0) (np_s_callV hX C_X2_hasSlot dX5_comeTo_22 (q := (RX2, TX2, 5)) rfl rfl gw646 gw64 gw759 gw644 gw645 ⟨by decide, by decide, by decide⟩ (by decide) (by decide)) nw_callV_le, List.forall_mem_cons.mpr ⟨np_S.mono (op := np_ifne 58) (np_s_if_ne hX dX5_comeTo_25 (by decide)) nq_ifne_le, List.forall_mem_cons.mpr ⟨np_s_aload_n hX dX5_comeTo_28 rfl, List.forall_mem_cons.mpr ⟨np_s_aload_n hX dX5_comeTo_29 rfl, List.forall_mem_cons.mpr ⟨np_S.mono (op := np_getf 8 2) (np_s_getN hX dX5_comeTo_30 (C := RX8) (T := TX8) (N := 9) rfl guX8 (by decide) gw150) nw_getf_le, List.forall_mem_cons.mpr ⟨np_S.mono (op := np_callV 2 2 sp_X2_embraces 2 0 0 0 0) (np_s_callV hX C_X2_embraces dX5_comeTo_33 (q := (RX2, TX2, 5)) rfl rfl gw665 gw64 gw760 gw663 gw664 ⟨by decide, by decide, by decide⟩ (by decide) (by decide)) nw_callV_le, List.forall_mem_cons.mpr ⟨np_S.mono (op := np_if (fun x => x = 0) 47) (np_s_if_eq hX dX5_comeTo_36 (by decide)) nq_if_le, List.forall_mem_cons.mpr ⟨np_s_aload_n hX dX5_comeTo_39 rfl, List.forall_mem_cons.mpr ⟨np_s_aload_n hX dX5_comeTo_40 rfl, List.forall_mem_cons.mpr ⟨np_S.mono (op := np_callV 8 2 sp_X8_enter 5 0 0 0 0) (np_s_callV hX C_X8_enter dX5_comeTo_41 (q := (RX8, TX8, 9)) rfl rfl gw764 gw66 gw761 gw762 gw763 ⟨by decide, by decide, by decide⟩ (by decide) (by decide)) nw_callV_le, List.forall_mem_cons.mpr ⟨np_s_goto hX dX5_comeTo_44 (by decide), List.forall_mem_cons.mpr ⟨np_s_aload_n hX dX5_comeTo_47 rfl, List.forall_mem_cons.mpr ⟨np_s_aload_n hX dX5_comeTo_48 rfl, List.forall_mem_cons.mpr ⟨np_S.mono (op := np_callV 8 2 sp_X8_finish 2 0 0 0 0) (np_s_callV hX C_X8_finish dX5_comeTo_49 (q := (RX8, TX8, 9)) rfl rfl gw775 gw66 gw772 gw773 gw774 ⟨by decide, by decide, by decide⟩ (by decide) (by decide)) nw_callV_le, List.forall_mem_cons.mpr ⟨np_S.mono (op := np_iinc 3 1) (np_s_iinc hX dX5_comeTo_52 (by decide)) nw_iinc_le, List.forall_mem_cons.mpr ⟨np_s_goto hX dX5_comeTo_55 (by decide), List.forall_mem_cons.mpr ⟨np_s_aload_n hX dX5_comeTo_58 rfl, List.forall_mem_cons.mpr ⟨np_s_aload_n hX dX5_comeTo_59 rfl, List.forall_mem_cons.mpr ⟨np_S.mono (op := np_getf 8 2) (np_s_getN hX dX5_comeTo_60 (C := RX8) (T := TX8) (N := 9) rfl guX8 (by decide) gw150) nw_getf_le, List.forall_mem_cons.mpr ⟨np_S.mono (op := np_call 2 sp_X5_choicesOf 2 0 0 0 0) (np_s_callS hX C_X5_choicesOf dX5_comeTo_63 gw778 gw69 gw776 gw777 ⟨by decide, by decide, by decide⟩ (by decide) (by decide)) nq_call_le, List.forall_mem_cons.mpr ⟨np_S.mono (op := np_ist 1 3) (np_s_istore_n hX dX5_comeTo_66 rfl (by decide)) nw_ist_le, List.forall_mem_cons.mpr ⟨np_s_aload_n hX dX5_comeTo_67 rfl, List.forall_mem_cons.mpr ⟨np_s_aload_n hX dX5_comeTo_68 rfl, List.forall_mem_cons.mpr ⟨np_S.mono (op := np_callV 8 2 sp_X8_isOver 2 0 0 0 0) (np_s_callV hX C_X8_isOver dX5_comeTo_69 (q := (RX8, TX8, 9)) rfl rfl gw758 gw66 gw755 gw756 gw757 ⟨by decide, by decide, by decide⟩ (by decide) (by decide)) nw_callV_le, List.forall_mem_cons.mpr ⟨np_S.mono (op := np_ifne 80) (np_s_if_ne hX dX5_comeTo_72 (by decide)) nq_ifne_le, List.forall_mem_cons.mpr ⟨np_s_iload_n hX dX5_comeTo_75 rfl, List.forall_mem_cons.mpr ⟨np_s_iconst hX dX5_comeTo_76 (by decide), List.forall_mem_cons.mpr ⟨np_S.mono (op := np_ic (fun x y => y ≤ x) 81) (np_s_icmp_ge hX dX5_comeTo_77 (by decide)) nq_ic_le, List.forall_mem_cons.mpr ⟨np_S.mono (op := np_ret X.2.2.1) (np_s_ret hX dX5_comeTo_80) (nq_ret_le hR), List.forall_mem_cons.mpr ⟨np_s_aload_n hX dX5_comeTo_81 rfl, List.forall_mem_cons.mpr ⟨np_s_ldc2 hX dX5_comeTo_82 gw784, List.forall_mem_cons.mpr ⟨np_s_aload_n hX dX5_comeTo_85 rfl, List.forall_mem_cons.mpr ⟨np_S.mono (op := np_getf 5 3) (np_s_getf hX dX5_comeTo_86 (C := RX5) (T := TX5) (N := 5) rfl guX5 (by decide) gw269) nw_getf_le, List.forall_mem_cons.mpr ⟨np_s_i2l hX dX5_comeTo_89, List.forall_mem_cons.mpr ⟨np_s_lmul hX dX5_comeTo_90, List.forall_mem_cons.mpr ⟨np_s_ldc2 hX dX5_comeTo_91 gw785, List.forall_mem_cons.mpr ⟨np_s_ladd hX dX5_comeTo_94, List.forall_mem_cons.mpr ⟨np_s_ldc2 hX dX5_comeTo_95 gw786, List.forall_mem_cons.mpr ⟨np_s_land hX dX5_comeTo_98, List.forall_mem_cons.mpr ⟨np_s_l2i hX dX5_comeTo_99, List.forall_mem_cons.mpr ⟨np_S.mono (op := np_putf 5 3 (.int)) (np_s_putf hX dX5_comeTo_100 (C := RX5) (T := TX5) (N := 5) (ty0 := tyX5) rfl guX5 tyX5_ok nmX5 (by decide) gw269 rfl rfl) nw_putf_le, List.forall_mem_cons.mpr ⟨np_s_aload_n hX dX5_comeTo_103 rfl, List.forall_mem_cons.mpr ⟨np_S.mono (op := np_getf 5 1) (np_s_getf hX dX5_comeTo_104 (C := RX5) (T := TX5) (N := 5) rfl guX5 (by decide) gw267) nw_getf_le, List.forall_mem_cons.mpr ⟨np_s_aload_n hX dX5_comeTo_107 rfl, List.forall_mem_cons.mpr ⟨np_S.mono (op := np_getf 5 4) (np_s_getf hX dX5_comeTo_108 (C := RX5) (T := TX5) (N := 5) rfl guX5 (by decide) gw270) nw_getf_le, List.forall_mem_cons.mpr ⟨np_s_aload_n hX dX5_comeTo_111 rfl, List.forall_mem_cons.mpr ⟨np_S.mono (op := np_getf 5 3) (np_s_getf hX dX5_comeTo_112 (C := RX5) (T := TX5) (N := 5) rfl guX5 (by decide) gw269) nw_getf_le, List.forall_mem_cons.mpr ⟨np_s_ldc hX dX5_comeTo_115 gw787, List.forall_mem_cons.mpr ⟨np_S.mono (op := np_ibn (fun x y => x / y)) (np_s_idiv hX dX5_comeTo_117) nq_ibn_le, List.forall_mem_cons.mpr ⟨np_s_iload_n hX dX5_comeTo_118 rfl, List.forall_mem_cons.mpr ⟨np_S.mono (op := np_ibn (fun x y => x - x / y * y)) (np_s_irem hX dX5_comeTo_119) nq_ibn_le, List.forall_mem_cons.mpr ⟨np_S.mono (op := np_call 3 sp_X11_put 3 0 0 0 0) (np_s_callSN hX C_X11_put dX5_comeTo_120 gw632 gw63 gw788 gw631 ⟨by decide, by decide, by decide⟩ (by decide) (by decide)) nq_call_le, List.forall_mem_cons.mpr ⟨np_s_aload_n hX dX5_comeTo_123 rfl, List.forall_mem_cons.mpr ⟨np_S.mono (op := np_getf 5 2) (np_s_getf hX dX5_comeTo_124 (C := RX5) (T := TX5) (N := 5) rfl guX5 (by decide) gw268) nw_getf_le, List.forall_mem_cons.mpr ⟨np_s_aload_n hX dX5_comeTo_127 rfl, List.forall_mem_cons.mpr ⟨np_S.mono (op := np_getf 5 4) (np_s_getf hX dX5_comeTo_128 (C := RX5) (T := TX5) (N := 5) rfl guX5 (by decide) gw270) nw_getf_le, List.forall_mem_cons.mpr ⟨np_s_iconst hX dX5_comeTo_131 (by decide), List.forall_mem_cons.mpr ⟨np_S.mono (op := np_call 3 sp_X11_put 3 0 0 0 0) (np_s_callSN hX C_X11_put dX5_comeTo_132 gw632 gw63 gw788 gw631 ⟨by decide, by decide, by decide⟩ (by decide) (by decide)) nq_call_le, List.forall_mem_cons.mpr ⟨np_S.mono (op := np_ret X.2.2.1) (np_s_ret hX dX5_comeTo_135) (nq_ret_le hR), fun _ h => nomatch h⟩⟩⟩⟩⟩⟩⟩⟩⟩⟩⟩⟩⟩⟩⟩⟩⟩⟩⟩⟩⟩⟩⟩⟩⟩⟩⟩⟩⟩⟩⟩⟩⟩⟩⟩⟩⟩⟩⟩⟩⟩⟩⟩⟩⟩⟩⟩⟩⟩⟩⟩⟩⟩⟩⟩⟩⟩⟩⟩⟩⟩⟩⟩⟩⟩⟩⟩⟩⟩⟩⟩
noncomputable def m_X5_comeTo_2 (k58 : pw_S → Nat → Nat → Nat → pw_R Unit) : Nat → pw_S → Nat → Nat → Nat → Int32 → pw_R Unit
| 0, _, _, _, _, _ => none
| N + 1, S, v0, v1, v2, v3 =>
 if 200 ≤ v3 then
 (k58 S v0 v1 v2)
 else
 (pw_b (m_X8_isOver S v2 v1) fun S1 r4 =>
 if r4 = 0 then
 (pw_b (m_X2_hasSlot S1 v1 (S1 50 v2 2)) fun S6 r9 =>
 if r9 = 0 then
 (pw_b (m_X2_embraces S6 v1 (S6 50 v2 2)) fun S11 r14 =>
 if r14 = 0 then
 (pw_b (m_X8_finish S11 v2 v1) fun S16 r19 =>
 pw_l (v3 + 1 : Int32) fun z21 =>
 m_X5_comeTo_2 k58 N S16 v0 v1 v2 z21)
 else
 (pw_b (m_X8_enter S11 v2 v1) fun S22 r25 =>
 pw_l (v3 + 1 : Int32) fun z27 =>
 m_X5_comeTo_2 k58 N S22 v0 v1 v2 z27))
 else
 (k58 S6 v0 v1 v2))
 else
 (k58 S1 v0 v1 v2))
set_option maxRecDepth 100000 in
set_option maxHeartbeats 8000000 in
theorem L_X5_comeTo_2 {X : np_Ctx} (hX : np_ok RX5 cX5_comeTo 4 3 67 0 0 .return_ X) {Q : Option Value → np_W → Prop} {q n : Nat} (hR : ∀ st w ce sl, np_rt none 0 0 Q st w ce sl → X.2.2.1 st w ce sl) {k58 : pw_S → Nat → Nat → Nat → pw_R Unit} (hk58 : ∀ (S : pw_S) (v0 : Nat) (v1 : Nat) (v2 : Nat) (f : Nat → Option np_E) (hv0 : pw_ok q 60 v0 = true) (hv1 : pw_ok q 51 v1 = true) (hv2 : pw_ok q 50 v2 = true), pw_W q (n, f) S → pw_p (k58 S v0 v1 v2) (fun S' r => ∀ f', pw_W q (n, f') S' → Q none (n, f')) → np_G X 58 [(0, .ref (pw_pl 60 v0)), (1, .ref (pw_pl 51 v1)), (2, .ref (pw_pl 50 v2))] [] (n, f) 0 0) : ∀ (N : Nat) (S : pw_S) (v0 : Nat) (v1 : Nat) (v2 : Nat) (v3 : Int32) (f : Nat → Option np_E) (hv0 : pw_ok q 60 v0 = true) (hv1 : pw_ok q 51 v1 = true) (hv2 : pw_ok q 50 v2 = true), pw_W q (n, f) S → pw_p (m_X5_comeTo_2 k58 N S v0 v1 v2 v3) (fun S' r => ∀ f', pw_W q (n, f') S' → Q none (n, f')) → np_G X 2 [(0, .ref (pw_pl 60 v0)), (1, .ref (pw_pl 51 v1)), (2, .ref (pw_pl 50 v2)), (3, .int v3)] [] (n, f) 0 0 := by
  intro N
  induction N with
  | zero =>
    intro S v0 v1 v2 v3 f hv0 hv1 hv2 hW h
    exact (pw_pn h).elim
  | succ N ih =>
    intro S v0 v1 v2 v3 f hv0 hv1 hv2 hW h
    unfold m_X5_comeTo_2 at h
    refine np_soundW (so_X5_comeTo hX hR) [2, 58] 400 2 _ _ _ _ _ ?_
    conv => whnf
    refine pw_br h (fun _ h => ?_) (fun _ h => ?_)
    · conv => whnf
      exact np_gl (hk58 S v0 v1 v2 f hv0 hv1 hv2 hW h) ⟨rfl, rfl, rfl, trivial⟩
    · conv => whnf
      refine np_rd_i (hW.g hv2) ?_
      conv => whnf
      refine ⟨q, S, v2, v1, rfl, hv2, hv1, hW, pw_bd h (fun S1 r4 h f2 hW3 => ?_)⟩
      conv => whnf
      refine pw_br h (fun _ h => ?_) (fun _ h => ?_)
      · conv => whnf
        refine np_rd_i (hW3.g hv2) ?_
        conv => whnf
        refine np_rd_i (hW3.g hv1) ?_
        conv => whnf
        refine ⟨q, S1, v1, (S1 50 v2 2), rfl, hv1, hW3, pw_bd h (fun S6 r9 h f7 hW8 => ?_)⟩
        conv => whnf
        refine pw_br h (fun _ h => ?_) (fun _ h => ?_)
        · conv => whnf
          refine np_rd_i (hW8.g hv2) ?_
          conv => whnf
          refine np_rd_i (hW8.g hv1) ?_
          conv => whnf
          refine ⟨q, S6, v1, (S6 50 v2 2), rfl, hv1, hW8, pw_bd h (fun S11 r14 h f12 hW13 => ?_)⟩
          conv => whnf
          refine pw_br h (fun _ h => ?_) (fun _ h => ?_)
          · conv => whnf
            refine np_rd_i (hW13.g hv2) ?_
            conv => whnf
            refine ⟨q, S11, v2, v1, rfl, hv2, hv1, hW13, pw_bd h (fun S16 r19 h f17 hW18 => ?_)⟩
            conv => whnf
            refine pw_st h (fun z21 h => ?_)
            conv => whnf
            exact np_gl (ih S16 v0 v1 v2 z21 f17 hv0 hv1 hv2 hW18 h) ⟨rfl, rfl, rfl, rfl, trivial⟩
          · conv => whnf
            refine np_rd_i (hW13.g hv2) ?_
            conv => whnf
            refine ⟨q, S11, v2, v1, rfl, hv2, hv1, hW13, pw_bd h (fun S22 r25 h f23 hW24 => ?_)⟩
            conv => whnf
            refine pw_st h (fun z27 h => ?_)
            conv => whnf
            exact np_gl (ih S22 v0 v1 v2 z27 f23 hv0 hv1 hv2 hW24 h) ⟨rfl, rfl, rfl, rfl, trivial⟩
        · conv => whnf
          exact np_gl (hk58 S6 v0 v1 v2 f7 hv0 hv1 hv2 hW8 h) ⟨rfl, rfl, rfl, trivial⟩
      · conv => whnf
        exact np_gl (hk58 S1 v0 v1 v2 f2 hv0 hv1 hv2 hW3 h) ⟨rfl, rfl, rfl, trivial⟩
noncomputable def m_X5_comeTo (S : pw_S) (i0 : Nat) (i1 : Nat) (i2 : Nat) : pw_R Unit :=
 pw_l (0 : Int32) fun z28 =>
 m_X5_comeTo_2
 (fun S35 u29 u31 u33 =>
 (pw_b (m_X5_choicesOf S35 u31 (S35 50 u33 2)) fun S38 r41 =>
 pw_l (r41 : Int32) fun z43 =>
 pw_b (m_X8_isOver S38 u33 u31) fun S44 r47 =>
 if r47 = 0 then
 (if 1 ≤ z43 then
 (pw_l (pw_up S44 60 u29 (upd (S44 60 u29) 3 (((((1103515245 * ((S44 60 u29 3) : Int32).toInt64) + 12345) &&& 2147483647) : Int64).toInt32))) fun S49 =>
 pw_c (!decide (z43 = 0)) <|
 pw_b (m_X11_put S49 33 0 (S49 60 u29 4) (((S49 60 u29 3) / 65536) - ((S49 60 u29 3) / 65536) / z43 * z43)) fun S52 r55 =>
 pw_b (m_X11_put S52 34 0 (S52 60 u29 4) 0) fun S57 r60 =>
 some (S57, ()))
 else
 (some (S44, ())))
 else
 (some (S44, ())))) (pw_F 20000) S i0 i1 i2 z28
def sp_X5_comeTo : np_Sp := fun vs w Q => ∃ (q : Nat) (S : pw_S) (i0 : Nat) (i1 : Nat) (i2 : Nat), vs = [.ref (pw_pl 60 i0), .ref (pw_pl 51 i1), .ref (pw_pl 50 i2)] ∧ pw_ok q 60 i0 = true ∧ pw_ok q 51 i1 = true ∧ pw_ok q 50 i2 = true ∧ pw_W q w S ∧ pw_p (m_X5_comeTo S i0 i1 i2) (fun S' r => ∀ f', pw_W q (w.1, f') S' → Q none (w.1, f'))
set_option maxRecDepth 100000 in
set_option maxHeartbeats 8000000 in
theorem C_X5_comeTo : np_C yX5_comeTo cX5_comeTo 4 none 3 67 0 0 sp_X5_comeTo := by
  refine np_of (by decide) ?_
  intro X vs w Q hsp hX hmn hRt hlt
  obtain ⟨q, S, i0, i1, i2, rfl, hi0, hi1, hi2, hW, h⟩ := hsp
  obtain ⟨n, f⟩ := w
  unfold m_X5_comeTo at h
  have hR : ∀ st w ce sl, np_rt none 0 0 Q st w ce sl → X.2.2.1 st w ce sl := fun _ _ _ _ h => by rw [hRt]; exact h
  refine np_soundW (so_X5_comeTo hX hR) [2] 400 0 _ _ _ _ _ ?_
  conv => whnf
  refine pw_st h (fun z28 h => ?_)
  conv => whnf
  refine np_gl (L_X5_comeTo_2 hX hR (fun S35 u29 u31 u33 f36 ho30 ho32 ho34 hW37 h => ?_) (pw_F 20000) S i0 i1 i2 z28 f hi0 hi1 hi2 hW h) ⟨rfl, rfl, rfl, rfl, trivial⟩
  · refine np_soundW (so_X5_comeTo hX hR) [2] 400 58 _ _ _ _ _ ?_
    conv => whnf
    refine np_rd_i (hW37.g ho34) ?_
    conv => whnf
    refine ⟨q, S35, u31, (S35 50 u33 2), rfl, ho32, hW37, pw_bd h (fun S38 r41 h f39 hW40 => ?_)⟩
    conv => whnf
    refine pw_st h (fun z43 h => ?_)
    conv => whnf
    refine np_rd_i (hW40.g ho34) ?_
    conv => whnf
    refine ⟨q, S38, u33, u31, rfl, ho34, ho32, hW40, pw_bd h (fun S44 r47 h f45 hW46 => ?_)⟩
    conv => whnf
    refine pw_br h (fun _ h => ?_) (fun _ h => ?_)
    · conv => whnf
      refine pw_br h (fun _ h => ?_) (fun _ h => ?_)
      · conv => whnf
        refine np_rd_i (hW46.g ho30) ?_
        conv => whnf
        refine np_rd_i (hW46.g ho30) ?_
        conv => whnf
        refine pw_wr (a := 60) (i := u29) (d := upd (S44 60 u29) 3 (((((1103515245 * ((S44 60 u29 3) : Int32).toInt64) + 12345) &&& 2147483647) : Int64).toInt32)) hW46 ho30 rfl h (fun S49 f50 hW51 h => ?_)
        conv => whnf
        refine np_rd_i (hW51.g ho30) ?_
        conv => whnf
        refine np_rd_i (hW51.g ho30) ?_
        conv => whnf
        refine np_rd_i (hW51.g ho30) ?_
        conv => whnf
        refine pw_ck h (fun _ h => ?_)
        conv => whnf
        refine ⟨q, S49, 33, 0, (S49 60 u29 4), (((S49 60 u29 3) / 65536) - ((S49 60 u29 3) / 65536) / z43 * z43), rfl, rfl, rfl, hW51, pw_bd h (fun S52 r55 h f53 hW54 => ?_)⟩
        conv => whnf
        refine np_rd_i (hW54.g ho30) ?_
        conv => whnf
        refine np_rd_i (hW54.g ho30) ?_
        conv => whnf
        refine ⟨q, S52, 34, 0, (S52 60 u29 4), 0, rfl, rfl, rfl, hW54, pw_bd h (fun S57 r60 h f58 hW59 => ?_)⟩
        conv => whnf
        exact ⟨Nat.le_of_ble_eq_true rfl, Nat.le_of_ble_eq_true rfl, rfl, _, fun _ _ h9 => h9, pw_ps h _ hW59⟩
      · conv => whnf
        exact ⟨Nat.le_of_ble_eq_true rfl, Nat.le_of_ble_eq_true rfl, rfl, _, fun _ _ h9 => h9, pw_ps h _ hW46⟩
    · conv => whnf
      exact ⟨Nat.le_of_ble_eq_true rfl, Nat.le_of_ble_eq_true rfl, rfl, _, fun _ _ h9 => h9, pw_ps h _ hW46⟩
theorem dX5_tryNext_0 : decode cX5_tryNext 0 = .ok (.aload_n 0, 1) := by decide +kernel
theorem dX5_tryNext_1 : decode cX5_tryNext 1 = .ok (.aload_n 0, 1) := by decide +kernel
theorem dX5_tryNext_2 : decode cX5_tryNext 2 = .ok (.getfield 39, 3) := by decide +kernel
theorem dX5_tryNext_5 : decode cX5_tryNext 5 = .ok (.iconst 1, 1) := by decide +kernel
theorem dX5_tryNext_6 : decode cX5_tryNext 6 = .ok (.iadd, 1) := by decide +kernel
theorem dX5_tryNext_7 : decode cX5_tryNext 7 = .ok (.invokevirtual 31, 3) := by decide +kernel
theorem dX5_tryNext_10 : decode cX5_tryNext 10 = .ok (.astore 4, 2) := by decide +kernel
theorem dX5_tryNext_12 : decode cX5_tryNext 12 = .ok (.aload 4, 2) := by decide +kernel
theorem dX5_tryNext_14 : decode cX5_tryNext 14 = .ok (.ifnull 8, 3) := by decide +kernel
theorem dX5_tryNext_17 : decode cX5_tryNext 17 = .ok (.iload_n 3, 1) := by decide +kernel
theorem dX5_tryNext_18 : decode cX5_tryNext 18 = .ok (.iconst 1, 1) := by decide +kernel
theorem dX5_tryNext_19 : decode cX5_tryNext 19 = .ok (.if_icmp .ge 4, 3) := by decide +kernel
theorem dX5_tryNext_22 : decode cX5_tryNext 22 = .ok (.return_, 1) := by decide +kernel
theorem dX5_tryNext_23 : decode cX5_tryNext 23 = .ok (.aload_n 0, 1) := by decide +kernel
theorem dX5_tryNext_24 : decode cX5_tryNext 24 = .ok (.getfield 17, 3) := by decide +kernel
theorem dX5_tryNext_27 : decode cX5_tryNext 27 = .ok (.aload_n 0, 1) := by decide +kernel
theorem dX5_tryNext_28 : decode cX5_tryNext 28 = .ok (.getfield 39, 3) := by decide +kernel
theorem dX5_tryNext_31 : decode cX5_tryNext 31 = .ok (.iconst 0, 1) := by decide +kernel
theorem dX5_tryNext_32 : decode cX5_tryNext 32 = .ok (.invokestatic 69, 3) := by decide +kernel
theorem dX5_tryNext_35 : decode cX5_tryNext 35 = .ok (.aload_n 0, 1) := by decide +kernel
theorem dX5_tryNext_36 : decode cX5_tryNext 36 = .ok (.getfield 21, 3) := by decide +kernel
theorem dX5_tryNext_39 : decode cX5_tryNext 39 = .ok (.aload_n 0, 1) := by decide +kernel
theorem dX5_tryNext_40 : decode cX5_tryNext 40 = .ok (.getfield 39, 3) := by decide +kernel
theorem dX5_tryNext_43 : decode cX5_tryNext 43 = .ok (.iconst 0, 1) := by decide +kernel
theorem dX5_tryNext_44 : decode cX5_tryNext 44 = .ok (.invokestatic 69, 3) := by decide +kernel
theorem dX5_tryNext_47 : decode cX5_tryNext 47 = .ok (.iadd, 1) := by decide +kernel
theorem dX5_tryNext_48 : decode cX5_tryNext 48 = .ok (.iload_n 3, 1) := by decide +kernel
theorem dX5_tryNext_49 : decode cX5_tryNext 49 = .ok (.irem, 1) := by decide +kernel
theorem dX5_tryNext_50 : decode cX5_tryNext 50 = .ok (.istore 5, 2) := by decide +kernel
theorem dX5_tryNext_52 : decode cX5_tryNext 52 = .ok (.aload_n 0, 1) := by decide +kernel
theorem dX5_tryNext_53 : decode cX5_tryNext 53 = .ok (.getfield 21, 3) := by decide +kernel
theorem dX5_tryNext_56 : decode cX5_tryNext 56 = .ok (.aload_n 0, 1) := by decide +kernel
theorem dX5_tryNext_57 : decode cX5_tryNext 57 = .ok (.getfield 39, 3) := by decide +kernel
theorem dX5_tryNext_60 : decode cX5_tryNext 60 = .ok (.aload_n 0, 1) := by decide +kernel
theorem dX5_tryNext_61 : decode cX5_tryNext 61 = .ok (.getfield 21, 3) := by decide +kernel
theorem dX5_tryNext_64 : decode cX5_tryNext 64 = .ok (.aload_n 0, 1) := by decide +kernel
theorem dX5_tryNext_65 : decode cX5_tryNext 65 = .ok (.getfield 39, 3) := by decide +kernel
theorem dX5_tryNext_68 : decode cX5_tryNext 68 = .ok (.iconst 0, 1) := by decide +kernel
theorem dX5_tryNext_69 : decode cX5_tryNext 69 = .ok (.invokestatic 69, 3) := by decide +kernel
theorem dX5_tryNext_72 : decode cX5_tryNext 72 = .ok (.iconst 1, 1) := by decide +kernel
theorem dX5_tryNext_73 : decode cX5_tryNext 73 = .ok (.iadd, 1) := by decide +kernel
theorem dX5_tryNext_74 : decode cX5_tryNext 74 = .ok (.invokestatic 77, 3) := by decide +kernel
theorem dX5_tryNext_77 : decode cX5_tryNext 77 = .ok (.aload 4, 2) := by decide +kernel
theorem dX5_tryNext_79 : decode cX5_tryNext 79 = .ok (.aload_n 2, 1) := by decide +kernel
theorem dX5_tryNext_80 : decode cX5_tryNext 80 = .ok (.invokevirtual 81, 3) := by decide +kernel
theorem dX5_tryNext_83 : decode cX5_tryNext 83 = .ok (.aload 4, 2) := by decide +kernel
theorem dX5_tryNext_85 : decode cX5_tryNext 85 = .ok (.aload_n 1, 1) := by decide +kernel
theorem dX5_tryNext_86 : decode cX5_tryNext 86 = .ok (.getfield 25, 3) := by decide +kernel
theorem dX5_tryNext_89 : decode cX5_tryNext 89 = .ok (.aload_n 2, 1) := by decide +kernel
theorem dX5_tryNext_90 : decode cX5_tryNext 90 = .ok (.getfield 49, 3) := by decide +kernel
theorem dX5_tryNext_93 : decode cX5_tryNext 93 = .ok (.invokevirtual 85, 3) := by decide +kernel
theorem dX5_tryNext_96 : decode cX5_tryNext 96 = .ok (.iload 5, 2) := by decide +kernel
theorem dX5_tryNext_98 : decode cX5_tryNext 98 = .ok (.invokevirtual 91, 3) := by decide +kernel
theorem dX5_tryNext_101 : decode cX5_tryNext 101 = .ok (.aload_n 1, 1) := by decide +kernel
theorem dX5_tryNext_102 : decode cX5_tryNext 102 = .ok (.aload 4, 2) := by decide +kernel
theorem dX5_tryNext_104 : decode cX5_tryNext 104 = .ok (.getfield 60, 3) := by decide +kernel
theorem dX5_tryNext_107 : decode cX5_tryNext 107 = .ok (.invokevirtual 95, 3) := by decide +kernel
theorem dX5_tryNext_110 : decode cX5_tryNext 110 = .ok (.ifCond .eq 4, 3) := by decide +kernel
theorem dX5_tryNext_113 : decode cX5_tryNext 113 = .ok (.return_, 1) := by decide +kernel
theorem dX5_tryNext_114 : decode cX5_tryNext 114 = .ok (.aload 4, 2) := by decide +kernel
theorem dX5_tryNext_116 : decode cX5_tryNext 116 = .ok (.aload_n 1, 1) := by decide +kernel
theorem dX5_tryNext_117 : decode cX5_tryNext 117 = .ok (.getfield 25, 3) := by decide +kernel
theorem dX5_tryNext_120 : decode cX5_tryNext 120 = .ok (.invokevirtual 99, 3) := by decide +kernel
theorem dX5_tryNext_123 : decode cX5_tryNext 123 = .ok (.aload_n 0, 1) := by decide +kernel
theorem dX5_tryNext_124 : decode cX5_tryNext 124 = .ok (.dup, 1) := by decide +kernel
theorem dX5_tryNext_125 : decode cX5_tryNext 125 = .ok (.getfield 39, 3) := by decide +kernel
theorem dX5_tryNext_128 : decode cX5_tryNext 128 = .ok (.iconst 1, 1) := by decide +kernel
theorem dX5_tryNext_129 : decode cX5_tryNext 129 = .ok (.iadd, 1) := by decide +kernel
theorem dX5_tryNext_130 : decode cX5_tryNext 130 = .ok (.putfield 39, 3) := by decide +kernel
theorem dX5_tryNext_133 : decode cX5_tryNext 133 = .ok (.aload_n 0, 1) := by decide +kernel
theorem dX5_tryNext_134 : decode cX5_tryNext 134 = .ok (.aload_n 1, 1) := by decide +kernel
theorem dX5_tryNext_135 : decode cX5_tryNext 135 = .ok (.getfield 25, 3) := by decide +kernel
theorem dX5_tryNext_138 : decode cX5_tryNext 138 = .ok (.aload 4, 2) := by decide +kernel
theorem dX5_tryNext_140 : decode cX5_tryNext 140 = .ok (.invokevirtual 45, 3) := by decide +kernel
theorem dX5_tryNext_143 : decode cX5_tryNext 143 = .ok (.return_, 1) := by decide +kernel
def is_X5_tryNext (Rt : np_Rt) : List (Nat × np_Op) := [(0, np_ald 1 0), (1, np_ald 1 0), (2, nw_getf 5 4), (5, np_push 1 (.int 1)), (6, np_ib (fun x y => x + y)), (7, nw_callV 5 2 sp_X5_levelAt 2 0 0 0 0), (10, np_ast 2 4), (12, np_ald 2 4), (14, np_ifnull 22), (17, np_ild 1 3), (18, np_push 1 (.int 1)), (19, nq_ic (fun x y => y ≤ x) 23), (22, np_ret Rt), (23, np_ald 1 0), (24, nw_getf 5 1), (27, np_ald 1 0), (28, nw_getf 5 4), (31, np_push 1 (.int 0)), (32, nq_call 3 sp_X11_at 3 0 0 0 0), (35, np_ald 1 0), (36, nw_getf 5 2), (39, np_ald 1 0), (40, nw_getf 5 4), (43, np_push 1 (.int 0)), (44, nq_call 3 sp_X11_at 3 0 0 0 0), (47, np_ib (fun x y => x + y)), (48, np_ild 1 3), (49, nq_ibn (fun x y => x - x / y * y)), (50, nw_ist 2 5), (52, np_ald 1 0), (53, nw_getf 5 2), (56, np_ald 1 0), (57, nw_getf 5 4), (60, np_ald 1 0), (61, nw_getf 5 2), (64, np_ald 1 0), (65, nw_getf 5 4), (68, np_push 1 (.int 0)), (69, nq_call 3 sp_X11_at 3 0 0 0 0), (72, np_push 1 (.int 1)), (73, np_ib (fun x y => x + y)), (74, nq_call 3 sp_X11_put 3 0 0 0 0), (77, np_ald 2 4), (79, np_ald 1 2), (80, nw_callV 8 2 sp_X8_copyFrom 2 0 0 0 0), (83, np_ald 2 4), (85, np_ald 1 1), (86, nw_getf 1 0), (89, np_ald 1 2), (90, nw_getf 8 2), (93, nw_callV 2 2 sp_X2_a 2 0 0 0 0), (96, np_ild 2 5), (98, nw_callV 8 3 sp_X8_keep 3 0 0 0 0), (101, np_ald 1 1), (102, np_ald 2 4), (104, nw_getf 8 0), (107, nw_callV 1 2 sp_X1_firstBroken 3 0 0 0 0), (110, nq_if (fun x => x = 0) 114), (113, np_ret Rt), (114, np_ald 2 4), (116, np_ald 1 1), (117, nw_getf 1 0), (120, nw_callV 8 2 sp_X8_finish 2 0 0 0 0), (123, np_ald 1 0), (124, nq_dup), (125, nw_getf 5 4), (128, np_push 1 (.int 1)), (129, np_ib (fun x y => x + y)), (130, nw_putf 5 4 (.int)), (133, np_ald 1 0), (134, np_ald 1 1), (135, nw_getf 1 0), (138, np_ald 2 4), (140, nw_callV 5 3 sp_X5_comeTo 4 0 0 0 0), (143, np_ret Rt)]
set_option maxRecDepth 20000 in
theorem so_X5_tryNext {X : np_Ctx} {Rt : np_Rt} (hX : np_ok RX5 cX5_tryNext 6 4 105 0 0 .return_ X) (hR : ∀ st w ce sl, Rt st w ce sl → X.2.2.1 st w ce sl) : ∀ q ∈ is_X5_tryNext Rt, np_S X q.1 q.2 :=
  List.forall_mem_cons.mpr ⟨np_s_aload_n hX dX5_tryNext_0 rfl, List.forall_mem_cons.mpr ⟨np_s_aload_n hX dX5_tryNext_1 rfl, List.forall_mem_cons.mpr ⟨np_S.mono (op := np_getf 5 4) (np_s_getf hX dX5_tryNext_2 (C := RX5) (T := TX5) (N := 5) rfl guX5 (by decide) gw270) nw_getf_le, List.forall_mem_cons.mpr ⟨np_s_iconst hX dX5_tryNext_5 (by decide), List.forall_mem_cons.mpr ⟨np_s_iadd hX dX5_tryNext_6, List.forall_mem_cons.mpr ⟨np_S.mono (op := np_callV 5 2 sp_X5_levelAt 2 0 0 0 0) (np_s_callV hX C_X5_levelAt dX5_tryNext_7 (q := (RX5, TX5, 5)) rfl rfl gw740 gw69 gw737 gw739 gw4 ⟨by decide, by decide, by decide⟩ (by decide) (by decide)) nw_callV_le, List.forall_mem_cons.mpr ⟨np_s_astore hX dX5_tryNext_10 (by decide), List.forall_mem_cons.mpr ⟨np_s_aload hX dX5_tryNext_12, List.forall_mem_cons.mpr ⟨np_s_ifnull hX dX5_tryNext_14 (by decide), List.forall_mem_cons.mpr ⟨np_s_iload_n hX dX5_tryNext_17 rfl, List.forall_mem_cons.mpr ⟨np_s_iconst hX dX5_tryNext_18 (by decide), List.forall_mem_cons.mpr ⟨np_S.mono (op := np_ic (fun x y => y ≤ x) 23) (np_s_icmp_ge hX dX5_tryNext_19 (by decide)) nq_ic_le, List.forall_mem_cons.mpr ⟨np_S.mono (op := np_ret X.2.2.1) (np_s_ret hX dX5_tryNext_22) (nq_ret_le hR), List.forall_mem_cons.mpr ⟨np_s_aload_n hX dX5_tryNext_23 rfl, List.forall_mem_cons.mpr ⟨np_S.mono (op := np_getf 5 1) (np_s_getf hX dX5_tryNext_24 (C := RX5) (T := TX5) (N := 5) rfl guX5 (by decide) gw267) nw_getf_le, List.forall_mem_cons.mpr ⟨np_s_aload_n hX dX5_tryNext_27 rfl, List.forall_mem_cons.mpr ⟨np_S.mono (op := np_getf 5 4) (np_s_getf hX dX5_tryNext_28 (C := RX5) (T := TX5) (N := 5) rfl guX5 (by decide) gw270) nw_getf_le, List.forall_mem_cons.mpr ⟨np_s_iconst hX dX5_tryNext_31 (by decide), List.forall_mem_cons.mpr ⟨np_S.mono (op := np_call 3 sp_X11_at 3 0 0 0 0) (np_s_callSN hX C_X11_at dX5_tryNext_32 gw653 gw63 gw882 gw652 ⟨by decide, by decide, by decide⟩ (by decide) (by decide)) nq_call_le, List.forall_mem_cons.mpr ⟨np_s_aload_n hX dX5_tryNext_35 rfl, List.forall_mem_cons.mpr ⟨np_S.mono (op := np_getf 5 2) (np_s_getf hX dX5_tryNext_36 (C := RX5) (T := TX5) (N := 5) rfl guX5 (by decide) gw268) nw_getf_le, List.forall_mem_cons.mpr ⟨np_s_aload_n hX dX5_tryNext_39 rfl, List.forall_mem_cons.mpr ⟨np_S.mono (op := np_getf 5 4) (np_s_getf hX dX5_tryNext_40 (C := RX5) (T := TX5) (N := 5) rfl guX5 (by decide) gw270) nw_getf_le, List.forall_mem_cons.mpr ⟨np_s_iconst hX dX5_tryNext_43 (by decide), List.forall_mem_cons.mpr ⟨np_S.mono (op := np_call 3 sp_X11_at 3 0 0 0 0) (np_s_callSN hX C_X11_at dX5_tryNext_44 gw653 gw63 gw882 gw652 ⟨by decide, by decide, by decide⟩ (by decide) (by decide)) nq_call_le, List.forall_mem_cons.mpr ⟨np_s_iadd hX dX5_tryNext_47, List.forall_mem_cons.mpr ⟨np_s_iload_n hX dX5_tryNext_48 rfl, List.forall_mem_cons.mpr ⟨np_S.mono (op := np_ibn (fun x y => x - x / y * y)) (np_s_irem hX dX5_tryNext_49) nq_ibn_le, List.forall_mem_cons.mpr ⟨np_S.mono (op := np_ist 2 5) (np_s_istore hX dX5_tryNext_50 (by decide)) nw_ist_le, List.forall_mem_cons.mpr ⟨np_s_aload_n hX dX5_tryNext_52 rfl, List.forall_mem_cons.mpr ⟨np_S.mono (op := np_getf 5 2) (np_s_getf hX dX5_tryNext_53 (C := RX5) (T := TX5) (N := 5) rfl guX5 (by decide) gw268) nw_getf_le, List.forall_mem_cons.mpr ⟨np_s_aload_n hX dX5_tryNext_56 rfl, List.forall_mem_cons.mpr ⟨np_S.mono (op := np_getf 5 4) (np_s_getf hX dX5_tryNext_57 (C := RX5) (T := TX5) (N := 5) rfl guX5 (by decide) gw270) nw_getf_le, List.forall_mem_cons.mpr ⟨np_s_aload_n hX dX5_tryNext_60 rfl, List.forall_mem_cons.mpr ⟨np_S.mono (op := np_getf 5 2) (np_s_getf hX dX5_tryNext_61 (C := RX5) (T := TX5) (N := 5) rfl guX5 (by decide) gw268) nw_getf_le, List.forall_mem_cons.mpr ⟨np_s_aload_n hX dX5_tryNext_64 rfl, List.forall_mem_cons.mpr ⟨np_S.mono (op := np_getf 5 4) (np_s_getf hX dX5_tryNext_65 (C := RX5) (T := TX5) (N := 5) rfl guX5 (by decide) gw270) nw_getf_le, List.forall_mem_cons.mpr ⟨np_s_iconst hX dX5_tryNext_68 (by decide), List.forall_mem_cons.mpr ⟨np_S.mono (op := np_call 3 sp_X11_at 3 0 0 0 0) (np_s_callSN hX C_X11_at dX5_tryNext_69 gw653 gw63 gw882 gw652 ⟨by decide, by decide, by decide⟩ (by decide) (by decide)) nq_call_le, List.forall_mem_cons.mpr ⟨np_s_iconst hX dX5_tryNext_72 (by decide), List.forall_mem_cons.mpr ⟨np_s_iadd hX dX5_tryNext_73, List.forall_mem_cons.mpr ⟨np_S.mono (op := np_call 3 sp_X11_put 3 0 0 0 0) (np_s_callSN hX C_X11_put dX5_tryNext_74 gw632 gw63 gw788 gw631 ⟨by decide, by decide, by decide⟩ (by decide) (by decide)) nq_call_le, List.forall_mem_cons.mpr ⟨np_s_aload hX dX5_tryNext_77, List.forall_mem_cons.mpr ⟨np_s_aload_n hX dX5_tryNext_79 rfl, List.forall_mem_cons.mpr ⟨np_S.mono (op := np_callV 8 2 sp_X8_copyFrom 2 0 0 0 0) (np_s_callV hX C_X8_copyFrom dX5_tryNext_80 (q := (RX8, TX8, 9)) rfl rfl gw890 gw66 gw887 gw888 gw889 ⟨by decide, by decide, by decide⟩ (by decide) (by decide)) nw_callV_le, List.forall_mem_cons.mpr ⟨np_s_aload hX dX5_tryNext_83, List.forall_mem_cons.mpr ⟨np_s_aload_n hX dX5_tryNext_85 rfl, List.forall_mem_cons.mpr ⟨np_S.mono (op := np_getf 1 0) (np_s_getN hX dX5_tryNext_86 (C := RX1) (T := TX1) (N := 7) rfl guX1 (by decide) gw314) nw_getf_le, List.forall_mem_cons.mpr ⟨np_s_aload_n hX dX5_tryNext_89 rfl, List.forall_mem_cons.mpr ⟨np_S.mono (op := np_getf 8 2) (np_s_getN hX dX5_tryNext_90 (C := RX8) (T := TX8) (N := 9) rfl guX8 (by decide) gw150) nw_getf_le, List.forall_mem_cons.mpr ⟨np_S.mono (op := np_callV 2 2 sp_X2_a 2 0 0 0 0) (np_s_callV hX C_X2_a dX5_tryNext_93 (q := (RX2, TX2, 5)) rfl rfl gw657 gw64 gw897 gw655 gw656 ⟨by decide, by decide, by decide⟩ (by decide) (by decide)) nw_callV_le, List.forall_mem_cons.mpr ⟨np_s_iload hX dX5_tryNext_96, List.forall_mem_cons.mpr ⟨np_S.mono (op := np_callV 8 3 sp_X8_keep 3 0 0 0 0) (np_s_callV hX C_X8_keep dX5_tryNext_98 (q := (RX8, TX8, 9)) rfl rfl gw818 gw66 gw898 gw816 gw817 ⟨by decide, by decide, by decide⟩ (by decide) (by decide)) nw_callV_le, List.forall_mem_cons.mpr ⟨np_s_aload_n hX dX5_tryNext_101 rfl, List.forall_mem_cons.mpr ⟨np_s_aload hX dX5_tryNext_102, List.forall_mem_cons.mpr ⟨np_S.mono (op := np_getf 8 0) (np_s_getN hX dX5_tryNext_104 (C := RX8) (T := TX8) (N := 9) rfl guX8 (by decide) gw146) nw_getf_le, List.forall_mem_cons.mpr ⟨np_S.mono (op := np_callV 1 2 sp_X1_firstBroken 3 0 0 0 0) (np_s_callV hX C_X1_firstBroken dX5_tryNext_107 (q := (RX1, TX1, 7)) rfl rfl gw902 gw71 gw899 gw900 gw901 ⟨by decide, by decide, by decide⟩ (by decide) (by decide)) nw_callV_le, List.forall_mem_cons.mpr ⟨np_S.mono (op := np_if (fun x => x = 0) 114) (np_s_if_eq hX dX5_tryNext_110 (by decide)) nq_if_le, List.forall_mem_cons.mpr ⟨np_S.mono (op := np_ret X.2.2.1) (np_s_ret hX dX5_tryNext_113) (nq_ret_le hR), List.forall_mem_cons.mpr ⟨np_s_aload hX dX5_tryNext_114, List.forall_mem_cons.mpr ⟨np_s_aload_n hX dX5_tryNext_116 rfl, List.forall_mem_cons.mpr ⟨np_S.mono (op := np_getf 1 0) (np_s_getN hX dX5_tryNext_117 (C := RX1) (T := TX1) (N := 7) rfl guX1 (by decide) gw314) nw_getf_le, List.forall_mem_cons.mpr ⟨np_S.mono (op := np_callV 8 2 sp_X8_finish 2 0 0 0 0) (np_s_callV hX C_X8_finish dX5_tryNext_120 (q := (RX8, TX8, 9)) rfl rfl gw775 gw66 gw772 gw773 gw774 ⟨by decide, by decide, by decide⟩ (by decide) (by decide)) nw_callV_le, List.forall_mem_cons.mpr ⟨np_s_aload_n hX dX5_tryNext_123 rfl, List.forall_mem_cons.mpr ⟨np_S.mono (op := np_dup) (np_s_dup hX dX5_tryNext_124) nq_dup_le, List.forall_mem_cons.mpr ⟨np_S.mono (op := np_getf 5 4) (np_s_getf hX dX5_tryNext_125 (C := RX5) (T := TX5) (N := 5) rfl guX5 (by decide) gw270) nw_getf_le, List.forall_mem_cons.mpr ⟨np_s_iconst hX dX5_tryNext_128 (by decide), List.forall_mem_cons.mpr ⟨np_s_iadd hX dX5_tryNext_129, List.forall_mem_cons.mpr ⟨np_S.mono (op := np_putf 5 4 (.int)) (np_s_putf hX dX5_tryNext_130 (C := RX5) (T := TX5) (N := 5) (ty0 := tyX5) rfl guX5 tyX5_ok nmX5 (by decide) gw270 rfl rfl) nw_putf_le, List.forall_mem_cons.mpr ⟨np_s_aload_n hX dX5_tryNext_133 rfl, List.forall_mem_cons.mpr ⟨np_s_aload_n hX dX5_tryNext_134 rfl, List.forall_mem_cons.mpr ⟨np_S.mono (op := np_getf 1 0) (np_s_getN hX dX5_tryNext_135 (C := RX1) (T := TX1) (N := 7) rfl guX1 (by decide) gw314) nw_getf_le, List.forall_mem_cons.mpr ⟨np_s_aload hX dX5_tryNext_138, List.forall_mem_cons.mpr ⟨np_S.mono (op := np_callV 5 3 sp_X5_comeTo 4 0 0 0 0) (np_s_callV hX C_X5_comeTo dX5_tryNext_140 (q := (RX5, TX5, 5)) rfl rfl gw754 gw69 gw751 gw753 gw6 ⟨by decide, by decide, by decide⟩ (by decide) (by decide)) nw_callV_le, List.forall_mem_cons.mpr ⟨np_S.mono (op := np_ret X.2.2.1) (np_s_ret hX dX5_tryNext_143) (nq_ret_le hR), fun _ h => nomatch h⟩⟩⟩⟩⟩⟩⟩⟩⟩⟩⟩⟩⟩⟩⟩⟩⟩⟩⟩⟩⟩⟩⟩⟩⟩⟩⟩⟩⟩⟩⟩⟩⟩⟩⟩⟩⟩⟩⟩⟩⟩⟩⟩⟩⟩⟩⟩⟩⟩⟩⟩⟩⟩⟩⟩⟩⟩⟩⟩⟩⟩⟩⟩⟩⟩⟩⟩⟩⟩⟩⟩⟩⟩⟩⟩
noncomputable def m_X5_tryNext (S : pw_S) (i0 : Nat) (i1 : Nat) (i2 : Nat) (x3 : Int32) : pw_R Unit :=
 pw_b (m_X5_levelAt S i0 ((S 60 i0 4) + 1)) fun S1 r4 =>
 pw_o r4 (
 (some (S1, ()))) (fun j6 =>
 (if 1 ≤ x3 then
 (pw_b (m_X11_at S1 33 0 (S1 60 i0 4) 0) fun S7 r10 =>
 pw_b (m_X11_at S7 34 0 (S7 60 i0 4) 0) fun S12 r15 =>
 pw_c (!decide (x3 = 0)) <|
 pw_l (((r10 + r15) - (r10 + r15) / x3 * x3) : Int32) fun z17 =>
 pw_b (m_X11_at S12 34 0 (S12 60 i0 4) 0) fun S18 r21 =>
 pw_b (m_X11_put S18 34 0 (S12 60 i0 4) (r21 + 1)) fun S23 r26 =>
 pw_b (m_X8_copyFrom S23 j6 i2) fun S28 r31 =>
 pw_b (m_X2_a S28 i1 (S28 50 i2 2)) fun S33 r36 =>
 pw_b (m_X8_keep S33 j6 r36 z17) fun S38 r41 =>
 pw_b (m_X1_firstBroken S38 i1 0 j6) fun S43 r46 =>
 if r46 = 0 then
 (pw_b (m_X8_finish S43 j6 i1) fun S48 r51 =>
 pw_l (pw_up S48 60 i0 (upd (S48 60 i0) 4 ((S48 60 i0 4) + 1))) fun S53 =>
 pw_b (m_X5_comeTo S53 i0 i1 j6) fun S56 r59 =>
 some (S56, ()))
 else
 (some (S43, ())))
 else
 (some (S1, ()))))
def sp_X5_tryNext : np_Sp := fun vs w Q => ∃ (q : Nat) (S : pw_S) (i0 : Nat) (i1 : Nat) (i2 : Nat) (x3 : Int32), vs = [.ref (pw_pl 60 i0), .ref (pw_pl 52 i1), .ref (pw_pl 50 i2), .int x3] ∧ pw_ok q 60 i0 = true ∧ pw_ok q 52 i1 = true ∧ pw_ok q 50 i2 = true ∧ pw_W q w S ∧ pw_p (m_X5_tryNext S i0 i1 i2 x3) (fun S' r => ∀ f', pw_W q (w.1, f') S' → Q none (w.1, f'))
set_option maxRecDepth 100000 in
set_option maxHeartbeats 8000000 in
theorem C_X5_tryNext : np_C yX5_tryNext cX5_tryNext 6 none 4 105 0 0 sp_X5_tryNext := by
  refine np_of (by decide) ?_
  intro X vs w Q hsp hX hmn hRt hlt
  obtain ⟨q, S, i0, i1, i2, x3, rfl, hi0, hi1, hi2, hW, h⟩ := hsp
  obtain ⟨n, f⟩ := w
  unfold m_X5_tryNext at h
  have hR : ∀ st w ce sl, np_rt none 0 0 Q st w ce sl → X.2.2.1 st w ce sl := fun _ _ _ _ h => by rw [hRt]; exact h
  refine np_soundW (so_X5_tryNext hX hR) [] 400 0 _ _ _ _ _ ?_
  conv => whnf
  refine np_rd_i (hW.g hi0) ?_
  conv => whnf
  refine np_rd_i (hW.g hi0) ?_
  conv => whnf
  refine ⟨q, S, i0, ((S 60 i0 4) + 1), rfl, hi0, hW, pw_bd h (fun S1 r4 h f2 hW3 ho5 => ?_)⟩
  rcases r4 with _ | j6
  · replace h := pw_on h
    conv => whnf
    exact ⟨Nat.le_of_ble_eq_true rfl, Nat.le_of_ble_eq_true rfl, rfl, _, fun _ _ h9 => h9, pw_ps h _ hW3⟩
  · replace h := pw_os h
    replace ho5 : pw_ok q 50 j6 = true := ho5
    conv => whnf
    refine pw_br h (fun _ h => ?_) (fun _ h => ?_)
    · conv => whnf
      refine np_rd_i (hW3.g hi0) ?_
      conv => whnf
      refine np_rd_i (hW3.g hi0) ?_
      conv => whnf
      refine ⟨q, S1, 33, 0, (S1 60 i0 4), 0, rfl, rfl, rfl, hW3, pw_bd h (fun S7 r10 h f8 hW9 => ?_)⟩
      conv => whnf
      refine np_rd_i (hW9.g hi0) ?_
      conv => whnf
      refine np_rd_i (hW9.g hi0) ?_
      conv => whnf
      refine ⟨q, S7, 34, 0, (S7 60 i0 4), 0, rfl, rfl, rfl, hW9, pw_bd h (fun S12 r15 h f13 hW14 => ?_)⟩
      conv => whnf
      refine pw_ck h (fun _ h => ?_)
      conv => whnf
      refine pw_st h (fun z17 h => ?_)
      conv => whnf
      refine np_rd_i (hW14.g hi0) ?_
      conv => whnf
      refine np_rd_i (hW14.g hi0) ?_
      conv => whnf
      refine np_rd_i (hW14.g hi0) ?_
      conv => whnf
      refine np_rd_i (hW14.g hi0) ?_
      conv => whnf
      refine ⟨q, S12, 34, 0, (S12 60 i0 4), 0, rfl, rfl, rfl, hW14, pw_bd h (fun S18 r21 h f19 hW20 => ?_)⟩
      conv => whnf
      refine ⟨q, S18, 34, 0, (S12 60 i0 4), (r21 + 1), rfl, rfl, rfl, hW20, pw_bd h (fun S23 r26 h f24 hW25 => ?_)⟩
      conv => whnf
      refine np_rd_i (hW25.g ho5) ?_
      conv => whnf
      refine ⟨q, S23, j6, i2, rfl, ho5, hi2, hW25, pw_bd h (fun S28 r31 h f29 hW30 => ?_)⟩
      conv => whnf
      refine np_rd_i (hW30.g hi1) ?_
      conv => whnf
      refine np_rd_i (hW30.g hi2) ?_
      conv => whnf
      refine np_rd_i (hW30.g (pw_okl (a := 52) (b := 51) rfl rfl rfl hi1)) ?_
      conv => whnf
      refine ⟨q, S28, i1, (S28 50 i2 2), rfl, (pw_okl (a := 52) (b := 51) rfl rfl rfl hi1), hW30, pw_bd h (fun S33 r36 h f34 hW35 => ?_)⟩
      conv => whnf
      refine np_rd_i (hW35.g ho5) ?_
      conv => whnf
      refine ⟨q, S33, j6, r36, z17, rfl, ho5, hW35, pw_bd h (fun S38 r41 h f39 hW40 => ?_)⟩
      conv => whnf
      refine np_rd_i (hW40.g ho5) ?_
      conv => whnf
      refine np_rd_i (hW40.g hi1) ?_
      conv => whnf
      refine ⟨q, S38, i1, 0, j6, rfl, hi1, rfl, ho5, hW40, pw_bd h (fun S43 r46 h f44 hW45 => ?_)⟩
      conv => whnf
      refine pw_br h (fun _ h => ?_) (fun _ h => ?_)
      · conv => whnf
        refine np_rd_i (hW45.g hi1) ?_
        conv => whnf
        refine np_rd_i (hW45.g ho5) ?_
        conv => whnf
        refine ⟨q, S43, j6, i1, rfl, ho5, (pw_okl (a := 52) (b := 51) rfl rfl rfl hi1), hW45, pw_bd h (fun S48 r51 h f49 hW50 => ?_)⟩
        conv => whnf
        refine np_rd_i (hW50.g hi0) ?_
        conv => whnf
        refine np_rd_i (hW50.g hi0) ?_
        conv => whnf
        refine pw_wr (a := 60) (i := i0) (d := upd (S48 60 i0) 4 ((S48 60 i0 4) + 1)) hW50 hi0 rfl h (fun S53 f54 hW55 h => ?_)
        conv => whnf
        refine np_rd_i (hW55.g hi1) ?_
        conv => whnf
        refine np_rd_i (hW55.g hi0) ?_
        conv => whnf
        refine ⟨q, S53, i0, i1, j6, rfl, hi0, (pw_okl (a := 52) (b := 51) rfl rfl rfl hi1), ho5, hW55, pw_bd h (fun S56 r59 h f57 hW58 => ?_)⟩
        conv => whnf
        exact ⟨Nat.le_of_ble_eq_true rfl, Nat.le_of_ble_eq_true rfl, rfl, _, fun _ _ h9 => h9, pw_ps h _ hW58⟩
      · conv => whnf
        exact ⟨Nat.le_of_ble_eq_true rfl, Nat.le_of_ble_eq_true rfl, rfl, _, fun _ _ h9 => h9, pw_ps h _ hW45⟩
    · conv => whnf
      exact ⟨Nat.le_of_ble_eq_true rfl, Nat.le_of_ble_eq_true rfl, rfl, _, fun _ _ h9 => h9, pw_ps h _ hW3⟩
theorem dX5_search_0 : decode cX5_search 0 = .ok (.aload_n 1, 1) := by decide +kernel
theorem dX5_search_1 : decode cX5_search 1 = .ok (.getfield 25, 3) := by decide +kernel
theorem dX5_search_4 : decode cX5_search 4 = .ok (.astore 4, 2) := by decide +kernel
theorem dX5_search_6 : decode cX5_search 6 = .ok (.aload_n 0, 1) := by decide +kernel
theorem dX5_search_7 : decode cX5_search 7 = .ok (.iconst 0, 1) := by decide +kernel
theorem dX5_search_8 : decode cX5_search 8 = .ok (.invokevirtual 31, 3) := by decide +kernel
theorem dX5_search_11 : decode cX5_search 11 = .ok (.astore 5, 2) := by decide +kernel
theorem dX5_search_13 : decode cX5_search 13 = .ok (.aload 5, 2) := by decide +kernel
theorem dX5_search_15 : decode cX5_search 15 = .ok (.ifnonnull 5, 3) := by decide +kernel
theorem dX5_search_18 : decode cX5_search 18 = .ok (.aconst_null, 1) := by decide +kernel
theorem dX5_search_19 : decode cX5_search 19 = .ok (.areturn, 1) := by decide +kernel
theorem dX5_search_20 : decode cX5_search 20 = .ok (.aload_n 0, 1) := by decide +kernel
theorem dX5_search_21 : decode cX5_search 21 = .ok (.iload_n 2, 1) := by decide +kernel
theorem dX5_search_22 : decode cX5_search 22 = .ok (.putfield 35, 3) := by decide +kernel
theorem dX5_search_25 : decode cX5_search 25 = .ok (.aload_n 0, 1) := by decide +kernel
theorem dX5_search_26 : decode cX5_search 26 = .ok (.iconst 0, 1) := by decide +kernel
theorem dX5_search_27 : decode cX5_search 27 = .ok (.putfield 39, 3) := by decide +kernel
theorem dX5_search_30 : decode cX5_search 30 = .ok (.aload 5, 2) := by decide +kernel
theorem dX5_search_32 : decode cX5_search 32 = .ok (.invokevirtual 42, 3) := by decide +kernel
theorem dX5_search_35 : decode cX5_search 35 = .ok (.aload_n 0, 1) := by decide +kernel
theorem dX5_search_36 : decode cX5_search 36 = .ok (.aload 4, 2) := by decide +kernel
theorem dX5_search_38 : decode cX5_search 38 = .ok (.aload 5, 2) := by decide +kernel
theorem dX5_search_40 : decode cX5_search 40 = .ok (.invokevirtual 45, 3) := by decide +kernel
theorem dX5_search_43 : decode cX5_search 43 = .ok (.iconst 0, 1) := by decide +kernel
theorem dX5_search_44 : decode cX5_search 44 = .ok (.istore 6, 2) := by decide +kernel
theorem dX5_search_46 : decode cX5_search 46 = .ok (.iconst 0, 1) := by decide +kernel
theorem dX5_search_47 : decode cX5_search 47 = .ok (.istore 7, 2) := by decide +kernel
theorem dX5_search_49 : decode cX5_search 49 = .ok (.iload 7, 2) := by decide +kernel
theorem dX5_search_51 : decode cX5_search 51 = .ok (.sipush 1500, 3) := by decide +kernel
theorem dX5_search_54 : decode cX5_search 54 = .ok (.if_icmp .gt 126, 3) := by decide +kernel
theorem dX5_search_57 : decode cX5_search 57 = .ok (.aload 5, 2) := by decide +kernel
theorem dX5_search_59 : decode cX5_search 59 = .ok (.ifnull 121, 3) := by decide +kernel
theorem dX5_search_62 : decode cX5_search 62 = .ok (.aload 4, 2) := by decide +kernel
theorem dX5_search_64 : decode cX5_search 64 = .ok (.aload 5, 2) := by decide +kernel
theorem dX5_search_66 : decode cX5_search 66 = .ok (.getfield 49, 3) := by decide +kernel
theorem dX5_search_69 : decode cX5_search 69 = .ok (.invokestatic 52, 3) := by decide +kernel
theorem dX5_search_72 : decode cX5_search 72 = .ok (.istore 8, 2) := by decide +kernel
theorem dX5_search_74 : decode cX5_search 74 = .ok (.aload 5, 2) := by decide +kernel
theorem dX5_search_76 : decode cX5_search 76 = .ok (.aload 4, 2) := by decide +kernel
theorem dX5_search_78 : decode cX5_search 78 = .ok (.invokevirtual 56, 3) := by decide +kernel
theorem dX5_search_81 : decode cX5_search 81 = .ok (.ifCond .eq 20, 3) := by decide +kernel
theorem dX5_search_84 : decode cX5_search 84 = .ok (.aload_n 3, 1) := by decide +kernel
theorem dX5_search_85 : decode cX5_search 85 = .ok (.aload 4, 2) := by decide +kernel
theorem dX5_search_87 : decode cX5_search 87 = .ok (.aload 5, 2) := by decide +kernel
theorem dX5_search_89 : decode cX5_search 89 = .ok (.getfield 60, 3) := by decide +kernel
theorem dX5_search_92 : decode cX5_search 92 = .ok (.invokevirtual 63, 3) := by decide +kernel
theorem dX5_search_95 : decode cX5_search 95 = .ok (.ifCond .eq 6, 3) := by decide +kernel
theorem dX5_search_98 : decode cX5_search 98 = .ok (.aload 5, 2) := by decide +kernel
theorem dX5_search_100 : decode cX5_search 100 = .ok (.areturn, 1) := by decide +kernel
theorem dX5_search_101 : decode cX5_search 101 = .ok (.aload 5, 2) := by decide +kernel
theorem dX5_search_103 : decode cX5_search 103 = .ok (.aload 4, 2) := by decide +kernel
theorem dX5_search_105 : decode cX5_search 105 = .ok (.invokevirtual 56, 3) := by decide +kernel
theorem dX5_search_108 : decode cX5_search 108 = .ok (.ifCond .ne 21, 3) := by decide +kernel
theorem dX5_search_111 : decode cX5_search 111 = .ok (.aload_n 0, 1) := by decide +kernel
theorem dX5_search_112 : decode cX5_search 112 = .ok (.getfield 21, 3) := by decide +kernel
theorem dX5_search_115 : decode cX5_search 115 = .ok (.aload_n 0, 1) := by decide +kernel
theorem dX5_search_116 : decode cX5_search 116 = .ok (.getfield 39, 3) := by decide +kernel
theorem dX5_search_119 : decode cX5_search 119 = .ok (.iload 8, 2) := by decide +kernel
theorem dX5_search_121 : decode cX5_search 121 = .ok (.invokestatic 69, 3) := by decide +kernel
theorem dX5_search_124 : decode cX5_search 124 = .ok (.iload 8, 2) := by decide +kernel
theorem dX5_search_126 : decode cX5_search 126 = .ok (.if_icmp .lt 16, 3) := by decide +kernel
theorem dX5_search_129 : decode cX5_search 129 = .ok (.aload_n 0, 1) := by decide +kernel
theorem dX5_search_130 : decode cX5_search 130 = .ok (.dup, 1) := by decide +kernel
theorem dX5_search_131 : decode cX5_search 131 = .ok (.getfield 39, 3) := by decide +kernel
theorem dX5_search_134 : decode cX5_search 134 = .ok (.iconst 1, 1) := by decide +kernel
theorem dX5_search_135 : decode cX5_search 135 = .ok (.isub, 1) := by decide +kernel
theorem dX5_search_136 : decode cX5_search 136 = .ok (.putfield 39, 3) := by decide +kernel
theorem dX5_search_139 : decode cX5_search 139 = .ok (.goto 25, 3) := by decide +kernel
theorem dX5_search_142 : decode cX5_search 142 = .ok (.iinc 6 1, 3) := by decide +kernel
theorem dX5_search_145 : decode cX5_search 145 = .ok (.iload 6, 2) := by decide +kernel
theorem dX5_search_147 : decode cX5_search 147 = .ok (.sipush 500, 3) := by decide +kernel
theorem dX5_search_150 : decode cX5_search 150 = .ok (.if_icmp .le 5, 3) := by decide +kernel
theorem dX5_search_153 : decode cX5_search 153 = .ok (.aconst_null, 1) := by decide +kernel
theorem dX5_search_154 : decode cX5_search 154 = .ok (.areturn, 1) := by decide +kernel
theorem dX5_search_155 : decode cX5_search 155 = .ok (.aload_n 0, 1) := by decide +kernel
theorem dX5_search_156 : decode cX5_search 156 = .ok (.aload_n 1, 1) := by decide +kernel
theorem dX5_search_157 : decode cX5_search 157 = .ok (.aload 5, 2) := by decide +kernel
theorem dX5_search_159 : decode cX5_search 159 = .ok (.iload 8, 2) := by decide +kernel
theorem dX5_search_161 : decode cX5_search 161 = .ok (.invokevirtual 73, 3) := by decide +kernel
theorem dX5_search_164 : decode cX5_search 164 = .ok (.aload_n 0, 1) := by decide +kernel
theorem dX5_search_165 : decode cX5_search 165 = .ok (.aload_n 0, 1) := by decide +kernel
theorem dX5_search_166 : decode cX5_search 166 = .ok (.getfield 39, 3) := by decide +kernel
theorem dX5_search_169 : decode cX5_search 169 = .ok (.invokevirtual 31, 3) := by decide +kernel
theorem dX5_search_172 : decode cX5_search 172 = .ok (.astore 5, 2) := by decide +kernel
theorem dX5_search_174 : decode cX5_search 174 = .ok (.iinc 7 1, 3) := by decide +kernel
theorem dX5_search_177 : decode cX5_search 177 = .ok (.goto (-128), 3) := by decide +kernel
theorem dX5_search_180 : decode cX5_search 180 = .ok (.aconst_null, 1) := by decide +kernel
theorem dX5_search_181 : decode cX5_search 181 = .ok (.areturn, 1) := by decide +kernel
def is_X5_search (Rt : np_Rt) : List (Nat × np_Op) := [(0, np_ald 1 1), (1, nw_getf 1 0), (4, np_ast 2 4), (6, np_ald 1 0), (7, np_push 1 (.int 0)), (8, nw_callV 5 2 sp_X5_levelAt 2 0 0 0 0), (11, np_ast 2 5), (13, np_ald 2 5), (15, np_ifnonnull 20), (18, np_push 1 .null), (19, np_ret Rt), (20, np_ald 1 0), (21, np_ild 1 2), (22, nw_putf 5 3 (.int)), (25, np_ald 1 0), (26, np_push 1 (.int 0)), (27, nw_putf 5 4 (.int)), (30, np_ald 2 5), (32, nw_callV 8 1 sp_X8_restart 1 0 0 0 0), (35, np_ald 1 0), (36, np_ald 2 4), (38, np_ald 2 5), (40, nw_callV 5 3 sp_X5_comeTo 4 0 0 0 0), (43, np_push 1 (.int 0)), (44, nw_ist 2 6), (46, np_push 1 (.int 0)), (47, nw_ist 2 7), (49, np_ild 2 7), (51, np_push 3 (.int 1500)), (54, nq_ic (fun x y => y < x) 180), (57, np_ald 2 5), (59, np_ifnull 180), (62, np_ald 2 4), (64, np_ald 2 5), (66, nw_getf 8 2), (69, nq_call 2 sp_X5_choicesOf 2 0 0 0 0), (72, nw_ist 2 8), (74, np_ald 2 5), (76, np_ald 2 4), (78, nw_callV 8 2 sp_X8_isOver 2 0 0 0 0), (81, nq_if (fun x => x = 0) 101), (84, np_ald 1 3), (85, np_ald 2 4), (87, np_ald 2 5), (89, nw_getf 8 0), (92, nw_callV 3 3 sp_X3_canPrint 5 0 0 0 0), (95, nq_if (fun x => x = 0) 101), (98, np_ald 2 5), (100, np_ret Rt), (101, np_ald 2 5), (103, np_ald 2 4), (105, nw_callV 8 2 sp_X8_isOver 2 0 0 0 0), (108, nq_ifne 129), (111, np_ald 1 0), (112, nw_getf 5 2), (115, np_ald 1 0), (116, nw_getf 5 4), (119, np_ild 2 8), (121, nq_call 3 sp_X11_at 3 0 0 0 0), (124, np_ild 2 8), (126, nq_ic (fun x y => x < y) 142), (129, np_ald 1 0), (130, nq_dup), (131, nw_getf 5 4), (134, np_push 1 (.int 1)), (135, np_ib (fun x y => x - y)), (136, nw_putf 5 4 (.int)), (139, np_goto 164), (142, nw_iinc 6 1), (145, np_ild 2 6), (147, np_push 3 (.int 500)), (150, nq_ic (fun x y => x ≤ y) 155), (153, np_push 1 .null), (154, np_ret Rt), (155, np_ald 1 0), (156, np_ald 1 1), (157, np_ald 2 5), (159, np_ild 2 8), (161, nw_callV 5 4 sp_X5_tryNext 6 0 0 0 0), (164, np_ald 1 0), (165, np_ald 1 0), (166, nw_getf 5 4), (169, nw_callV 5 2 sp_X5_levelAt 2 0 0 0 0), (172, np_ast 2 5), (174, nw_iinc 7 1), (177, np_goto 49), (180, np_push 1 .null), (181, np_ret Rt)]
set_option maxRecDepth 20000 in
theorem so_X5_search {X : np_Ctx} {Rt : np_Rt} (hX : np_ok RX5 cX5_search 9 6 138 0 0 .areturn X) (hR : ∀ st w ce sl, Rt st w ce sl → X.2.2.1 st w ce sl) : ∀ q ∈ is_X5_search Rt, np_S X q.1 q.2 :=
  List.forall_mem_cons.mpr ⟨np_s_aload_n hX dX5_search_0 rfl, List.forall_mem_cons.mpr ⟨np_S.mono (op := np_getf 1 0) (np_s_getN hX dX5_search_1 (C := RX1) (T := TX1) (N := 7) rfl guX1 (by decide) gw314) nw_getf_le, List.forall_mem_cons.mpr ⟨np_s_astore hX dX5_search_4 (by decide), List.forall_mem_cons.mpr ⟨np_s_aload_n hX dX5_search_6 rfl, List.forall_mem_cons.mpr ⟨np_s_iconst hX dX5_search_7 (by decide), List.forall_mem_cons.mpr ⟨np_S.mono (op := np_callV 5 2 sp_X5_levelAt 2 0 0 0 0) (np_s_callV hX C_X5_levelAt dX5_search_8 (q := (RX5, TX5, 5)) rfl rfl gw740 gw69 gw737 gw739 gw4 ⟨by decide, by decide, by decide⟩ (by decide) (by decide)) nw_callV_le, List.forall_mem_cons.mpr ⟨np_s_astore hX dX5_search_11 (by decide), List.forall_mem_cons.mpr ⟨np_s_aload hX dX5_search_13, List.forall_mem_cons.mpr ⟨np_s_ifnonnull hX dX5_search_15 (by decide), List.forall_mem_cons.mpr ⟨np_s_null hX dX5_search_18, List.forall_mem_cons.mpr ⟨np_S.mono (op := np_ret X.2.2.1) (np_s_ret hX dX5_search_19) (nq_ret_le hR), List.forall_mem_cons.mpr ⟨np_s_aload_n hX dX5_search_20 rfl, List.forall_mem_cons.mpr ⟨np_s_iload_n hX dX5_search_21 rfl, List.forall_mem_cons.mpr ⟨np_S.mono (op := np_putf 5 3 (.int)) (np_s_putf hX dX5_search_22 (C := RX5) (T := TX5) (N := 5) (ty0 := tyX5) rfl guX5 tyX5_ok nmX5 (by decide) gw269 rfl rfl) nw_putf_le, List.forall_mem_cons.mpr ⟨np_s_aload_n hX dX5_search_25 rfl, List.forall_mem_cons.mpr ⟨np_s_iconst hX dX5_search_26 (by decide), List.forall_mem_cons.mpr ⟨np_S.mono (op := np_putf 5 4 (.int)) (np_s_putf hX dX5_search_27 (C := RX5) (T := TX5) (N := 5) (ty0 := tyX5) rfl guX5 tyX5_ok nmX5 (by decide) gw270 rfl rfl) nw_putf_le, List.forall_mem_cons.mpr ⟨np_s_aload hX dX5_search_30, List.forall_mem_cons.mpr ⟨np_S.mono (op := np_callV 8 1 sp_X8_restart 1 0 0 0 0) (np_s_callV hX C_X8_restart dX5_search_32 (q := (RX8, TX8, 9)) rfl rfl gw744 gw66 gw741 gw742 gw743 ⟨by decide, by decide, by decide⟩ (by decide) (by decide)) nw_callV_le, List.forall_mem_cons.mpr ⟨np_s_aload_n hX dX5_search_35 rfl, List.forall_mem_cons.mpr ⟨np_s_aload hX dX5_search_36, List.forall_mem_cons.mpr ⟨np_s_aload hX dX5_search_38, List.forall_mem_cons.mpr ⟨np_S.mono (op := np_callV 5 3 sp_X5_comeTo 4 0 0 0 0) (np_s_callV hX C_X5_comeTo dX5_search_40 (q := (RX5, TX5, 5)) rfl rfl gw754 gw69 gw751 gw753 gw6 ⟨by decide, by decide, by decide⟩ (by decide) (by decide)) nw_callV_le, List.forall_mem_cons.mpr ⟨np_s_iconst hX dX5_search_43 (by decide), List.forall_mem_cons.mpr ⟨np_S.mono (op := np_ist 2 6) (np_s_istore hX dX5_search_44 (by decide)) nw_ist_le, List.forall_mem_cons.mpr ⟨np_s_iconst hX dX5_search_46 (by decide), List.forall_mem_cons.mpr ⟨np_S.mono (op := np_ist 2 7) (np_s_istore hX dX5_search_47 (by decide)) nw_ist_le, List.forall_mem_cons.mpr ⟨np_s_iload hX dX5_search_49, List.forall_mem_cons.mpr ⟨np_s_sipush hX dX5_search_51 (by decide), List.forall_mem_cons.mpr ⟨np_S.mono (op := np_ic (fun x y => y < x) 180) (np_s_icmp_gt hX dX5_search_54 (by decide)) nq_ic_le, List.forall_mem_cons.mpr ⟨np_s_aload hX dX5_search_57, List.forall_mem_cons.mpr ⟨np_s_ifnull hX dX5_search_59 (by decide), List.forall_mem_cons.mpr ⟨np_s_aload hX dX5_search_62, List.forall_mem_cons.mpr ⟨np_s_aload hX dX5_search_64, List.forall_mem_cons.mpr ⟨np_S.mono (op := np_getf 8 2) (np_s_getN hX dX5_search_66 (C := RX8) (T := TX8) (N := 9) rfl guX8 (by decide) gw150) nw_getf_le, List.forall_mem_cons.mpr ⟨np_S.mono (op := np_call 2 sp_X5_choicesOf 2 0 0 0 0) (np_s_callS hX C_X5_choicesOf dX5_search_69 gw778 gw69 gw776 gw777 ⟨by decide, by decide, by decide⟩ (by decide) (by decide)) nq_call_le, List.forall_mem_cons.mpr ⟨np_S.mono (op := np_ist 2 8) (np_s_istore hX dX5_search_72 (by decide)) nw_ist_le, List.forall_mem_cons.mpr ⟨np_s_aload hX dX5_search_74, List.forall_mem_cons.mpr ⟨np_s_aload hX dX5_search_76, List.forall_mem_cons.mpr ⟨np_S.mono (op := np_callV 8 2 sp_X8_isOver 2 0 0 0 0) (np_s_callV hX C_X8_isOver dX5_search_78 (q := (RX8, TX8, 9)) rfl rfl gw758 gw66 gw755 gw756 gw757 ⟨by decide, by decide, by decide⟩ (by decide) (by decide)) nw_callV_le, List.forall_mem_cons.mpr ⟨np_S.mono (op := np_if (fun x => x = 0) 101) (np_s_if_eq hX dX5_search_81 (by decide)) nq_if_le, List.forall_mem_cons.mpr ⟨np_s_aload_n hX dX5_search_84 rfl, List.forall_mem_cons.mpr ⟨np_s_aload hX dX5_search_85, List.forall_mem_cons.mpr ⟨np_s_aload hX dX5_search_87, List.forall_mem_cons.mpr ⟨np_S.mono (op := np_getf 8 0) (np_s_getN hX dX5_search_89 (C := RX8) (T := TX8) (N := 9) rfl guX8 (by decide) gw146) nw_getf_le, List.forall_mem_cons.mpr ⟨np_S.mono (op := np_callV 3 3 sp_X3_canPrint 5 0 0 0 0) (np_s_callV hX C_X3_canPrint dX5_search_92 (q := (RX3, TX3, 3)) rfl rfl gw792 gw65 gw789 gw790 gw791 ⟨by decide, by decide, by decide⟩ (by decide) (by decide)) nw_callV_le, List.forall_mem_cons.mpr ⟨np_S.mono (op := np_if (fun x => x = 0) 101) (np_s_if_eq hX dX5_search_95 (by decide)) nq_if_le, List.forall_mem_cons.mpr ⟨np_s_aload hX dX5_search_98, List.forall_mem_cons.mpr ⟨np_S.mono (op := np_ret X.2.2.1) (np_s_ret hX dX5_search_100) (nq_ret_le hR), List.forall_mem_cons.mpr ⟨np_s_aload hX dX5_search_101, List.forall_mem_cons.mpr ⟨np_s_aload hX dX5_search_103, List.forall_mem_cons.mpr ⟨np_S.mono (op := np_callV 8 2 sp_X8_isOver 2 0 0 0 0) (np_s_callV hX C_X8_isOver dX5_search_105 (q := (RX8, TX8, 9)) rfl rfl gw758 gw66 gw755 gw756 gw757 ⟨by decide, by decide, by decide⟩ (by decide) (by decide)) nw_callV_le, List.forall_mem_cons.mpr ⟨np_S.mono (op := np_ifne 129) (np_s_if_ne hX dX5_search_108 (by decide)) nq_ifne_le, List.forall_mem_cons.mpr ⟨np_s_aload_n hX dX5_search_111 rfl, List.forall_mem_cons.mpr ⟨np_S.mono (op := np_getf 5 2) (np_s_getf hX dX5_search_112 (C := RX5) (T := TX5) (N := 5) rfl guX5 (by decide) gw268) nw_getf_le, List.forall_mem_cons.mpr ⟨np_s_aload_n hX dX5_search_115 rfl, List.forall_mem_cons.mpr ⟨np_S.mono (op := np_getf 5 4) (np_s_getf hX dX5_search_116 (C := RX5) (T := TX5) (N := 5) rfl guX5 (by decide) gw270) nw_getf_le, List.forall_mem_cons.mpr ⟨np_s_iload hX dX5_search_119, List.forall_mem_cons.mpr ⟨np_S.mono (op := np_call 3 sp_X11_at 3 0 0 0 0) (np_s_callSN hX C_X11_at dX5_search_121 gw653 gw63 gw882 gw652 ⟨by decide, by decide, by decide⟩ (by decide) (by decide)) nq_call_le, List.forall_mem_cons.mpr ⟨np_s_iload hX dX5_search_124, List.forall_mem_cons.mpr ⟨np_S.mono (op := np_ic (fun x y => x < y) 142) (np_s_icmp_lt hX dX5_search_126 (by decide)) nq_ic_le, List.forall_mem_cons.mpr ⟨np_s_aload_n hX dX5_search_129 rfl, List.forall_mem_cons.mpr ⟨np_S.mono (op := np_dup) (np_s_dup hX dX5_search_130) nq_dup_le, List.forall_mem_cons.mpr ⟨np_S.mono (op := np_getf 5 4) (np_s_getf hX dX5_search_131 (C := RX5) (T := TX5) (N := 5) rfl guX5 (by decide) gw270) nw_getf_le, List.forall_mem_cons.mpr ⟨np_s_iconst hX dX5_search_134 (by decide), List.forall_mem_cons.mpr ⟨np_s_isub hX dX5_search_135, List.forall_mem_cons.mpr ⟨np_S.mono (op := np_putf 5 4 (.int)) (np_s_putf hX dX5_search_136 (C := RX5) (T := TX5) (N := 5) (ty0 := tyX5) rfl guX5 tyX5_ok nmX5 (by decide) gw270 rfl rfl) nw_putf_le, List.forall_mem_cons.mpr ⟨np_s_goto hX dX5_search_139 (by decide), List.forall_mem_cons.mpr ⟨np_S.mono (op := np_iinc 6 1) (np_s_iinc hX dX5_search_142 (by decide)) nw_iinc_le, List.forall_mem_cons.mpr ⟨np_s_iload hX dX5_search_145, List.forall_mem_cons.mpr ⟨np_s_sipush hX dX5_search_147 (by decide), List.forall_mem_cons.mpr ⟨np_S.mono (op := np_ic (fun x y => x ≤ y) 155) (np_s_icmp_le hX dX5_search_150 (by decide)) nq_ic_le, List.forall_mem_cons.mpr ⟨np_s_null hX dX5_search_153, List.forall_mem_cons.mpr ⟨np_S.mono (op := np_ret X.2.2.1) (np_s_ret hX dX5_search_154) (nq_ret_le hR), List.forall_mem_cons.mpr ⟨np_s_aload_n hX dX5_search_155 rfl, List.forall_mem_cons.mpr ⟨np_s_aload_n hX dX5_search_156 rfl, List.forall_mem_cons.mpr ⟨np_s_aload hX dX5_search_157, List.forall_mem_cons.mpr ⟨np_s_iload hX dX5_search_159, List.forall_mem_cons.mpr ⟨np_S.mono (op := np_callV 5 4 sp_X5_tryNext 6 0 0 0 0) (np_s_callV hX C_X5_tryNext dX5_search_161 (q := (RX5, TX5, 5)) rfl rfl gw886 gw69 gw883 gw885 gw15 ⟨by decide, by decide, by decide⟩ (by decide) (by decide)) nw_callV_le, List.forall_mem_cons.mpr ⟨np_s_aload_n hX dX5_search_164 rfl, List.forall_mem_cons.mpr ⟨np_s_aload_n hX dX5_search_165 rfl, List.forall_mem_cons.mpr ⟨np_S.mono (op := np_getf 5 4) (np_s_getf hX dX5_search_166 (C := RX5) (T := TX5) (N := 5) rfl guX5 (by decide) gw270) nw_getf_le, List.forall_mem_cons.mpr ⟨np_S.mono (op := np_callV 5 2 sp_X5_levelAt 2 0 0 0 0) (np_s_callV hX C_X5_levelAt dX5_search_169 (q := (RX5, TX5, 5)) rfl rfl gw740 gw69 gw737 gw739 gw4 ⟨by decide, by decide, by decide⟩ (by decide) (by decide)) nw_callV_le, List.forall_mem_cons.mpr ⟨np_s_astore hX dX5_search_172 (by decide), List.forall_mem_cons.mpr ⟨np_S.mono (op := np_iinc 7 1) (np_s_iinc hX dX5_search_174 (by decide)) nw_iinc_le, List.forall_mem_cons.mpr ⟨np_s_goto hX dX5_search_177 (by decide), List.forall_mem_cons.mpr ⟨np_s_null hX dX5_search_180, List.forall_mem_cons.mpr ⟨np_S.mono (op := np_ret X.2.2.1) (np_s_ret hX dX5_search_181) (nq_ret_le hR), fun _ h => nomatch h⟩⟩⟩⟩⟩⟩⟩⟩⟩⟩⟩⟩⟩⟩⟩⟩⟩⟩⟩⟩⟩⟩⟩⟩⟩⟩⟩⟩⟩⟩⟩⟩⟩⟩⟩⟩⟩⟩⟩⟩⟩⟩⟩⟩⟩⟩⟩⟩⟩⟩⟩⟩⟩⟩⟩⟩⟩⟩⟩⟩⟩⟩⟩⟩⟩⟩⟩⟩⟩⟩⟩⟩⟩⟩⟩⟩⟩⟩⟩⟩⟩⟩⟩⟩⟩⟩⟩⟩
noncomputable def m_X5_search_49 : Nat → pw_S → Nat → Nat → Nat → Nat → Option Nat → Int32 → Int32 → pw_R (Option Nat)
| 0, _, _, _, _, _, _, _, _ => none
| N + 1, S, v0, v1, v3, v4, v5, v6, v7 =>
 pw_o v5 (
 (if 1500 < v7 then
 (some (S, none))
 else
 (some (S, none)))) (fun j1 =>
 (if 1500 < v7 then
 (some (S, none))
 else
 (pw_b (m_X5_choicesOf S v4 (S 50 j1 2)) fun S2 r5 =>
 pw_l (r5 : Int32) fun z7 =>
 pw_b (m_X8_isOver S2 j1 v4) fun S8 r11 =>
 if r11 = 0 then
 (pw_b (m_X8_isOver S8 j1 v4) fun S13 r16 =>
 if r16 = 0 then
 (pw_b (m_X11_at S13 34 0 (S13 60 v0 4) z7) fun S18 r21 =>
 if r21 < z7 then
 (pw_l (v6 + 1 : Int32) fun z23 =>
 if z23 ≤ 500 then
 (pw_b (m_X5_tryNext S18 v0 v1 j1 z7) fun S24 r27 =>
 pw_b (m_X5_levelAt S24 v0 (S24 60 v0 4)) fun S29 r32 =>
 pw_o r32 (
 (pw_l (v7 + 1 : Int32) fun z35 =>
 m_X5_search_49 N S29 v0 v1 v3 v4 none z23 z35)) (fun j34 =>
 (pw_l (v7 + 1 : Int32) fun z36 =>
 m_X5_search_49 N S29 v0 v1 v3 v4 (some j34) z23 z36)))
 else
 (some (S18, none)))
 else
 (pw_l (pw_up S18 60 v0 (upd (S18 60 v0) 4 ((S18 60 v0 4) - 1))) fun S37 =>
 pw_b (m_X5_levelAt S37 v0 (S37 60 v0 4)) fun S40 r43 =>
 pw_o r43 (
 (pw_l (v7 + 1 : Int32) fun z46 =>
 m_X5_search_49 N S40 v0 v1 v3 v4 none v6 z46)) (fun j45 =>
 (pw_l (v7 + 1 : Int32) fun z47 =>
 m_X5_search_49 N S40 v0 v1 v3 v4 (some j45) v6 z47))))
 else
 (pw_l (pw_up S13 60 v0 (upd (S13 60 v0) 4 ((S13 60 v0 4) - 1))) fun S48 =>
 pw_b (m_X5_levelAt S48 v0 (S48 60 v0 4)) fun S51 r54 =>
 pw_o r54 (
 (pw_l (v7 + 1 : Int32) fun z57 =>
 m_X5_search_49 N S51 v0 v1 v3 v4 none v6 z57)) (fun j56 =>
 (pw_l (v7 + 1 : Int32) fun z58 =>
 m_X5_search_49 N S51 v0 v1 v3 v4 (some j56) v6 z58))))
 else
 (pw_b (m_X3_canPrint S8 v3 v4 0 j1) fun S59 r62 =>
 if r62 = 0 then
 (pw_b (m_X8_isOver S59 j1 v4) fun S64 r67 =>
 if r67 = 0 then
 (pw_b (m_X11_at S64 34 0 (S64 60 v0 4) z7) fun S69 r72 =>
 if r72 < z7 then
 (pw_l (v6 + 1 : Int32) fun z74 =>
 if z74 ≤ 500 then
 (pw_b (m_X5_tryNext S69 v0 v1 j1 z7) fun S75 r78 =>
 pw_b (m_X5_levelAt S75 v0 (S75 60 v0 4)) fun S80 r83 =>
 pw_o r83 (
 (pw_l (v7 + 1 : Int32) fun z86 =>
 m_X5_search_49 N S80 v0 v1 v3 v4 none z74 z86)) (fun j85 =>
 (pw_l (v7 + 1 : Int32) fun z87 =>
 m_X5_search_49 N S80 v0 v1 v3 v4 (some j85) z74 z87)))
 else
 (some (S69, none)))
 else
 (pw_l (pw_up S69 60 v0 (upd (S69 60 v0) 4 ((S69 60 v0 4) - 1))) fun S88 =>
 pw_b (m_X5_levelAt S88 v0 (S88 60 v0 4)) fun S91 r94 =>
 pw_o r94 (
 (pw_l (v7 + 1 : Int32) fun z97 =>
 m_X5_search_49 N S91 v0 v1 v3 v4 none v6 z97)) (fun j96 =>
 (pw_l (v7 + 1 : Int32) fun z98 =>
 m_X5_search_49 N S91 v0 v1 v3 v4 (some j96) v6 z98))))
 else
 (pw_l (pw_up S64 60 v0 (upd (S64 60 v0) 4 ((S64 60 v0 4) - 1))) fun S99 =>
 pw_b (m_X5_levelAt S99 v0 (S99 60 v0 4)) fun S102 r105 =>
 pw_o r105 (
 (pw_l (v7 + 1 : Int32) fun z108 =>
 m_X5_search_49 N S102 v0 v1 v3 v4 none v6 z108)) (fun j107 =>
 (pw_l (v7 + 1 : Int32) fun z109 =>
 m_X5_search_49 N S102 v0 v1 v3 v4 (some j107) v6 z109))))
 else
 (some (S59, some j1))))))
set_option maxRecDepth 100000 in
set_option maxHeartbeats 8000000 in
theorem L_X5_search_49 {X : np_Ctx} (hX : np_ok RX5 cX5_search 9 6 138 0 0 .areturn X) {Q : Option Value → np_W → Prop} {q n : Nat} (hR : ∀ st w ce sl, np_rt (some (.object "NotationPress$Trace")) 0 0 Q st w ce sl → X.2.2.1 st w ce sl) : ∀ (N : Nat) (S : pw_S) (v0 : Nat) (v1 : Nat) (v3 : Nat) (v4 : Nat) (v5 : Option Nat) (v6 : Int32) (v7 : Int32) (f : Nat → Option np_E) (hv0 : pw_ok q 60 v0 = true) (hv1 : pw_ok q 52 v1 = true) (hv3 : pw_ok q 58 v3 = true) (hv4 : pw_ok q 51 v4 = true) (hv5 : pw_oo q 50 v5 = true), pw_W q (n, f) S → pw_p (m_X5_search_49 N S v0 v1 v3 v4 v5 v6 v7) (fun S' r => ∀ f', pw_W q (n, f') S' → pw_oo q 50 r = true → Q (some (pw_v 50 r)) (n, f')) → np_G X 49 [(0, .ref (pw_pl 60 v0)), (1, .ref (pw_pl 52 v1)), (3, .ref (pw_pl 58 v3)), (4, .ref (pw_pl 51 v4)), (5, pw_v 50 v5), (6, .int v6), (7, .int v7)] [] (n, f) 0 0 := by
  intro N
  induction N with
  | zero =>
    intro S v0 v1 v3 v4 v5 v6 v7 f hv0 hv1 hv3 hv4 hv5 hW h
    exact (pw_pn h).elim
  | succ N ih =>
    intro S v0 v1 v3 v4 v5 v6 v7 f hv0 hv1 hv3 hv4 hv5 hW h
    unfold m_X5_search_49 at h
    rcases v5 with _ | j1
    · replace h := pw_on h
      refine np_soundW (so_X5_search hX hR) [49] 400 49 _ _ _ _ _ ?_
      conv => whnf
      refine pw_br h (fun _ h => ?_) (fun _ h => ?_)
      · conv => whnf
        exact ⟨Nat.le_of_ble_eq_true rfl, Nat.le_of_ble_eq_true rfl, Or.inl rfl, _, fun _ _ h9 => h9, pw_ps h _ hW rfl⟩
      · conv => whnf
        exact ⟨Nat.le_of_ble_eq_true rfl, Nat.le_of_ble_eq_true rfl, Or.inl rfl, _, fun _ _ h9 => h9, pw_ps h _ hW rfl⟩
    · replace h := pw_os h
      refine np_soundW (so_X5_search hX hR) [49] 400 49 _ _ _ _ _ ?_
      conv => whnf
      refine pw_br h (fun _ h => ?_) (fun _ h => ?_)
      · conv => whnf
        exact ⟨Nat.le_of_ble_eq_true rfl, Nat.le_of_ble_eq_true rfl, Or.inl rfl, _, fun _ _ h9 => h9, pw_ps h _ hW rfl⟩
      · conv => whnf
        refine np_rd_i (hW.g hv5) ?_
        conv => whnf
        refine ⟨q, S, v4, (S 50 j1 2), rfl, hv4, hW, pw_bd h (fun S2 r5 h f3 hW4 => ?_)⟩
        conv => whnf
        refine pw_st h (fun z7 h => ?_)
        conv => whnf
        refine np_rd_i (hW4.g hv5) ?_
        conv => whnf
        refine ⟨q, S2, j1, v4, rfl, hv5, hv4, hW4, pw_bd h (fun S8 r11 h f9 hW10 => ?_)⟩
        conv => whnf
        refine pw_br h (fun _ h => ?_) (fun _ h => ?_)
        · conv => whnf
          refine np_rd_i (hW10.g hv5) ?_
          conv => whnf
          refine ⟨q, S8, j1, v4, rfl, hv5, hv4, hW10, pw_bd h (fun S13 r16 h f14 hW15 => ?_)⟩
          conv => whnf
          refine pw_br h (fun _ h => ?_) (fun _ h => ?_)
          · conv => whnf
            refine np_rd_i (hW15.g hv0) ?_
            conv => whnf
            refine np_rd_i (hW15.g hv0) ?_
            conv => whnf
            refine ⟨q, S13, 34, 0, (S13 60 v0 4), z7, rfl, rfl, rfl, hW15, pw_bd h (fun S18 r21 h f19 hW20 => ?_)⟩
            conv => whnf
            refine pw_br h (fun _ h => ?_) (fun _ h => ?_)
            · conv => whnf
              refine pw_st h (fun z23 h => ?_)
              conv => whnf
              refine pw_br h (fun _ h => ?_) (fun _ h => ?_)
              · conv => whnf
                refine np_rd_i (hW20.g hv0) ?_
                conv => whnf
                refine ⟨q, S18, v0, v1, j1, z7, rfl, hv0, hv1, hv5, hW20, pw_bd h (fun S24 r27 h f25 hW26 => ?_)⟩
                conv => whnf
                refine np_rd_i (hW26.g hv0) ?_
                conv => whnf
                refine np_rd_i (hW26.g hv0) ?_
                conv => whnf
                refine ⟨q, S24, v0, (S24 60 v0 4), rfl, hv0, hW26, pw_bd h (fun S29 r32 h f30 hW31 ho33 => ?_)⟩
                rcases r32 with _ | j34
                · replace h := pw_on h
                  conv => whnf
                  refine pw_st h (fun z35 h => ?_)
                  conv => whnf
                  exact np_gl (ih S29 v0 v1 v3 v4 none z23 z35 f30 hv0 hv1 hv3 hv4 rfl hW31 h) ⟨rfl, rfl, rfl, rfl, rfl, rfl, rfl, trivial⟩
                · replace h := pw_os h
                  replace ho33 : pw_ok q 50 j34 = true := ho33
                  conv => whnf
                  refine pw_st h (fun z36 h => ?_)
                  conv => whnf
                  exact np_gl (ih S29 v0 v1 v3 v4 (some j34) z23 z36 f30 hv0 hv1 hv3 hv4 ho33 hW31 h) ⟨rfl, rfl, rfl, rfl, rfl, rfl, rfl, trivial⟩
              · conv => whnf
                exact ⟨Nat.le_of_ble_eq_true rfl, Nat.le_of_ble_eq_true rfl, Or.inl rfl, _, fun _ _ h9 => h9, pw_ps h _ hW20 rfl⟩
            · conv => whnf
              refine np_rd_i (hW20.g hv0) ?_
              conv => whnf
              refine np_rd_i (hW20.g hv0) ?_
              conv => whnf
              refine pw_wr (a := 60) (i := v0) (d := upd (S18 60 v0) 4 ((S18 60 v0 4) - 1)) hW20 hv0 rfl h (fun S37 f38 hW39 h => ?_)
              conv => whnf
              refine np_rd_i (hW39.g hv0) ?_
              conv => whnf
              refine np_rd_i (hW39.g hv0) ?_
              conv => whnf
              refine ⟨q, S37, v0, (S37 60 v0 4), rfl, hv0, hW39, pw_bd h (fun S40 r43 h f41 hW42 ho44 => ?_)⟩
              rcases r43 with _ | j45
              · replace h := pw_on h
                conv => whnf
                refine pw_st h (fun z46 h => ?_)
                conv => whnf
                exact np_gl (ih S40 v0 v1 v3 v4 none v6 z46 f41 hv0 hv1 hv3 hv4 rfl hW42 h) ⟨rfl, rfl, rfl, rfl, rfl, rfl, rfl, trivial⟩
              · replace h := pw_os h
                replace ho44 : pw_ok q 50 j45 = true := ho44
                conv => whnf
                refine pw_st h (fun z47 h => ?_)
                conv => whnf
                exact np_gl (ih S40 v0 v1 v3 v4 (some j45) v6 z47 f41 hv0 hv1 hv3 hv4 ho44 hW42 h) ⟨rfl, rfl, rfl, rfl, rfl, rfl, rfl, trivial⟩
          · conv => whnf
            refine np_rd_i (hW15.g hv0) ?_
            conv => whnf
            refine np_rd_i (hW15.g hv0) ?_
            conv => whnf
            refine pw_wr (a := 60) (i := v0) (d := upd (S13 60 v0) 4 ((S13 60 v0 4) - 1)) hW15 hv0 rfl h (fun S48 f49 hW50 h => ?_)
            conv => whnf
            refine np_rd_i (hW50.g hv0) ?_
            conv => whnf
            refine np_rd_i (hW50.g hv0) ?_
            conv => whnf
            refine ⟨q, S48, v0, (S48 60 v0 4), rfl, hv0, hW50, pw_bd h (fun S51 r54 h f52 hW53 ho55 => ?_)⟩
            rcases r54 with _ | j56
            · replace h := pw_on h
              conv => whnf
              refine pw_st h (fun z57 h => ?_)
              conv => whnf
              exact np_gl (ih S51 v0 v1 v3 v4 none v6 z57 f52 hv0 hv1 hv3 hv4 rfl hW53 h) ⟨rfl, rfl, rfl, rfl, rfl, rfl, rfl, trivial⟩
            · replace h := pw_os h
              replace ho55 : pw_ok q 50 j56 = true := ho55
              conv => whnf
              refine pw_st h (fun z58 h => ?_)
              conv => whnf
              exact np_gl (ih S51 v0 v1 v3 v4 (some j56) v6 z58 f52 hv0 hv1 hv3 hv4 ho55 hW53 h) ⟨rfl, rfl, rfl, rfl, rfl, rfl, rfl, trivial⟩
        · conv => whnf
          refine np_rd_i (hW10.g hv5) ?_
          conv => whnf
          refine np_rd_i (hW10.g hv3) ?_
          conv => whnf
          refine ⟨q, S8, v3, v4, 0, j1, rfl, hv3, hv4, rfl, hv5, hW10, pw_bd h (fun S59 r62 h f60 hW61 => ?_)⟩
          conv => whnf
          refine pw_br h (fun _ h => ?_) (fun _ h => ?_)
          · conv => whnf
            refine np_rd_i (hW61.g hv5) ?_
            conv => whnf
            refine ⟨q, S59, j1, v4, rfl, hv5, hv4, hW61, pw_bd h (fun S64 r67 h f65 hW66 => ?_)⟩
            conv => whnf
            refine pw_br h (fun _ h => ?_) (fun _ h => ?_)
            · conv => whnf
              refine np_rd_i (hW66.g hv0) ?_
              conv => whnf
              refine np_rd_i (hW66.g hv0) ?_
              conv => whnf
              refine ⟨q, S64, 34, 0, (S64 60 v0 4), z7, rfl, rfl, rfl, hW66, pw_bd h (fun S69 r72 h f70 hW71 => ?_)⟩
              conv => whnf
              refine pw_br h (fun _ h => ?_) (fun _ h => ?_)
              · conv => whnf
                refine pw_st h (fun z74 h => ?_)
                conv => whnf
                refine pw_br h (fun _ h => ?_) (fun _ h => ?_)
                · conv => whnf
                  refine np_rd_i (hW71.g hv0) ?_
                  conv => whnf
                  refine ⟨q, S69, v0, v1, j1, z7, rfl, hv0, hv1, hv5, hW71, pw_bd h (fun S75 r78 h f76 hW77 => ?_)⟩
                  conv => whnf
                  refine np_rd_i (hW77.g hv0) ?_
                  conv => whnf
                  refine np_rd_i (hW77.g hv0) ?_
                  conv => whnf
                  refine ⟨q, S75, v0, (S75 60 v0 4), rfl, hv0, hW77, pw_bd h (fun S80 r83 h f81 hW82 ho84 => ?_)⟩
                  rcases r83 with _ | j85
                  · replace h := pw_on h
                    conv => whnf
                    refine pw_st h (fun z86 h => ?_)
                    conv => whnf
                    exact np_gl (ih S80 v0 v1 v3 v4 none z74 z86 f81 hv0 hv1 hv3 hv4 rfl hW82 h) ⟨rfl, rfl, rfl, rfl, rfl, rfl, rfl, trivial⟩
                  · replace h := pw_os h
                    replace ho84 : pw_ok q 50 j85 = true := ho84
                    conv => whnf
                    refine pw_st h (fun z87 h => ?_)
                    conv => whnf
                    exact np_gl (ih S80 v0 v1 v3 v4 (some j85) z74 z87 f81 hv0 hv1 hv3 hv4 ho84 hW82 h) ⟨rfl, rfl, rfl, rfl, rfl, rfl, rfl, trivial⟩
                · conv => whnf
                  exact ⟨Nat.le_of_ble_eq_true rfl, Nat.le_of_ble_eq_true rfl, Or.inl rfl, _, fun _ _ h9 => h9, pw_ps h _ hW71 rfl⟩
              · conv => whnf
                refine np_rd_i (hW71.g hv0) ?_
                conv => whnf
                refine np_rd_i (hW71.g hv0) ?_
                conv => whnf
                refine pw_wr (a := 60) (i := v0) (d := upd (S69 60 v0) 4 ((S69 60 v0 4) - 1)) hW71 hv0 rfl h (fun S88 f89 hW90 h => ?_)
                conv => whnf
                refine np_rd_i (hW90.g hv0) ?_
                conv => whnf
                refine np_rd_i (hW90.g hv0) ?_
                conv => whnf
                refine ⟨q, S88, v0, (S88 60 v0 4), rfl, hv0, hW90, pw_bd h (fun S91 r94 h f92 hW93 ho95 => ?_)⟩
                rcases r94 with _ | j96
                · replace h := pw_on h
                  conv => whnf
                  refine pw_st h (fun z97 h => ?_)
                  conv => whnf
                  exact np_gl (ih S91 v0 v1 v3 v4 none v6 z97 f92 hv0 hv1 hv3 hv4 rfl hW93 h) ⟨rfl, rfl, rfl, rfl, rfl, rfl, rfl, trivial⟩
                · replace h := pw_os h
                  replace ho95 : pw_ok q 50 j96 = true := ho95
                  conv => whnf
                  refine pw_st h (fun z98 h => ?_)
                  conv => whnf
                  exact np_gl (ih S91 v0 v1 v3 v4 (some j96) v6 z98 f92 hv0 hv1 hv3 hv4 ho95 hW93 h) ⟨rfl, rfl, rfl, rfl, rfl, rfl, rfl, trivial⟩
            · conv => whnf
              refine np_rd_i (hW66.g hv0) ?_
              conv => whnf
              refine np_rd_i (hW66.g hv0) ?_
              conv => whnf
              refine pw_wr (a := 60) (i := v0) (d := upd (S64 60 v0) 4 ((S64 60 v0 4) - 1)) hW66 hv0 rfl h (fun S99 f100 hW101 h => ?_)
              conv => whnf
              refine np_rd_i (hW101.g hv0) ?_
              conv => whnf
              refine np_rd_i (hW101.g hv0) ?_
              conv => whnf
              refine ⟨q, S99, v0, (S99 60 v0 4), rfl, hv0, hW101, pw_bd h (fun S102 r105 h f103 hW104 ho106 => ?_)⟩
              rcases r105 with _ | j107
              · replace h := pw_on h
                conv => whnf
                refine pw_st h (fun z108 h => ?_)
                conv => whnf
                exact np_gl (ih S102 v0 v1 v3 v4 none v6 z108 f103 hv0 hv1 hv3 hv4 rfl hW104 h) ⟨rfl, rfl, rfl, rfl, rfl, rfl, rfl, trivial⟩
              · replace h := pw_os h
                replace ho106 : pw_ok q 50 j107 = true := ho106
                conv => whnf
                refine pw_st h (fun z109 h => ?_)
                conv => whnf
                exact np_gl (ih S102 v0 v1 v3 v4 (some j107) v6 z109 f103 hv0 hv1 hv3 hv4 ho106 hW104 h) ⟨rfl, rfl, rfl, rfl, rfl, rfl, rfl, trivial⟩
          · conv => whnf
            exact ⟨Nat.le_of_ble_eq_true rfl, Nat.le_of_ble_eq_true rfl, Or.inr ⟨_, rfl⟩, _, fun _ _ h9 => h9, pw_ps h _ hW61 hv5⟩
noncomputable def m_X5_search (S : pw_S) (i0 : Nat) (i1 : Nat) (x2 : Int32) (i3 : Nat) : pw_R (Option Nat) :=
 pw_b (m_X5_levelAt S i0 0) fun S110 r113 =>
 pw_o r113 (
 (some (S110, none))) (fun j115 =>
 (pw_l (pw_up S110 60 i0 (upd (S110 60 i0) 3 x2)) fun S116 =>
 pw_l (pw_up S116 60 i0 (upd (S116 60 i0) 4 0)) fun S119 =>
 pw_b (m_X8_restart S119 j115) fun S122 r125 =>
 pw_b (m_X5_comeTo S122 i0 i1 j115) fun S127 r130 =>
 pw_l (0 : Int32) fun z132 =>
 pw_l (0 : Int32) fun z133 =>
 m_X5_search_49 (pw_F 2000) S127 i0 i1 i3 i1 (some j115) z132 z133))
def sp_X5_search : np_Sp := fun vs w Q => ∃ (q : Nat) (S : pw_S) (i0 : Nat) (i1 : Nat) (x2 : Int32) (i3 : Nat), vs = [.ref (pw_pl 60 i0), .ref (pw_pl 52 i1), .int x2, .ref (pw_pl 58 i3)] ∧ pw_ok q 60 i0 = true ∧ pw_ok q 52 i1 = true ∧ pw_ok q 58 i3 = true ∧ pw_W q w S ∧ pw_p (m_X5_search S i0 i1 x2 i3) (fun S' r => ∀ f', pw_W q (w.1, f') S' → pw_oo q 50 r = true → Q (some (pw_v 50 r)) (w.1, f'))
set_option maxRecDepth 100000 in
set_option maxHeartbeats 8000000 in
theorem C_X5_search : np_C yX5_search cX5_search 9 (some (.object "NotationPress$Trace")) 6 138 0 0 sp_X5_search := by
  refine np_of (by decide) ?_
  intro X vs w Q hsp hX hmn hRt hlt
  obtain ⟨q, S, i0, i1, x2, i3, rfl, hi0, hi1, hi3, hW, h⟩ := hsp
  obtain ⟨n, f⟩ := w
  unfold m_X5_search at h
  have hR : ∀ st w ce sl, np_rt (some (.object "NotationPress$Trace")) 0 0 Q st w ce sl → X.2.2.1 st w ce sl := fun _ _ _ _ h => by rw [hRt]; exact h
  refine np_soundW (so_X5_search hX hR) [49] 400 0 _ _ _ _ _ ?_
  conv => whnf
  refine np_rd_i (hW.g hi1) ?_
  conv => whnf
  refine np_rd_i (hW.g hi0) ?_
  conv => whnf
  refine ⟨q, S, i0, 0, rfl, hi0, hW, pw_bd h (fun S110 r113 h f111 hW112 ho114 => ?_)⟩
  rcases r113 with _ | j115
  · replace h := pw_on h
    conv => whnf
    exact ⟨Nat.le_of_ble_eq_true rfl, Nat.le_of_ble_eq_true rfl, Or.inl rfl, _, fun _ _ h9 => h9, pw_ps h _ hW112 rfl⟩
  · replace h := pw_os h
    replace ho114 : pw_ok q 50 j115 = true := ho114
    conv => whnf
    refine np_rd_i (hW112.g hi0) ?_
    conv => whnf
    refine pw_wr (a := 60) (i := i0) (d := upd (S110 60 i0) 3 x2) hW112 hi0 rfl h (fun S116 f117 hW118 h => ?_)
    conv => whnf
    refine np_rd_i (hW118.g hi0) ?_
    conv => whnf
    refine pw_wr (a := 60) (i := i0) (d := upd (S116 60 i0) 4 0) hW118 hi0 rfl h (fun S119 f120 hW121 h => ?_)
    conv => whnf
    refine np_rd_i (hW121.g ho114) ?_
    conv => whnf
    refine ⟨q, S119, j115, rfl, ho114, hW121, pw_bd h (fun S122 r125 h f123 hW124 => ?_)⟩
    conv => whnf
    refine np_rd_i (hW124.g hi0) ?_
    conv => whnf
    refine ⟨q, S122, i0, i1, j115, rfl, hi0, (pw_okl (a := 52) (b := 51) rfl rfl rfl hi1), ho114, hW124, pw_bd h (fun S127 r130 h f128 hW129 => ?_)⟩
    conv => whnf
    refine pw_st h (fun z132 h => ?_)
    conv => whnf
    refine pw_st h (fun z133 h => ?_)
    conv => whnf
    exact np_gl (L_X5_search_49 hX hR (pw_F 2000) S127 i0 i1 i3 i1 (some j115) z132 z133 f128 hi0 hi1 hi3 (pw_okl (a := 52) (b := 51) rfl rfl rfl hi1) ho114 hW129 h) ⟨rfl, rfl, rfl, rfl, rfl, rfl, rfl, trivial⟩
theorem dX6_restart_0 : decode cX6_restart 0 = .ok (.aload_n 0, 1) := by decide +kernel
theorem dX6_restart_1 : decode cX6_restart 1 = .ok (.aload_n 1, 1) := by decide +kernel
theorem dX6_restart_2 : decode cX6_restart 2 = .ok (.putfield 31, 3) := by decide +kernel
theorem dX6_restart_5 : decode cX6_restart 5 = .ok (.aload_n 0, 1) := by decide +kernel
theorem dX6_restart_6 : decode cX6_restart 6 = .ok (.iconst 0, 1) := by decide +kernel
theorem dX6_restart_7 : decode cX6_restart 7 = .ok (.putfield 35, 3) := by decide +kernel
theorem dX6_restart_10 : decode cX6_restart 10 = .ok (.aload_n 0, 1) := by decide +kernel
theorem dX6_restart_11 : decode cX6_restart 11 = .ok (.iconst 0, 1) := by decide +kernel
theorem dX6_restart_12 : decode cX6_restart 12 = .ok (.putfield 39, 3) := by decide +kernel
theorem dX6_restart_15 : decode cX6_restart 15 = .ok (.aload_n 0, 1) := by decide +kernel
theorem dX6_restart_16 : decode cX6_restart 16 = .ok (.iconst 0, 1) := by decide +kernel
theorem dX6_restart_17 : decode cX6_restart 17 = .ok (.putfield 42, 3) := by decide +kernel
theorem dX6_restart_20 : decode cX6_restart 20 = .ok (.aload_n 0, 1) := by decide +kernel
theorem dX6_restart_21 : decode cX6_restart 21 = .ok (.iconst 0, 1) := by decide +kernel
theorem dX6_restart_22 : decode cX6_restart 22 = .ok (.putfield 45, 3) := by decide +kernel
theorem dX6_restart_25 : decode cX6_restart 25 = .ok (.aload_n 0, 1) := by decide +kernel
theorem dX6_restart_26 : decode cX6_restart 26 = .ok (.getfield 18, 3) := by decide +kernel
theorem dX6_restart_29 : decode cX6_restart 29 = .ok (.iconst (-1), 1) := by decide +kernel
theorem dX6_restart_30 : decode cX6_restart 30 = .ok (.invokestatic 27, 3) := by decide +kernel
theorem dX6_restart_33 : decode cX6_restart 33 = .ok (.aload_n 0, 1) := by decide +kernel
theorem dX6_restart_34 : decode cX6_restart 34 = .ok (.getfield 21, 3) := by decide +kernel
theorem dX6_restart_37 : decode cX6_restart 37 = .ok (.iconst (-1), 1) := by decide +kernel
theorem dX6_restart_38 : decode cX6_restart 38 = .ok (.invokestatic 27, 3) := by decide +kernel
theorem dX6_restart_41 : decode cX6_restart 41 = .ok (.return_, 1) := by decide +kernel
def is_X6_restart (Rt : np_Rt) : List (Nat × np_Op) := [(0, np_ald 1 0), (1, np_ald 1 1), (2, nw_putf 6 5 (.object "NotationPress$Description")), (5, np_ald 1 0), (6, np_push 1 (.int 0)), (7, nw_putf 6 6 (.int)), (10, np_ald 1 0), (11, np_push 1 (.int 0)), (12, nw_putf 6 7 (.int)), (15, np_ald 1 0), (16, np_push 1 (.int 0)), (17, nw_putf 6 8 (.int)), (20, np_ald 1 0), (21, np_push 1 (.int 0)), (22, nw_putf 6 9 (.int)), (25, np_ald 1 0), (26, nw_getf 6 2), (29, np_push 1 (.int (-1))), (30, nq_call 2 sp_X11_fillAll 3 0 0 0 0), (33, np_ald 1 0), (34, nw_getf 6 3), (37, np_push 1 (.int (-1))), (38, nq_call 2 sp_X11_fillAll 3 0 0 0 0), (41, np_ret Rt)]
set_option maxRecDepth 20000 in
theorem so_X6_restart {X : np_Ctx} {Rt : np_Rt} (hX : np_ok RX6 cX6_restart 2 1 22 0 0 .return_ X) (hR : ∀ st w ce sl, Rt st w ce sl → X.2.2.1 st w ce sl) : ∀ q ∈ is_X6_restart Rt, np_S X q.1 q.2 :=
  List.forall_mem_cons.mpr ⟨np_s_aload_n hX dX6_restart_0 rfl, List.forall_mem_cons.mpr ⟨np_s_aload_n hX dX6_restart_1 rfl, List.forall_mem_cons.mpr ⟨np_S.mono (op := np_putf 6 5 (.object "NotationPress$Description")) (np_s_putf hX dX6_restart_2 (C := RX6) (T := TX6) (N := 12) (ty0 := tyX6) rfl guX6 tyX6_ok nmX6 (by decide) gw352 rfl rfl) nw_putf_le, List.forall_mem_cons.mpr ⟨np_s_aload_n hX dX6_restart_5 rfl, List.forall_mem_cons.mpr ⟨np_s_iconst hX dX6_restart_6 (by decide), List.forall_mem_cons.mpr ⟨np_S.mono (op := np_putf 6 6 (.int)) (np_s_putf hX dX6_restart_7 (C := RX6) (T := TX6) (N := 12) (ty0 := tyX6) rfl guX6 tyX6_ok nmX6 (by decide) gw354 rfl rfl) nw_putf_le, List.forall_mem_cons.mpr ⟨np_s_aload_n hX dX6_restart_10 rfl, List.forall_mem_cons.mpr ⟨np_s_iconst hX dX6_restart_11 (by decide), List.forall_mem_cons.mpr ⟨np_S.mono (op := np_putf 6 7 (.int)) (np_s_putf hX dX6_restart_12 (C := RX6) (T := TX6) (N := 12) (ty0 := tyX6) rfl guX6 tyX6_ok nmX6 (by decide) gw356 rfl rfl) nw_putf_le, List.forall_mem_cons.mpr ⟨np_s_aload_n hX dX6_restart_15 rfl, List.forall_mem_cons.mpr ⟨np_s_iconst hX dX6_restart_16 (by decide), List.forall_mem_cons.mpr ⟨np_S.mono (op := np_putf 6 8 (.int)) (np_s_putf hX dX6_restart_17 (C := RX6) (T := TX6) (N := 12) (ty0 := tyX6) rfl guX6 tyX6_ok nmX6 (by decide) gw358 rfl rfl) nw_putf_le, List.forall_mem_cons.mpr ⟨np_s_aload_n hX dX6_restart_20 rfl, List.forall_mem_cons.mpr ⟨np_s_iconst hX dX6_restart_21 (by decide), List.forall_mem_cons.mpr ⟨np_S.mono (op := np_putf 6 9 (.int)) (np_s_putf hX dX6_restart_22 (C := RX6) (T := TX6) (N := 12) (ty0 := tyX6) rfl guX6 tyX6_ok nmX6 (by decide) gw360 rfl rfl) nw_putf_le, List.forall_mem_cons.mpr ⟨np_s_aload_n hX dX6_restart_25 rfl, List.forall_mem_cons.mpr ⟨np_S.mono (op := np_getf 6 2) (np_s_getf hX dX6_restart_26 (C := RX6) (T := TX6) (N := 12) rfl guX6 (by decide) gw349) nw_getf_le, List.forall_mem_cons.mpr ⟨np_s_iconst hX dX6_restart_29 (by decide), List.forall_mem_cons.mpr ⟨np_S.mono (op := np_call 2 sp_X11_fillAll 3 0 0 0 0) (np_s_callSN hX C_X11_fillAll dX6_restart_30 gw127 gw63 gw344 gw126 ⟨by decide, by decide, by decide⟩ (by decide) (by decide)) nq_call_le, List.forall_mem_cons.mpr ⟨np_s_aload_n hX dX6_restart_33 rfl, List.forall_mem_cons.mpr ⟨np_S.mono (op := np_getf 6 3) (np_s_getf hX dX6_restart_34 (C := RX6) (T := TX6) (N := 12) rfl guX6 (by decide) gw350) nw_getf_le, List.forall_mem_cons.mpr ⟨np_s_iconst hX dX6_restart_37 (by decide), List.forall_mem_cons.mpr ⟨np_S.mono (op := np_call 2 sp_X11_fillAll 3 0 0 0 0) (np_s_callSN hX C_X11_fillAll dX6_restart_38 gw127 gw63 gw344 gw126 ⟨by decide, by decide, by decide⟩ (by decide) (by decide)) nq_call_le, List.forall_mem_cons.mpr ⟨np_S.mono (op := np_ret X.2.2.1) (np_s_ret hX dX6_restart_41) (nq_ret_le hR), fun _ h => nomatch h⟩⟩⟩⟩⟩⟩⟩⟩⟩⟩⟩⟩⟩⟩⟩⟩⟩⟩⟩⟩⟩⟩⟩⟩
noncomputable def m_X6_restart (S : pw_S) (i0 : Nat) (i1 : Nat) : pw_R Unit :=
 pw_l (pw_up S 54 i0 (upd (S 54 i0) 5 (Int32.ofNat i1))) fun S1 =>
 pw_l (pw_up S1 54 i0 (upd (S1 54 i0) 6 0)) fun S4 =>
 pw_l (pw_up S4 54 i0 (upd (S4 54 i0) 7 0)) fun S7 =>
 pw_l (pw_up S7 54 i0 (upd (S7 54 i0) 8 0)) fun S10 =>
 pw_l (pw_up S10 54 i0 (upd (S10 54 i0) 9 0)) fun S13 =>
 pw_b (m_X11_fillAll S13 14 i0 (-1)) fun S16 r19 =>
 pw_b (m_X11_fillAll S16 15 i0 (-1)) fun S21 r24 =>
 some (S21, ())
def sp_X6_restart : np_Sp := fun vs w Q => ∃ (q : Nat) (S : pw_S) (i0 : Nat) (i1 : Nat), vs = [.ref (pw_pl 54 i0), .ref (pw_pl 52 i1)] ∧ pw_ok q 54 i0 = true ∧ pw_ok q 52 i1 = true ∧ pw_W q w S ∧ pw_p (m_X6_restart S i0 i1) (fun S' r => ∀ f', pw_W q (w.1, f') S' → Q none (w.1, f'))
set_option maxRecDepth 100000 in
set_option maxHeartbeats 8000000 in
theorem C_X6_restart : np_C yX6_restart cX6_restart 2 none 1 22 0 0 sp_X6_restart := by
  refine np_of (by decide) ?_
  intro X vs w Q hsp hX hmn hRt hlt
  obtain ⟨q, S, i0, i1, rfl, hi0, hi1, hW, h⟩ := hsp
  obtain ⟨n, f⟩ := w
  unfold m_X6_restart at h
  have hR : ∀ st w ce sl, np_rt none 0 0 Q st w ce sl → X.2.2.1 st w ce sl := fun _ _ _ _ h => by rw [hRt]; exact h
  refine np_soundW (so_X6_restart hX hR) [] 400 0 _ _ _ _ _ ?_
  conv => whnf
  refine np_rd_i (hW.g hi0) ?_
  conv => whnf
  refine pw_wr (a := 54) (i := i0) (d := upd (S 54 i0) 5 (Int32.ofNat i1)) hW hi0 (congrArg (fun z => (Sum.inr (6, [.ref (pw_pl 12 i0), .ref (pw_pl 13 i0), .ref (pw_pl 14 i0), .ref (pw_pl 15 i0), .ref (pw_pl 16 i0), z, .int (S 54 i0 6), .int (S 54 i0 7), .int (S 54 i0 8), .int (S 54 i0 9), .int (S 54 i0 10), .int (S 54 i0 11)]) : np_E)) (pw_nr_of (q := q) (a := 52) (n := 6) rfl rfl hi1).symm) h (fun S1 f2 hW3 h => ?_)
  conv => whnf
  refine np_rd_i (hW3.g hi0) ?_
  conv => whnf
  refine pw_wr (a := 54) (i := i0) (d := upd (S1 54 i0) 6 0) hW3 hi0 rfl h (fun S4 f5 hW6 h => ?_)
  conv => whnf
  refine np_rd_i (hW6.g hi0) ?_
  conv => whnf
  refine pw_wr (a := 54) (i := i0) (d := upd (S4 54 i0) 7 0) hW6 hi0 rfl h (fun S7 f8 hW9 h => ?_)
  conv => whnf
  refine np_rd_i (hW9.g hi0) ?_
  conv => whnf
  refine pw_wr (a := 54) (i := i0) (d := upd (S7 54 i0) 8 0) hW9 hi0 rfl h (fun S10 f11 hW12 h => ?_)
  conv => whnf
  refine np_rd_i (hW12.g hi0) ?_
  conv => whnf
  refine pw_wr (a := 54) (i := i0) (d := upd (S10 54 i0) 9 0) hW12 hi0 rfl h (fun S13 f14 hW15 h => ?_)
  conv => whnf
  refine np_rd_i (hW15.g hi0) ?_
  conv => whnf
  refine ⟨q, S13, 14, i0, (-1), rfl, rfl, hi0, hW15, pw_bd h (fun S16 r19 h f17 hW18 => ?_)⟩
  conv => whnf
  refine np_rd_i (hW18.g hi0) ?_
  conv => whnf
  refine ⟨q, S16, 15, i0, (-1), rfl, rfl, hi0, hW18, pw_bd h (fun S21 r24 h f22 hW23 => ?_)⟩
  conv => whnf
  exact ⟨Nat.le_of_ble_eq_true rfl, Nat.le_of_ble_eq_true rfl, rfl, _, fun _ _ h9 => h9, pw_ps h _ hW23⟩
theorem dX6_isFull_0 : decode cX6_isFull 0 = .ok (.aload_n 0, 1) := by decide +kernel
theorem dX6_isFull_1 : decode cX6_isFull 1 = .ok (.getfield 39, 3) := by decide +kernel
theorem dX6_isFull_4 : decode cX6_isFull 4 = .ok (.bipush 24, 2) := by decide +kernel
theorem dX6_isFull_6 : decode cX6_isFull 6 = .ok (.if_icmp .lt 7, 3) := by decide +kernel
theorem dX6_isFull_9 : decode cX6_isFull 9 = .ok (.iconst 1, 1) := by decide +kernel
theorem dX6_isFull_10 : decode cX6_isFull 10 = .ok (.goto 4, 3) := by decide +kernel
theorem dX6_isFull_13 : decode cX6_isFull 13 = .ok (.iconst 0, 1) := by decide +kernel
theorem dX6_isFull_14 : decode cX6_isFull 14 = .ok (.ireturn, 1) := by decide +kernel
def is_X6_isFull (Rt : np_Rt) : List (Nat × np_Op) := [(0, np_ald 1 0), (1, nw_getf 6 7), (4, np_push 2 (.int 24)), (6, nq_ic (fun x y => x < y) 13), (9, np_push 1 (.int 1)), (10, np_goto 14), (13, np_push 1 (.int 0)), (14, np_ret Rt)]
set_option maxRecDepth 20000 in
theorem so_X6_isFull {X : np_Ctx} {Rt : np_Rt} (hX : np_ok RX6 cX6_isFull 1 0 0 0 0 .ireturn X) (hR : ∀ st w ce sl, Rt st w ce sl → X.2.2.1 st w ce sl) : ∀ q ∈ is_X6_isFull Rt, np_S X q.1 q.2 :=
  List.forall_mem_cons.mpr ⟨np_s_aload_n hX dX6_isFull_0 rfl, List.forall_mem_cons.mpr ⟨np_S.mono (op := np_getf 6 7) (np_s_getf hX dX6_isFull_1 (C := RX6) (T := TX6) (N := 12) rfl guX6 (by decide) gw356) nw_getf_le, List.forall_mem_cons.mpr ⟨np_s_bipush hX dX6_isFull_4 (by decide), List.forall_mem_cons.mpr ⟨np_S.mono (op := np_ic (fun x y => x < y) 13) (np_s_icmp_lt hX dX6_isFull_6 (by decide)) nq_ic_le, List.forall_mem_cons.mpr ⟨np_s_iconst hX dX6_isFull_9 (by decide), List.forall_mem_cons.mpr ⟨np_s_goto hX dX6_isFull_10 (by decide), List.forall_mem_cons.mpr ⟨np_s_iconst hX dX6_isFull_13 (by decide), List.forall_mem_cons.mpr ⟨np_S.mono (op := np_ret X.2.2.1) (np_s_ret hX dX6_isFull_14) (nq_ret_le hR), fun _ h => nomatch h⟩⟩⟩⟩⟩⟩⟩⟩
noncomputable def m_X6_isFull (S : pw_S) (i0 : Nat) : pw_R Int32 :=
 if (S 54 i0 7) < 24 then
 (some (S, 0))
 else
 (some (S, 1))
def sp_X6_isFull : np_Sp := fun vs w Q => ∃ (q : Nat) (S : pw_S) (i0 : Nat), vs = [.ref (pw_pl 54 i0)] ∧ pw_ok q 54 i0 = true ∧ pw_W q w S ∧ pw_p (m_X6_isFull S i0) (fun S' r => ∀ f', pw_W q (w.1, f') S' → Q (some (.int r)) (w.1, f'))
set_option maxRecDepth 100000 in
set_option maxHeartbeats 8000000 in
theorem C_X6_isFull : np_C yX6_isFull cX6_isFull 1 (some .boolean) 0 0 0 0 sp_X6_isFull := by
  refine np_of (by decide) ?_
  intro X vs w Q hsp hX hmn hRt hlt
  obtain ⟨q, S, i0, rfl, hi0, hW, h⟩ := hsp
  obtain ⟨n, f⟩ := w
  unfold m_X6_isFull at h
  have hR : ∀ st w ce sl, np_rt (some .boolean) 0 0 Q st w ce sl → X.2.2.1 st w ce sl := fun _ _ _ _ h => by rw [hRt]; exact h
  refine np_soundW (so_X6_isFull hX hR) [] 400 0 _ _ _ _ _ ?_
  conv => whnf
  refine np_rd_i (hW.g hi0) ?_
  conv => whnf
  refine pw_br h (fun _ h => ?_) (fun _ h => ?_)
  · conv => whnf
    exact ⟨Nat.le_of_ble_eq_true rfl, Nat.le_of_ble_eq_true rfl, ⟨_, rfl, by decide⟩, _, fun _ _ h9 => h9, pw_ps h _ hW⟩
  · conv => whnf
    exact ⟨Nat.le_of_ble_eq_true rfl, Nat.le_of_ble_eq_true rfl, ⟨_, rfl, by decide⟩, _, fun _ _ h9 => h9, pw_ps h _ hW⟩
theorem dX6_beginLine_0 : decode cX6_beginLine 0 = .ok (.aload_n 0, 1) := by decide +kernel
theorem dX6_beginLine_1 : decode cX6_beginLine 1 = .ok (.iconst 0, 1) := by decide +kernel
theorem dX6_beginLine_2 : decode cX6_beginLine 2 = .ok (.putfield 64, 3) := by decide +kernel
theorem dX6_beginLine_5 : decode cX6_beginLine 5 = .ok (.aload_n 0, 1) := by decide +kernel
theorem dX6_beginLine_6 : decode cX6_beginLine 6 = .ok (.iconst 0, 1) := by decide +kernel
theorem dX6_beginLine_7 : decode cX6_beginLine 7 = .ok (.putfield 67, 3) := by decide +kernel
theorem dX6_beginLine_10 : decode cX6_beginLine 10 = .ok (.return_, 1) := by decide +kernel
def is_X6_beginLine (Rt : np_Rt) : List (Nat × np_Op) := [(0, np_ald 1 0), (1, np_push 1 (.int 0)), (2, nw_putf 6 10 (.int)), (5, np_ald 1 0), (6, np_push 1 (.int 0)), (7, nw_putf 6 11 (.int)), (10, np_ret Rt)]
set_option maxRecDepth 20000 in
theorem so_X6_beginLine {X : np_Ctx} {Rt : np_Rt} (hX : np_ok RX6 cX6_beginLine 1 0 0 0 0 .return_ X) (hR : ∀ st w ce sl, Rt st w ce sl → X.2.2.1 st w ce sl) : ∀ q ∈ is_X6_beginLine Rt, np_S X q.1 q.2 :=
  List.forall_mem_cons.mpr ⟨np_s_aload_n hX dX6_beginLine_0 rfl, List.forall_mem_cons.mpr ⟨np_s_iconst hX dX6_beginLine_1 (by decide), List.forall_mem_cons.mpr ⟨np_S.mono (op := np_putf 6 10 (.int)) (np_s_putf hX dX6_beginLine_2 (C := RX6) (T := TX6) (N := 12) (ty0 := tyX6) rfl guX6 tyX6_ok nmX6 (by decide) gw362 rfl rfl) nw_putf_le, List.forall_mem_cons.mpr ⟨np_s_aload_n hX dX6_beginLine_5 rfl, List.forall_mem_cons.mpr ⟨np_s_iconst hX dX6_beginLine_6 (by decide), List.forall_mem_cons.mpr ⟨np_S.mono (op := np_putf 6 11 (.int)) (np_s_putf hX dX6_beginLine_7 (C := RX6) (T := TX6) (N := 12) (ty0 := tyX6) rfl guX6 tyX6_ok nmX6 (by decide) gw363 rfl rfl) nw_putf_le, List.forall_mem_cons.mpr ⟨np_S.mono (op := np_ret X.2.2.1) (np_s_ret hX dX6_beginLine_10) (nq_ret_le hR), fun _ h => nomatch h⟩⟩⟩⟩⟩⟩⟩
noncomputable def m_X6_beginLine (S : pw_S) (i0 : Nat) : pw_R Unit :=
 pw_l (pw_up S 54 i0 (upd (S 54 i0) 10 0)) fun S1 =>
 pw_l (pw_up S1 54 i0 (upd (S1 54 i0) 11 0)) fun S4 =>
 some (S4, ())
def sp_X6_beginLine : np_Sp := fun vs w Q => ∃ (q : Nat) (S : pw_S) (i0 : Nat), vs = [.ref (pw_pl 54 i0)] ∧ pw_ok q 54 i0 = true ∧ pw_W q w S ∧ pw_p (m_X6_beginLine S i0) (fun S' r => ∀ f', pw_W q (w.1, f') S' → Q none (w.1, f'))
set_option maxRecDepth 100000 in
set_option maxHeartbeats 8000000 in
theorem C_X6_beginLine : np_C yX6_beginLine cX6_beginLine 1 none 0 0 0 0 sp_X6_beginLine := by
  refine np_of (by decide) ?_
  intro X vs w Q hsp hX hmn hRt hlt
  obtain ⟨q, S, i0, rfl, hi0, hW, h⟩ := hsp
  obtain ⟨n, f⟩ := w
  unfold m_X6_beginLine at h
  have hR : ∀ st w ce sl, np_rt none 0 0 Q st w ce sl → X.2.2.1 st w ce sl := fun _ _ _ _ h => by rw [hRt]; exact h
  refine np_soundW (so_X6_beginLine hX hR) [] 400 0 _ _ _ _ _ ?_
  conv => whnf
  refine np_rd_i (hW.g hi0) ?_
  conv => whnf
  refine pw_wr (a := 54) (i := i0) (d := upd (S 54 i0) 10 0) hW hi0 rfl h (fun S1 f2 hW3 h => ?_)
  conv => whnf
  refine np_rd_i (hW3.g hi0) ?_
  conv => whnf
  refine pw_wr (a := 54) (i := i0) (d := upd (S1 54 i0) 11 0) hW3 hi0 rfl h (fun S4 f5 hW6 h => ?_)
  conv => whnf
  exact ⟨Nat.le_of_ble_eq_true rfl, Nat.le_of_ble_eq_true rfl, rfl, _, fun _ _ h9 => h9, pw_ps h _ hW6⟩
theorem dX6_weigh_0 : decode cX6_weigh 0 = .ok (.aload_n 0, 1) := by decide +kernel
theorem dX6_weigh_1 : decode cX6_weigh 1 = .ok (.getfield 31, 3) := by decide +kernel
theorem dX6_weigh_4 : decode cX6_weigh 4 = .ok (.ifnonnull 7, 3) := by decide +kernel
theorem dX6_weigh_7 : decode cX6_weigh 7 = .ok (.iconst 0, 1) := by decide +kernel
theorem dX6_weigh_8 : decode cX6_weigh 8 = .ok (.goto 11, 3) := by decide +kernel
theorem dX6_weigh_11 : decode cX6_weigh 11 = .ok (.aload_n 0, 1) := by decide +kernel
theorem dX6_weigh_12 : decode cX6_weigh 12 = .ok (.getfield 31, 3) := by decide +kernel
theorem dX6_weigh_15 : decode cX6_weigh 15 = .ok (.aload_n 1, 1) := by decide +kernel
theorem dX6_weigh_16 : decode cX6_weigh 16 = .ok (.invokevirtual 70, 3) := by decide +kernel
theorem dX6_weigh_19 : decode cX6_weigh 19 = .ok (.istore_n 2, 1) := by decide +kernel
theorem dX6_weigh_20 : decode cX6_weigh 20 = .ok (.iload_n 2, 1) := by decide +kernel
theorem dX6_weigh_21 : decode cX6_weigh 21 = .ok (.ifCond .eq 16, 3) := by decide +kernel
theorem dX6_weigh_24 : decode cX6_weigh 24 = .ok (.aload_n 0, 1) := by decide +kernel
theorem dX6_weigh_25 : decode cX6_weigh 25 = .ok (.getfield 67, 3) := by decide +kernel
theorem dX6_weigh_28 : decode cX6_weigh 28 = .ok (.ifCond .ne 8, 3) := by decide +kernel
theorem dX6_weigh_31 : decode cX6_weigh 31 = .ok (.aload_n 0, 1) := by decide +kernel
theorem dX6_weigh_32 : decode cX6_weigh 32 = .ok (.iload_n 2, 1) := by decide +kernel
theorem dX6_weigh_33 : decode cX6_weigh 33 = .ok (.putfield 67, 3) := by decide +kernel
theorem dX6_weigh_36 : decode cX6_weigh 36 = .ok (.return_, 1) := by decide +kernel
theorem dX6_weigh_37 : decode cX6_weigh 37 = .ok (.aload_n 0, 1) := by decide +kernel
theorem dX6_weigh_38 : decode cX6_weigh 38 = .ok (.getfield 64, 3) := by decide +kernel
theorem dX6_weigh_41 : decode cX6_weigh 41 = .ok (.ifCond .ne 21, 3) := by decide +kernel
theorem dX6_weigh_44 : decode cX6_weigh 44 = .ok (.aload_n 1, 1) := by decide +kernel
theorem dX6_weigh_45 : decode cX6_weigh 45 = .ok (.iconst 0, 1) := by decide +kernel
theorem dX6_weigh_46 : decode cX6_weigh 46 = .ok (.aload_n 0, 1) := by decide +kernel
theorem dX6_weigh_47 : decode cX6_weigh 47 = .ok (.getfield 9, 3) := by decide +kernel
theorem dX6_weigh_50 : decode cX6_weigh 50 = .ok (.aload_n 0, 1) := by decide +kernel
theorem dX6_weigh_51 : decode cX6_weigh 51 = .ok (.getfield 39, 3) := by decide +kernel
theorem dX6_weigh_54 : decode cX6_weigh 54 = .ok (.bipush 24, 2) := by decide +kernel
theorem dX6_weigh_56 : decode cX6_weigh 56 = .ok (.imul, 1) := by decide +kernel
theorem dX6_weigh_57 : decode cX6_weigh 57 = .ok (.bipush 24, 2) := by decide +kernel
theorem dX6_weigh_59 : decode cX6_weigh 59 = .ok (.invokestatic 76, 3) := by decide +kernel
theorem dX6_weigh_62 : decode cX6_weigh 62 = .ok (.aload_n 0, 1) := by decide +kernel
theorem dX6_weigh_63 : decode cX6_weigh 63 = .ok (.dup, 1) := by decide +kernel
theorem dX6_weigh_64 : decode cX6_weigh 64 = .ok (.getfield 64, 3) := by decide +kernel
theorem dX6_weigh_67 : decode cX6_weigh 67 = .ok (.iconst 1, 1) := by decide +kernel
theorem dX6_weigh_68 : decode cX6_weigh 68 = .ok (.iadd, 1) := by decide +kernel
theorem dX6_weigh_69 : decode cX6_weigh 69 = .ok (.putfield 64, 3) := by decide +kernel
theorem dX6_weigh_72 : decode cX6_weigh 72 = .ok (.return_, 1) := by decide +kernel
def is_X6_weigh (Rt : np_Rt) : List (Nat × np_Op) := [(0, np_ald 1 0), (1, nw_getn 6 5), (4, np_ifnonnull 11), (7, np_push 1 (.int 0)), (8, np_goto 19), (11, np_ald 1 0), (12, nw_getn 6 5), (15, np_ald 1 1), (16, nw_callV 1 2 sp_X1_firstBroken 3 0 0 0 0), (19, nw_ist 1 2), (20, np_ild 1 2), (21, nq_if (fun x => x = 0) 37), (24, np_ald 1 0), (25, nw_getf 6 11), (28, nq_ifne 36), (31, np_ald 1 0), (32, np_ild 1 2), (33, nw_putf 6 11 (.int)), (36, np_ret Rt), (37, np_ald 1 0), (38, nw_getf 6 10), (41, nq_ifne 62), (44, np_ald 1 1), (45, np_push 1 (.int 0)), (46, np_ald 1 0), (47, nw_getf 6 0), (50, np_ald 1 0), (51, nw_getf 6 7), (54, np_push 2 (.int 24)), (56, np_ib (fun x y => x * y)), (57, np_push 2 (.int 24)), (59, nq_call 5 sp_X11_copyCells 5 0 0 0 0), (62, np_ald 1 0), (63, nq_dup), (64, nw_getf 6 10), (67, np_push 1 (.int 1)), (68, np_ib (fun x y => x + y)), (69, nw_putf 6 10 (.int)), (72, np_ret Rt)]
set_option maxRecDepth 20000 in
theorem so_X6_weigh {X : np_Ctx} {Rt : np_Rt} (hX : np_ok RX6 cX6_weigh 3 4 89 0 0 .return_ X) (hR : ∀ st w ce sl, Rt st w ce sl → X.2.2.1 st w ce sl) : ∀ q ∈ is_X6_weigh Rt, np_S X q.1 q.2 :=
  List.forall_mem_cons.mpr ⟨np_s_aload_n hX dX6_weigh_0 rfl, List.forall_mem_cons.mpr ⟨np_S.mono (op := np_getf 6 5) (np_s_getf hX dX6_weigh_1 (C := RX6) (T := TX6) (N := 12) rfl guX6 (by decide) gw352) nw_getn_le, List.forall_mem_cons.mpr ⟨np_s_ifnonnull hX dX6_weigh_4 (by decide), List.forall_mem_cons.mpr ⟨np_s_iconst hX dX6_weigh_7 (by decide), List.forall_mem_cons.mpr ⟨np_s_goto hX dX6_weigh_8 (by decide), List.forall_mem_cons.mpr ⟨np_s_aload_n hX dX6_weigh_11 rfl, List.forall_mem_cons.mpr ⟨np_S.mono (op := np_getf 6 5) (np_s_getf hX dX6_weigh_12 (C := RX6) (T := TX6) (N := 12) rfl guX6 (by decide) gw352) nw_getn_le, List.forall_mem_cons.mpr ⟨np_s_aload_n hX dX6_weigh_15 rfl, List.forall_mem_cons.mpr ⟨np_S.mono (op := np_callV 1 2 sp_X1_firstBroken 3 0 0 0 0) (np_s_callV hX C_X1_firstBroken dX6_weigh_16 (q := (RX1, TX1, 7)) rfl rfl gw902 gw71 gw1095 gw900 gw901 ⟨by decide, by decide, by decide⟩ (by decide) (by decide)) nw_callV_le, List.forall_mem_cons.mpr ⟨np_S.mono (op := np_ist 1 2) (np_s_istore_n hX dX6_weigh_19 rfl (by decide)) nw_ist_le, List.forall_mem_cons.mpr ⟨np_s_iload_n hX dX6_weigh_20 rfl, List.forall_mem_cons.mpr ⟨np_S.mono (op := np_if (fun x => x = 0) 37) (np_s_if_eq hX dX6_weigh_21 (by decide)) nq_if_le, List.forall_mem_cons.mpr ⟨np_s_aload_n hX dX6_weigh_24 rfl, List.forall_mem_cons.mpr ⟨np_S.mono (op := np_getf 6 11) (np_s_getf hX dX6_weigh_25 (C := RX6) (T := TX6) (N := 12) rfl guX6 (by decide) gw363) nw_getf_le, List.forall_mem_cons.mpr ⟨np_S.mono (op := np_ifne 36) (np_s_if_ne hX dX6_weigh_28 (by decide)) nq_ifne_le, List.forall_mem_cons.mpr ⟨np_s_aload_n hX dX6_weigh_31 rfl, List.forall_mem_cons.mpr ⟨np_s_iload_n hX dX6_weigh_32 rfl, List.forall_mem_cons.mpr ⟨np_S.mono (op := np_putf 6 11 (.int)) (np_s_putf hX dX6_weigh_33 (C := RX6) (T := TX6) (N := 12) (ty0 := tyX6) rfl guX6 tyX6_ok nmX6 (by decide) gw363 rfl rfl) nw_putf_le, List.forall_mem_cons.mpr ⟨np_S.mono (op := np_ret X.2.2.1) (np_s_ret hX dX6_weigh_36) (nq_ret_le hR), List.forall_mem_cons.mpr ⟨np_s_aload_n hX dX6_weigh_37 rfl, List.forall_mem_cons.mpr ⟨np_S.mono (op := np_getf 6 10) (np_s_getf hX dX6_weigh_38 (C := RX6) (T := TX6) (N := 12) rfl guX6 (by decide) gw362) nw_getf_le, List.forall_mem_cons.mpr ⟨np_S.mono (op := np_ifne 62) (np_s_if_ne hX dX6_weigh_41 (by decide)) nq_ifne_le, List.forall_mem_cons.mpr ⟨np_s_aload_n hX dX6_weigh_44 rfl, List.forall_mem_cons.mpr ⟨np_s_iconst hX dX6_weigh_45 (by decide), List.forall_mem_cons.mpr ⟨np_s_aload_n hX dX6_weigh_46 rfl, List.forall_mem_cons.mpr ⟨np_S.mono (op := np_getf 6 0) (np_s_getf hX dX6_weigh_47 (C := RX6) (T := TX6) (N := 12) rfl guX6 (by decide) gw345) nw_getf_le, List.forall_mem_cons.mpr ⟨np_s_aload_n hX dX6_weigh_50 rfl, List.forall_mem_cons.mpr ⟨np_S.mono (op := np_getf 6 7) (np_s_getf hX dX6_weigh_51 (C := RX6) (T := TX6) (N := 12) rfl guX6 (by decide) gw356) nw_getf_le, List.forall_mem_cons.mpr ⟨np_s_bipush hX dX6_weigh_54 (by decide), List.forall_mem_cons.mpr ⟨np_s_imul hX dX6_weigh_56, List.forall_mem_cons.mpr ⟨np_s_bipush hX dX6_weigh_57 (by decide), List.forall_mem_cons.mpr ⟨np_S.mono (op := np_call 5 sp_X11_copyCells 5 0 0 0 0) (np_s_callSN hX C_X11_copyCells dX6_weigh_59 gw893 gw63 gw1096 gw892 ⟨by decide, by decide, by decide⟩ (by decide) (by decide)) nq_call_le, List.forall_mem_cons.mpr ⟨np_s_aload_n hX dX6_weigh_62 rfl, List.forall_mem_cons.mpr ⟨np_S.mono (op := np_dup) (np_s_dup hX dX6_weigh_63) nq_dup_le, List.forall_mem_cons.mpr ⟨np_S.mono (op := np_getf 6 10) (np_s_getf hX dX6_weigh_64 (C := RX6) (T := TX6) (N := 12) rfl guX6 (by decide) gw362) nw_getf_le, List.forall_mem_cons.mpr ⟨np_s_iconst hX dX6_weigh_67 (by decide), List.forall_mem_cons.mpr ⟨np_s_iadd hX dX6_weigh_68, List.forall_mem_cons.mpr ⟨np_S.mono (op := np_putf 6 10 (.int)) (np_s_putf hX dX6_weigh_69 (C := RX6) (T := TX6) (N := 12) (ty0 := tyX6) rfl guX6 tyX6_ok nmX6 (by decide) gw362 rfl rfl) nw_putf_le, List.forall_mem_cons.mpr ⟨np_S.mono (op := np_ret X.2.2.1) (np_s_ret hX dX6_weigh_72) (nq_ret_le hR), fun _ h => nomatch h⟩⟩⟩⟩⟩⟩⟩⟩⟩⟩⟩⟩⟩⟩⟩⟩⟩⟩⟩⟩⟩⟩⟩⟩⟩⟩⟩⟩⟩⟩⟩⟩⟩⟩⟩⟩⟩⟩⟩
noncomputable def m_X6_weigh (S : pw_S) (i0 : Nat) (a1 : Nat) (i1 : Nat) : pw_R Unit :=
 if (S 54 i0 5) < 0 then
 (pw_l (0 : Int32) fun z2 =>
 if z2 = 0 then
 (if (S 54 i0 10) = 0 then
 (pw_b (m_X11_copyCells S a1 i1 0 12 i0 ((S 54 i0 7) * 24) 24) fun S3 r6 =>
 pw_l (pw_up S3 54 i0 (upd (S3 54 i0) 10 ((S3 54 i0 10) + 1))) fun S8 =>
 some (S8, ()))
 else
 (pw_l (pw_up S 54 i0 (upd (S 54 i0) 10 ((S 54 i0 10) + 1))) fun S11 =>
 some (S11, ())))
 else
 (if (S 54 i0 11) = 0 then
 (pw_l (pw_up S 54 i0 (upd (S 54 i0) 11 z2)) fun S14 =>
 some (S14, ()))
 else
 (some (S, ()))))
 else
 (pw_b (m_X1_firstBroken S (pw_dn 6 (S 54 i0 5)) a1 i1) fun S17 r20 =>
 pw_l (r20 : Int32) fun z22 =>
 if z22 = 0 then
 (if (S17 54 i0 10) = 0 then
 (pw_b (m_X11_copyCells S17 a1 i1 0 12 i0 ((S17 54 i0 7) * 24) 24) fun S23 r26 =>
 pw_l (pw_up S23 54 i0 (upd (S23 54 i0) 10 ((S23 54 i0 10) + 1))) fun S28 =>
 some (S28, ()))
 else
 (pw_l (pw_up S17 54 i0 (upd (S17 54 i0) 10 ((S17 54 i0 10) + 1))) fun S31 =>
 some (S31, ())))
 else
 (if (S17 54 i0 11) = 0 then
 (pw_l (pw_up S17 54 i0 (upd (S17 54 i0) 11 z22)) fun S34 =>
 some (S34, ()))
 else
 (some (S17, ()))))
def sp_X6_weigh : np_Sp := fun vs w Q => ∃ (q : Nat) (S : pw_S) (i0 : Nat) (a1 : Nat) (i1 : Nat), vs = [.ref (pw_pl 54 i0), .ref (pw_pl a1 i1)] ∧ pw_ok q 54 i0 = true ∧ pw_arr a1 = true ∧ pw_ok q a1 i1 = true ∧ pw_W q w S ∧ pw_p (m_X6_weigh S i0 a1 i1) (fun S' r => ∀ f', pw_W q (w.1, f') S' → Q none (w.1, f'))
set_option maxRecDepth 100000 in
set_option maxHeartbeats 8000000 in
theorem C_X6_weigh : np_C yX6_weigh cX6_weigh 3 none 4 89 0 0 sp_X6_weigh := by
  refine np_of (by decide) ?_
  intro X vs w Q hsp hX hmn hRt hlt
  obtain ⟨q, S, i0, a1, i1, rfl, hi0, ha1, hi1, hW, h⟩ := hsp
  obtain ⟨n, f⟩ := w
  unfold m_X6_weigh at h
  have hR : ∀ st w ce sl, np_rt none 0 0 Q st w ce sl → X.2.2.1 st w ce sl := fun _ _ _ _ h => by rw [hRt]; exact h
  refine np_soundW (so_X6_weigh hX hR) [] 400 0 _ _ _ _ _ ?_
  conv => whnf
  refine np_rd_i (hW.g hi0) ?_
  conv => whnf
  refine ⟨_, _, _, rfl, ?_⟩
  refine pw_br h (fun _ h => ?_) (fun hn1 h => ?_)
  · conv => whnf
    refine pw_st h (fun z2 h => ?_)
    conv => whnf
    refine pw_br h (fun _ h => ?_) (fun _ h => ?_)
    · conv => whnf
      refine np_rd_i (hW.g hi0) ?_
      conv => whnf
      refine pw_br h (fun _ h => ?_) (fun _ h => ?_)
      · conv => whnf
        refine np_rd_i (hW.g hi0) ?_
        conv => whnf
        refine np_rd_i (hW.g hi0) ?_
        conv => whnf
        refine ⟨q, S, a1, i1, 0, 12, i0, ((S 54 i0 7) * 24), 24, rfl, ha1, hi1, rfl, hi0, hW, pw_bd h (fun S3 r6 h f4 hW5 => ?_)⟩
        conv => whnf
        refine np_rd_i (hW5.g hi0) ?_
        conv => whnf
        refine np_rd_i (hW5.g hi0) ?_
        conv => whnf
        refine pw_wr (a := 54) (i := i0) (d := upd (S3 54 i0) 10 ((S3 54 i0 10) + 1)) hW5 hi0 rfl h (fun S8 f9 hW10 h => ?_)
        conv => whnf
        exact ⟨Nat.le_of_ble_eq_true rfl, Nat.le_of_ble_eq_true rfl, rfl, _, fun _ _ h9 => h9, pw_ps h _ hW10⟩
      · conv => whnf
        refine np_rd_i (hW.g hi0) ?_
        conv => whnf
        refine np_rd_i (hW.g hi0) ?_
        conv => whnf
        refine pw_wr (a := 54) (i := i0) (d := upd (S 54 i0) 10 ((S 54 i0 10) + 1)) hW hi0 rfl h (fun S11 f12 hW13 h => ?_)
        conv => whnf
        exact ⟨Nat.le_of_ble_eq_true rfl, Nat.le_of_ble_eq_true rfl, rfl, _, fun _ _ h9 => h9, pw_ps h _ hW13⟩
    · conv => whnf
      refine np_rd_i (hW.g hi0) ?_
      conv => whnf
      refine pw_br h (fun _ h => ?_) (fun _ h => ?_)
      · conv => whnf
        refine np_rd_i (hW.g hi0) ?_
        conv => whnf
        refine pw_wr (a := 54) (i := i0) (d := upd (S 54 i0) 11 z2) hW hi0 rfl h (fun S14 f15 hW16 h => ?_)
        conv => whnf
        exact ⟨Nat.le_of_ble_eq_true rfl, Nat.le_of_ble_eq_true rfl, rfl, _, fun _ _ h9 => h9, pw_ps h _ hW16⟩
      · conv => whnf
        exact ⟨Nat.le_of_ble_eq_true rfl, Nat.le_of_ble_eq_true rfl, rfl, _, fun _ _ h9 => h9, pw_ps h _ hW⟩
  · conv => whnf
    refine np_rd_i (hW.g hi0) ?_
    conv => whnf
    refine ⟨_, _, _, rfl, ?_⟩
    refine pw_brn hn1 ?_
    conv => whnf
    refine np_rd_i (hW.g (pw_okd (a := 52) (n := 6) rfl rfl rfl)) ?_
    conv => whnf
    refine ⟨q, S, (pw_dn 6 (S 54 i0 5)), a1, i1, rfl, (pw_okd (a := 52) (n := 6) rfl rfl rfl), ha1, hi1, hW, pw_bd h (fun S17 r20 h f18 hW19 => ?_)⟩
    conv => whnf
    refine pw_st h (fun z22 h => ?_)
    conv => whnf
    refine pw_br h (fun _ h => ?_) (fun _ h => ?_)
    · conv => whnf
      refine np_rd_i (hW19.g hi0) ?_
      conv => whnf
      refine pw_br h (fun _ h => ?_) (fun _ h => ?_)
      · conv => whnf
        refine np_rd_i (hW19.g hi0) ?_
        conv => whnf
        refine np_rd_i (hW19.g hi0) ?_
        conv => whnf
        refine ⟨q, S17, a1, i1, 0, 12, i0, ((S17 54 i0 7) * 24), 24, rfl, ha1, hi1, rfl, hi0, hW19, pw_bd h (fun S23 r26 h f24 hW25 => ?_)⟩
        conv => whnf
        refine np_rd_i (hW25.g hi0) ?_
        conv => whnf
        refine np_rd_i (hW25.g hi0) ?_
        conv => whnf
        refine pw_wr (a := 54) (i := i0) (d := upd (S23 54 i0) 10 ((S23 54 i0 10) + 1)) hW25 hi0 rfl h (fun S28 f29 hW30 h => ?_)
        conv => whnf
        exact ⟨Nat.le_of_ble_eq_true rfl, Nat.le_of_ble_eq_true rfl, rfl, _, fun _ _ h9 => h9, pw_ps h _ hW30⟩
      · conv => whnf
        refine np_rd_i (hW19.g hi0) ?_
        conv => whnf
        refine np_rd_i (hW19.g hi0) ?_
        conv => whnf
        refine pw_wr (a := 54) (i := i0) (d := upd (S17 54 i0) 10 ((S17 54 i0 10) + 1)) hW19 hi0 rfl h (fun S31 f32 hW33 h => ?_)
        conv => whnf
        exact ⟨Nat.le_of_ble_eq_true rfl, Nat.le_of_ble_eq_true rfl, rfl, _, fun _ _ h9 => h9, pw_ps h _ hW33⟩
    · conv => whnf
      refine np_rd_i (hW19.g hi0) ?_
      conv => whnf
      refine pw_br h (fun _ h => ?_) (fun _ h => ?_)
      · conv => whnf
        refine np_rd_i (hW19.g hi0) ?_
        conv => whnf
        refine pw_wr (a := 54) (i := i0) (d := upd (S17 54 i0) 11 z22) hW19 hi0 rfl h (fun S34 f35 hW36 h => ?_)
        conv => whnf
        exact ⟨Nat.le_of_ble_eq_true rfl, Nat.le_of_ble_eq_true rfl, rfl, _, fun _ _ h9 => h9, pw_ps h _ hW36⟩
      · conv => whnf
        exact ⟨Nat.le_of_ble_eq_true rfl, Nat.le_of_ble_eq_true rfl, rfl, _, fun _ _ h9 => h9, pw_ps h _ hW19⟩
