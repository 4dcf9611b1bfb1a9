theorem gw1 : (Jvm.Cond.selects "NotationPress$Items" ({ cls := "NotationPress$Items", name := "isBodySound", desc := "(I)Z" } : Jvm.MethodName) ({ cls := "NotationPress$Items", name := "isBodySound", desc := "(I)Z" } : Jvm.MethodName)) ∈ np_gw := np_gwi 1 (by decide +kernel) rfl
theorem gw2 : (Jvm.Cond.selects "NotationPress$Items" ({ cls := "NotationPress$Items", name := "isTellerSound", desc := "(I)Z" } : Jvm.MethodName) ({ cls := "NotationPress$Items", name := "isTellerSound", desc := "(I)Z" } : Jvm.MethodName)) ∈ np_gw := np_gwi 2 (by decide +kernel) rfl
theorem gw5 : (Jvm.Cond.selects "NotationPress$Trace" ({ cls := "NotationPress$Trace", name := "leaveLoop", desc := "()V" } : Jvm.MethodName) ({ cls := "NotationPress$Trace", name := "leaveLoop", desc := "()V" } : Jvm.MethodName)) ∈ np_gw := np_gwi 5 (by decide +kernel) rfl
theorem gw66 : (Jvm.Cond.initialized "NotationPress$Trace") ∈ np_gw := np_gwi 66 (by decide +kernel) rfl
theorem gw103 : (Jvm.Cond.fieldLink "NotationPress$Items" (21 : Nat) "NotationPress$Items" "thirds" "[I") ∈ np_gw := np_gwi 103 (by decide +kernel) rfl
theorem gw106 : (Jvm.Cond.fieldLinkNest "NotationPress$Trace" (56 : Nat) "NotationPress$Items" "count" "I" "NotationPress") ∈ np_nw := np_nwi 106 (by decide +kernel) rfl
theorem gw145 : (Jvm.Cond.fieldLink "NotationPress$Trace" (13 : Nat) "NotationPress$Trace" "values" "[I") ∈ np_gw := np_gwi 145 (by decide +kernel) rfl
theorem gw148 : (Jvm.Cond.fieldLink "NotationPress$Trace" (19 : Nat) "NotationPress$Trace" "starts" "[I") ∈ np_gw := np_gwi 148 (by decide +kernel) rfl
theorem gw149 : (Jvm.Cond.fieldLink "NotationPress$Trace" (27 : Nat) "NotationPress$Trace" "item" "I") ∈ np_gw := np_gwi 149 (by decide +kernel) rfl
theorem gw153 : (Jvm.Cond.fieldLink "NotationPress$Trace" (47 : Nat) "NotationPress$Trace" "loop" "I") ∈ np_gw := np_gwi 153 (by decide +kernel) rfl
theorem gw154 : (Jvm.Cond.fieldLink "NotationPress$Trace" (50 : Nat) "NotationPress$Trace" "times" "I") ∈ np_gw := np_gwi 154 (by decide +kernel) rfl
theorem gw155 : (Jvm.Cond.fieldLink "NotationPress$Trace" (53 : Nat) "NotationPress$Trace" "round" "I") ∈ np_gw := np_gwi 155 (by decide +kernel) rfl
theorem gw157 : (Jvm.Cond.fieldLinkNest "NotationPress$Printer" (25 : Nat) "NotationPress$Trace" "length" "I" "NotationPress") ∈ np_nw := np_nwi 157 (by decide +kernel) rfl
theorem gw158 : (Jvm.Cond.fieldLink "NotationPress$Trace" (34 : Nat) "NotationPress$Trace" "length" "I") ∈ np_gw := np_gwi 158 (by decide +kernel) rfl
theorem gw161 : (Jvm.Cond.fieldLink "NotationPress$Trace" (37 : Nat) "NotationPress$Trace" "digits" "I") ∈ np_gw := np_gwi 161 (by decide +kernel) rfl
theorem gw162 : (Jvm.Cond.fieldLink "NotationPress$Trace" (40 : Nat) "NotationPress$Trace" "digitSum" "I") ∈ np_gw := np_gwi 162 (by decide +kernel) rfl
theorem gw163 : (Jvm.Cond.laysFinal "NotationPress$Trace" "NotationPress$Trace" "values" "[I") ∈ np_gw := np_gwi 163 (by decide +kernel) rfl
theorem gw165 : (Jvm.Cond.laysFinal "NotationPress$Trace" "NotationPress$Trace" "starts" "[I") ∈ np_gw := np_gwi 165 (by decide +kernel) rfl
theorem gw167 : (Jvm.Cond.lays "NotationPress$Trace" "NotationPress$Trace" "item" "I") ∈ np_gw := np_gwi 167 (by decide +kernel) rfl
theorem gw169 : (Jvm.Cond.lays "NotationPress$Trace" "NotationPress$Trace" "loop" "I") ∈ np_gw := np_gwi 169 (by decide +kernel) rfl
theorem gw171 : (Jvm.Cond.lays "NotationPress$Trace" "NotationPress$Trace" "times" "I") ∈ np_gw := np_gwi 171 (by decide +kernel) rfl
theorem gw173 : (Jvm.Cond.lays "NotationPress$Trace" "NotationPress$Trace" "round" "I") ∈ np_gw := np_gwi 173 (by decide +kernel) rfl
theorem gw175 : (Jvm.Cond.lays "NotationPress$Trace" "NotationPress$Trace" "length" "I") ∈ np_gw := np_gwi 175 (by decide +kernel) rfl
theorem gw177 : (Jvm.Cond.lays "NotationPress$Trace" "NotationPress$Trace" "digits" "I") ∈ np_gw := np_gwi 177 (by decide +kernel) rfl
theorem gw179 : (Jvm.Cond.lays "NotationPress$Trace" "NotationPress$Trace" "digitSum" "I") ∈ np_gw := np_gwi 179 (by decide +kernel) rfl
theorem gw182 : (Jvm.Cond.fieldLink "NotationPress$Printer" (9 : Nat) "NotationPress$Printer" "units" "[I") ∈ np_gw := np_gwi 182 (by decide +kernel) rfl
theorem gw184 : (Jvm.Cond.fieldLink "NotationPress$Printer" (21 : Nat) "NotationPress$Printer" "trace" "LNotationPress$Trace;") ∈ np_gw := np_gwi 184 (by decide +kernel) rfl
theorem gw185 : (Jvm.Cond.laysFinal "NotationPress$Printer" "NotationPress$Printer" "units" "[I") ∈ np_gw := np_gwi 185 (by decide +kernel) rfl
theorem gw187 : (Jvm.Cond.laysFinal "NotationPress$Printer" "NotationPress$Printer" "number" "[I") ∈ np_gw := np_gwi 187 (by decide +kernel) rfl
theorem gw189 : (Jvm.Cond.laysFinal "NotationPress$Printer" "NotationPress$Printer" "trace" "LNotationPress$Trace;") ∈ np_gw := np_gwi 189 (by decide +kernel) rfl
theorem gw499 : (Jvm.Cond.instanceMethod ({ cls := "NotationPress$Items", name := "clear", desc := "()V" } : Jvm.MethodName)) ∈ np_gw := np_gwi 499 (by decide +kernel) rfl
theorem gw500 : (Jvm.Cond.selects "NotationPress$Items" ({ cls := "NotationPress$Items", name := "clear", desc := "()V" } : Jvm.MethodName) ({ cls := "NotationPress$Items", name := "clear", desc := "()V" } : Jvm.MethodName)) ∈ np_gw := np_gwi 500 (by decide +kernel) rfl
theorem gw501 : (Jvm.Cond.code ({ cls := "NotationPress$Items", name := "clear", desc := "()V" } : Jvm.MethodName) prog_4_method_5_code (1 : Nat) (Option.none : Option Jvm.ClassFile.FieldType)) ∈ np_gw := np_gwi 501 (by decide +kernel) rfl
theorem gw513 : (Jvm.Cond.methodLink "NotationPress" (93 : Nat) ({ cls := "NotationPress", name := "isSlot", desc := "(I)Z" } : Jvm.MethodName)) ∈ np_gw := np_gwi 513 (by decide +kernel) rfl
theorem gw627 : (Jvm.Cond.instanceMethod ({ cls := "NotationPress$Items", name := "add", desc := "(IIII)V" } : Jvm.MethodName)) ∈ np_gw := np_gwi 627 (by decide +kernel) rfl
theorem gw628 : (Jvm.Cond.selects "NotationPress$Items" ({ cls := "NotationPress$Items", name := "add", desc := "(IIII)V" } : Jvm.MethodName) ({ cls := "NotationPress$Items", name := "add", desc := "(IIII)V" } : Jvm.MethodName)) ∈ np_gw := np_gwi 628 (by decide +kernel) rfl
theorem gw629 : (Jvm.Cond.code ({ cls := "NotationPress$Items", name := "add", desc := "(IIII)V" } : Jvm.MethodName) prog_4_method_6_code (5 : Nat) (Option.none : Option Jvm.ClassFile.FieldType)) ∈ np_gw := np_gwi 629 (by decide +kernel) rfl
theorem gw630 : (Jvm.Cond.methodLinkNest "NotationPress$Items" (32 : Nat) ({ cls := "NotationPress", name := "put", desc := "([III)V" } : Jvm.MethodName) "NotationPress") ∈ np_nw := np_nwi 630 (by decide +kernel) rfl
theorem gw662 : (Jvm.Cond.methodLink "NotationPress$Items" (67 : Nat) ({ cls := "NotationPress$Items", name := "embraces", desc := "(I)Z" } : Jvm.MethodName)) ∈ np_gw := np_gwi 662 (by decide +kernel) rfl
theorem gw663 : (Jvm.Cond.instanceMethod ({ cls := "NotationPress$Items", name := "embraces", desc := "(I)Z" } : Jvm.MethodName)) ∈ np_gw := np_gwi 663 (by decide +kernel) rfl
theorem gw664 : (Jvm.Cond.selects "NotationPress$Items" ({ cls := "NotationPress$Items", name := "embraces", desc := "(I)Z" } : Jvm.MethodName) ({ cls := "NotationPress$Items", name := "embraces", desc := "(I)Z" } : Jvm.MethodName)) ∈ np_gw := np_gwi 664 (by decide +kernel) rfl
theorem gw665 : (Jvm.Cond.code ({ cls := "NotationPress$Items", name := "embraces", desc := "(I)Z" } : Jvm.MethodName) prog_4_method_13_code (2 : Nat) (Option.some Jvm.ClassFile.FieldType.boolean)) ∈ np_gw := np_gwi 665 (by decide +kernel) rfl
theorem gw666 : (Jvm.Cond.methodLink "NotationPress$Items" (70 : Nat) ({ cls := "NotationPress$Items", name := "isBodySound", desc := "(I)Z" } : Jvm.MethodName)) ∈ np_gw := np_gwi 666 (by decide +kernel) rfl
theorem gw668 : (Jvm.Cond.instanceMethod ({ cls := "NotationPress$Items", name := "isBodySound", desc := "(I)Z" } : Jvm.MethodName)) ∈ np_gw := np_gwi 668 (by decide +kernel) rfl
theorem gw669 : (Jvm.Cond.code ({ cls := "NotationPress$Items", name := "isBodySound", desc := "(I)Z" } : Jvm.MethodName) prog_4_method_17_code (4 : Nat) (Option.some Jvm.ClassFile.FieldType.boolean)) ∈ np_gw := np_gwi 669 (by decide +kernel) rfl
theorem gw674 : (Jvm.Cond.methodLink "NotationPress$Items" (73 : Nat) ({ cls := "NotationPress$Items", name := "isTellerSound", desc := "(I)Z" } : Jvm.MethodName)) ∈ np_gw := np_gwi 674 (by decide +kernel) rfl
theorem gw676 : (Jvm.Cond.instanceMethod ({ cls := "NotationPress$Items", name := "isTellerSound", desc := "(I)Z" } : Jvm.MethodName)) ∈ np_gw := np_gwi 676 (by decide +kernel) rfl
theorem gw677 : (Jvm.Cond.code ({ cls := "NotationPress$Items", name := "isTellerSound", desc := "(I)Z" } : Jvm.MethodName) prog_4_method_18_code (4 : Nat) (Option.some Jvm.ClassFile.FieldType.boolean)) ∈ np_gw := np_gwi 677 (by decide +kernel) rfl
theorem gw686 : (Jvm.Cond.methodLink "NotationPress$Items" (36 : Nat) ({ cls := "NotationPress$Items", name := "clear", desc := "()V" } : Jvm.MethodName)) ∈ np_gw := np_gwi 686 (by decide +kernel) rfl
theorem gw687 : (Jvm.Cond.methodLink "NotationPress$Items" (49 : Nat) ({ cls := "NotationPress$Items", name := "c", desc := "(I)I" } : Jvm.MethodName)) ∈ np_gw := np_gwi 687 (by decide +kernel) rfl
theorem gw688 : (Jvm.Cond.instanceMethod ({ cls := "NotationPress$Items", name := "c", desc := "(I)I" } : Jvm.MethodName)) ∈ np_gw := np_gwi 688 (by decide +kernel) rfl
theorem gw689 : (Jvm.Cond.selects "NotationPress$Items" ({ cls := "NotationPress$Items", name := "c", desc := "(I)I" } : Jvm.MethodName) ({ cls := "NotationPress$Items", name := "c", desc := "(I)I" } : Jvm.MethodName)) ∈ np_gw := np_gwi 689 (by decide +kernel) rfl
theorem gw690 : (Jvm.Cond.code ({ cls := "NotationPress$Items", name := "c", desc := "(I)I" } : Jvm.MethodName) prog_4_method_11_code (2 : Nat) (Option.some Jvm.ClassFile.FieldType.int)) ∈ np_gw := np_gwi 690 (by decide +kernel) rfl
theorem gw691 : (Jvm.Cond.methodLink "NotationPress$Items" (52 : Nat) ({ cls := "NotationPress$Items", name := "add", desc := "(IIII)V" } : Jvm.MethodName)) ∈ np_gw := np_gwi 691 (by decide +kernel) rfl
theorem gw705 : (Jvm.Cond.methodLinkNest "NotationPress$Items" (79 : Nat) ({ cls := "NotationPress", name := "fillOfWord", desc := "(I)I" } : Jvm.MethodName) "NotationPress") ∈ np_nw := np_nwi 705 (by decide +kernel) rfl
theorem gw706 : (Jvm.Cond.static ({ cls := "NotationPress", name := "fillOfWord", desc := "(I)I" } : Jvm.MethodName)) ∈ np_gw := np_gwi 706 (by decide +kernel) rfl
theorem gw707 : (Jvm.Cond.code ({ cls := "NotationPress", name := "fillOfWord", desc := "(I)I" } : Jvm.MethodName) prog_1_method_57_code (1 : Nat) (Option.some Jvm.ClassFile.FieldType.int)) ∈ np_gw := np_gwi 707 (by decide +kernel) rfl
theorem gw720 : (Jvm.Cond.static ({ cls := "NotationPress", name := "isCell", desc := "(II)Z" } : Jvm.MethodName)) ∈ np_gw := np_gwi 720 (by decide +kernel) rfl
theorem gw721 : (Jvm.Cond.code ({ cls := "NotationPress", name := "isCell", desc := "(II)Z" } : Jvm.MethodName) prog_1_method_48_code (2 : Nat) (Option.some Jvm.ClassFile.FieldType.boolean)) ∈ np_gw := np_gwi 721 (by decide +kernel) rfl
theorem gw745 : (Jvm.Cond.constant "NotationPress$Trace" (22 : Nat) (-2147483648 : Int32)) ∈ np_gw := np_gwi 745 (by decide +kernel) rfl
theorem gw746 : (Jvm.Cond.methodLinkNest "NotationPress$Trace" (23 : Nat) ({ cls := "NotationPress", name := "fillAll", desc := "([II)V" } : Jvm.MethodName) "NotationPress") ∈ np_nw := np_nwi 746 (by decide +kernel) rfl
theorem gw747 : (Jvm.Cond.methodLink "NotationPress$Trace" (31 : Nat) ({ cls := "NotationPress$Trace", name := "leaveLoop", desc := "()V" } : Jvm.MethodName)) ∈ np_gw := np_gwi 747 (by decide +kernel) rfl
theorem gw749 : (Jvm.Cond.instanceMethod ({ cls := "NotationPress$Trace", name := "leaveLoop", desc := "()V" } : Jvm.MethodName)) ∈ np_gw := np_gwi 749 (by decide +kernel) rfl
theorem gw750 : (Jvm.Cond.code ({ cls := "NotationPress$Trace", name := "leaveLoop", desc := "()V" } : Jvm.MethodName) prog_10_method_12_code (1 : Nat) (Option.none : Option Jvm.ClassFile.FieldType)) ∈ np_gw := np_gwi 750 (by decide +kernel) rfl
theorem gw765 : (Jvm.Cond.methodLink "NotationPress$Trace" (88 : Nat) ({ cls := "NotationPress$Items", name := "a", desc := "(I)I" } : Jvm.MethodName)) ∈ np_gw := np_gwi 765 (by decide +kernel) rfl
theorem gw766 : (Jvm.Cond.methodLinkNest "NotationPress$Trace" (65 : Nat) ({ cls := "NotationPress", name := "cellPlace", desc := "(II)I" } : Jvm.MethodName) "NotationPress") ∈ np_nw := np_nwi 766 (by decide +kernel) rfl
theorem gw767 : (Jvm.Cond.methodLinkNest "NotationPress$Trace" (77 : Nat) ({ cls := "NotationPress", name := "at", desc := "([III)I" } : Jvm.MethodName) "NotationPress") ∈ np_nw := np_nwi 767 (by decide +kernel) rfl
theorem gw768 : (Jvm.Cond.methodLink "NotationPress$Trace" (91 : Nat) ({ cls := "NotationPress$Items", name := "kind", desc := "(I)I" } : Jvm.MethodName)) ∈ np_gw := np_gwi 768 (by decide +kernel) rfl
theorem gw769 : (Jvm.Cond.methodLinkNest "NotationPress$Trace" (94 : Nat) ({ cls := "NotationPress", name := "isBetween", desc := "(III)Z" } : Jvm.MethodName) "NotationPress") ∈ np_nw := np_nwi 769 (by decide +kernel) rfl
theorem gw770 : (Jvm.Cond.methodLink "NotationPress$Trace" (98 : Nat) ({ cls := "NotationPress$Items", name := "c", desc := "(I)I" } : Jvm.MethodName)) ∈ np_gw := np_gwi 770 (by decide +kernel) rfl
theorem gw771 : (Jvm.Cond.methodLink "NotationPress$Trace" (85 : Nat) ({ cls := "NotationPress$Items", name := "b", desc := "(I)I" } : Jvm.MethodName)) ∈ np_gw := np_gwi 771 (by decide +kernel) rfl
theorem gw805 : (Jvm.Cond.methodLinkNest "NotationPress$Printer" (29 : Nat) ({ cls := "NotationPress", name := "at", desc := "([III)I" } : Jvm.MethodName) "NotationPress") ∈ np_nw := np_nwi 805 (by decide +kernel) rfl
theorem gw810 : (Jvm.Cond.methodLink "NotationPress$Trace" (73 : Nat) ({ cls := "NotationPress$Trace", name := "startOf", desc := "(I)I" } : Jvm.MethodName)) ∈ np_gw := np_gwi 810 (by decide +kernel) rfl
theorem gw811 : (Jvm.Cond.instanceMethod ({ cls := "NotationPress$Trace", name := "startOf", desc := "(I)I" } : Jvm.MethodName)) ∈ np_gw := np_gwi 811 (by decide +kernel) rfl
theorem gw812 : (Jvm.Cond.selects "NotationPress$Trace" ({ cls := "NotationPress$Trace", name := "startOf", desc := "(I)I" } : Jvm.MethodName) ({ cls := "NotationPress$Trace", name := "startOf", desc := "(I)I" } : Jvm.MethodName)) ∈ np_gw := np_gwi 812 (by decide +kernel) rfl
theorem gw813 : (Jvm.Cond.code ({ cls := "NotationPress$Trace", name := "startOf", desc := "(I)I" } : Jvm.MethodName) prog_10_method_7_code (2 : Nat) (Option.some Jvm.ClassFile.FieldType.int)) ∈ np_gw := np_gwi 813 (by decide +kernel) rfl
theorem gw814 : (Jvm.Cond.methodLinkNest "NotationPress$Trace" (69 : Nat) ({ cls := "NotationPress", name := "put", desc := "([III)V" } : Jvm.MethodName) "NotationPress") ∈ np_nw := np_nwi 814 (by decide +kernel) rfl
theorem gw819 : (Jvm.Cond.methodLinkNest "NotationPress$Trace" (61 : Nat) ({ cls := "NotationPress", name := "isCell", desc := "(II)Z" } : Jvm.MethodName) "NotationPress") ∈ np_nw := np_nwi 819 (by decide +kernel) rfl
set_option maxRecDepth 20000 in
theorem guX3 : ∀ w ∈ u_ws RX3 TX3 3, w ∈ np_gw := by
  show ∀ w ∈ [(Jvm.Cond.laysFinal "NotationPress$Printer" "NotationPress$Printer" "units" "[I"), (Jvm.Cond.laysFinal "NotationPress$Printer" "NotationPress$Printer" "number" "[I"), (Jvm.Cond.laysFinal "NotationPress$Printer" "NotationPress$Printer" "trace" "LNotationPress$Trace;")], w ∈ np_gw
  exact List.forall_mem_cons.mpr ⟨gw185, List.forall_mem_cons.mpr ⟨gw187, List.forall_mem_cons.mpr ⟨gw189, fun _ h => nomatch h⟩⟩⟩
theorem ndX3 : ∀ j, j < 3 → defaultValue (tyX3 j) = vp_V [.null, .null, .null] j := by decide +kernel
theorem nfX3 : ∀ v ∈ ([.null, .null, .null] : List Value), ∀ ad : Nat → Nat, np_v ad v = v := by
  intro v hv ad
  simp only [List.mem_cons, List.not_mem_nil, or_false] at hv
  rcases hv with rfl | rfl | rfl <;> rfl
set_option maxRecDepth 20000 in
theorem guX8 : ∀ w ∈ u_ws RX8 TX8 9, w ∈ np_gw := by
  show ∀ w ∈ [(Jvm.Cond.laysFinal "NotationPress$Trace" "NotationPress$Trace" "values" "[I"), (Jvm.Cond.laysFinal "NotationPress$Trace" "NotationPress$Trace" "starts" "[I"), (Jvm.Cond.lays "NotationPress$Trace" "NotationPress$Trace" "item" "I"), (Jvm.Cond.lays "NotationPress$Trace" "NotationPress$Trace" "loop" "I"), (Jvm.Cond.lays "NotationPress$Trace" "NotationPress$Trace" "times" "I"), (Jvm.Cond.lays "NotationPress$Trace" "NotationPress$Trace" "round" "I"), (Jvm.Cond.lays "NotationPress$Trace" "NotationPress$Trace" "length" "I"), (Jvm.Cond.lays "NotationPress$Trace" "NotationPress$Trace" "digits" "I"), (Jvm.Cond.lays "NotationPress$Trace" "NotationPress$Trace" "digitSum" "I")], w ∈ np_gw
  exact List.forall_mem_cons.mpr ⟨gw163, List.forall_mem_cons.mpr ⟨gw165, List.forall_mem_cons.mpr ⟨gw167, List.forall_mem_cons.mpr ⟨gw169, List.forall_mem_cons.mpr ⟨gw171, List.forall_mem_cons.mpr ⟨gw173, List.forall_mem_cons.mpr ⟨gw175, List.forall_mem_cons.mpr ⟨gw177, List.forall_mem_cons.mpr ⟨gw179, fun _ h => nomatch h⟩⟩⟩⟩⟩⟩⟩⟩⟩
theorem ndX8 : ∀ j, j < 9 → defaultValue (tyX8 j) = vp_V [.null, .null, .int 0, .int 0, .int 0, .int 0, .int 0, .int 0, .int 0] j := by decide +kernel
theorem nfX8 : ∀ v ∈ ([.null, .null, .int 0, .int 0, .int 0, .int 0, .int 0, .int 0, .int 0] : List Value), ∀ ad : Nat → Nat, np_v ad v = v := by
  intro v hv ad
  simp only [List.mem_cons, List.not_mem_nil, or_false] at hv
  rcases hv with rfl | rfl | rfl | rfl | rfl | rfl | rfl | rfl | rfl <;> rfl
theorem dX2_isFull_0 : decode cX2_isFull 0 = .ok (.aload_n 0, 1) := by decide +kernel
theorem dX2_isFull_1 : decode cX2_isFull 1 = .ok (.getfield 28, 3) := by decide +kernel
theorem dX2_isFull_4 : decode cX2_isFull 4 = .ok (.bipush 14, 2) := by decide +kernel
theorem dX2_isFull_6 : decode cX2_isFull 6 = .ok (.if_icmp .lt 7, 3) := by decide +kernel
theorem dX2_isFull_9 : decode cX2_isFull 9 = .ok (.iconst 1, 1) := by decide +kernel
theorem dX2_isFull_10 : decode cX2_isFull 10 = .ok (.goto 4, 3) := by decide +kernel
theorem dX2_isFull_13 : decode cX2_isFull 13 = .ok (.iconst 0, 1) := by decide +kernel
theorem dX2_isFull_14 : decode cX2_isFull 14 = .ok (.ireturn, 1) := by decide +kernel
def is_X2_isFull (Rt : np_Rt) : List (Nat × np_Op) := [(0, np_ald 1 0), (1, nw_getf 2 4), (4, np_push 2 (.int 14)), (6, nq_ic (fun x y => x < y) 13), (9, np_push 1 (.int 1)), (10, np_goto 14), (13, np_push 1 (.int 0)), (14, np_ret Rt)]
set_option maxRecDepth 20000 in
theorem so_X2_isFull {X : np_Ctx} {Rt : np_Rt} (hX : np_ok RX2 cX2_isFull 1 0 0 0 0 .ireturn X) (hR : ∀ st w ce sl, Rt st w ce sl → X.2.2.1 st w ce sl) : ∀ q ∈ is_X2_isFull Rt, np_S X q.1 q.2 :=
  List.forall_mem_cons.mpr ⟨np_s_aload_n hX dX2_isFull_0 rfl, List.forall_mem_cons.mpr ⟨np_S.mono (op := np_getf 2 4) (np_s_getf hX dX2_isFull_1 (C := RX2) (T := TX2) (N := 5) rfl guX2 (by decide) gw105) nw_getf_le, List.forall_mem_cons.mpr ⟨np_s_bipush hX dX2_isFull_4 (by decide), List.forall_mem_cons.mpr ⟨np_S.mono (op := np_ic (fun x y => x < y) 13) (np_s_icmp_lt hX dX2_isFull_6 (by decide)) nq_ic_le, List.forall_mem_cons.mpr ⟨np_s_iconst hX dX2_isFull_9 (by decide), List.forall_mem_cons.mpr ⟨np_s_goto hX dX2_isFull_10 (by decide), List.forall_mem_cons.mpr ⟨np_s_iconst hX dX2_isFull_13 (by decide), List.forall_mem_cons.mpr ⟨np_S.mono (op := np_ret X.2.2.1) (np_s_ret hX dX2_isFull_14) (nq_ret_le hR), fun _ h => nomatch h⟩⟩⟩⟩⟩⟩⟩⟩
noncomputable def m_X2_isFull (S : pw_S) (i0 : Nat) : pw_R Int32 :=
 if (S 51 i0 4) < 14 then
 (some (S, 0))
 else
 (some (S, 1))
def sp_X2_isFull : np_Sp := fun vs w Q => ∃ (q : Nat) (S : pw_S) (i0 : Nat), vs = [.ref (pw_pl 51 i0)] ∧ pw_ok q 51 i0 = true ∧ pw_W q w S ∧ pw_p (m_X2_isFull S i0) (fun S' r => ∀ f', pw_W q (w.1, f') S' → Q (some (.int r)) (w.1, f'))
set_option maxRecDepth 100000 in
set_option maxHeartbeats 8000000 in
theorem C_X2_isFull : np_C yX2_isFull cX2_isFull 1 (some .boolean) 0 0 0 0 sp_X2_isFull := by
  refine np_of (by decide) ?_
  intro X vs w Q hsp hX hmn hRt hlt
  obtain ⟨q, S, i0, rfl, hi0, hW, h⟩ := hsp
  obtain ⟨n, f⟩ := w
  unfold m_X2_isFull at h
  have hR : ∀ st w ce sl, np_rt (some .boolean) 0 0 Q st w ce sl → X.2.2.1 st w ce sl := fun _ _ _ _ h => by rw [hRt]; exact h
  refine np_soundW (so_X2_isFull hX hR) [] 400 0 _ _ _ _ _ ?_
  conv => whnf
  refine np_rd_i (hW.g hi0) ?_
  conv => whnf
  refine pw_br h (fun _ h => ?_) (fun _ h => ?_)
  · conv => whnf
    exact ⟨Nat.le_of_ble_eq_true rfl, Nat.le_of_ble_eq_true rfl, ⟨_, rfl, by decide⟩, _, fun _ _ h9 => h9, pw_ps h _ hW⟩
  · conv => whnf
    exact ⟨Nat.le_of_ble_eq_true rfl, Nat.le_of_ble_eq_true rfl, ⟨_, rfl, by decide⟩, _, fun _ _ h9 => h9, pw_ps h _ hW⟩
theorem dX2_clear_0 : decode cX2_clear 0 = .ok (.aload_n 0, 1) := by decide +kernel
theorem dX2_clear_1 : decode cX2_clear 1 = .ok (.iconst 0, 1) := by decide +kernel
theorem dX2_clear_2 : decode cX2_clear 2 = .ok (.putfield 28, 3) := by decide +kernel
theorem dX2_clear_5 : decode cX2_clear 5 = .ok (.return_, 1) := by decide +kernel
def is_X2_clear (Rt : np_Rt) : List (Nat × np_Op) := [(0, np_ald 1 0), (1, np_push 1 (.int 0)), (2, nw_putf 2 4 (.int)), (5, np_ret Rt)]
set_option maxRecDepth 20000 in
theorem so_X2_clear {X : np_Ctx} {Rt : np_Rt} (hX : np_ok RX2 cX2_clear 1 0 0 0 0 .return_ X) (hR : ∀ st w ce sl, Rt st w ce sl → X.2.2.1 st w ce sl) : ∀ q ∈ is_X2_clear Rt, np_S X q.1 q.2 :=
  List.forall_mem_cons.mpr ⟨np_s_aload_n hX dX2_clear_0 rfl, List.forall_mem_cons.mpr ⟨np_s_iconst hX dX2_clear_1 (by decide), List.forall_mem_cons.mpr ⟨np_S.mono (op := np_putf 2 4 (.int)) (np_s_putf hX dX2_clear_2 (C := RX2) (T := TX2) (N := 5) (ty0 := tyX2) rfl guX2 tyX2_ok nmX2 (by decide) gw105 rfl rfl) nw_putf_le, List.forall_mem_cons.mpr ⟨np_S.mono (op := np_ret X.2.2.1) (np_s_ret hX dX2_clear_5) (nq_ret_le hR), fun _ h => nomatch h⟩⟩⟩⟩
noncomputable def m_X2_clear (S : pw_S) (i0 : Nat) : pw_R Unit :=
 pw_l (pw_up S 51 i0 (upd (S 51 i0) 4 0)) fun S1 =>
 some (S1, ())
def sp_X2_clear : np_Sp := fun vs w Q => ∃ (q : Nat) (S : pw_S) (i0 : Nat), vs = [.ref (pw_pl 51 i0)] ∧ pw_ok q 51 i0 = true ∧ pw_W q w S ∧ pw_p (m_X2_clear S i0) (fun S' r => ∀ f', pw_W q (w.1, f') S' → Q none (w.1, f'))
set_option maxRecDepth 100000 in
set_option maxHeartbeats 8000000 in
theorem C_X2_clear : np_C yX2_clear cX2_clear 1 none 0 0 0 0 sp_X2_clear := by
  refine np_of (by decide) ?_
  intro X vs w Q hsp hX hmn hRt hlt
  obtain ⟨q, S, i0, rfl, hi0, hW, h⟩ := hsp
  obtain ⟨n, f⟩ := w
  unfold m_X2_clear at h
  have hR : ∀ st w ce sl, np_rt none 0 0 Q st w ce sl → X.2.2.1 st w ce sl := fun _ _ _ _ h => by rw [hRt]; exact h
  refine np_soundW (so_X2_clear hX hR) [] 400 0 _ _ _ _ _ ?_
  conv => whnf
  refine np_rd_i (hW.g hi0) ?_
  conv => whnf
  refine pw_wr (a := 51) (i := i0) (d := upd (S 51 i0) 4 0) hW hi0 rfl h (fun S1 f2 hW3 h => ?_)
  conv => whnf
  exact ⟨Nat.le_of_ble_eq_true rfl, Nat.le_of_ble_eq_true rfl, rfl, _, fun _ _ h9 => h9, pw_ps h _ hW3⟩
theorem dX2_add_0 : decode cX2_add 0 = .ok (.aload_n 0, 1) := by decide +kernel
theorem dX2_add_1 : decode cX2_add 1 = .ok (.getfield 9, 3) := by decide +kernel
theorem dX2_add_4 : decode cX2_add 4 = .ok (.aload_n 0, 1) := by decide +kernel
theorem dX2_add_5 : decode cX2_add 5 = .ok (.getfield 28, 3) := by decide +kernel
theorem dX2_add_8 : decode cX2_add 8 = .ok (.iload_n 1, 1) := by decide +kernel
theorem dX2_add_9 : decode cX2_add 9 = .ok (.invokestatic 32, 3) := by decide +kernel
theorem dX2_add_12 : decode cX2_add 12 = .ok (.aload_n 0, 1) := by decide +kernel
theorem dX2_add_13 : decode cX2_add 13 = .ok (.getfield 15, 3) := by decide +kernel
theorem dX2_add_16 : decode cX2_add 16 = .ok (.aload_n 0, 1) := by decide +kernel
theorem dX2_add_17 : decode cX2_add 17 = .ok (.getfield 28, 3) := by decide +kernel
theorem dX2_add_20 : decode cX2_add 20 = .ok (.iload_n 2, 1) := by decide +kernel
theorem dX2_add_21 : decode cX2_add 21 = .ok (.invokestatic 32, 3) := by decide +kernel
theorem dX2_add_24 : decode cX2_add 24 = .ok (.aload_n 0, 1) := by decide +kernel
theorem dX2_add_25 : decode cX2_add 25 = .ok (.getfield 18, 3) := by decide +kernel
theorem dX2_add_28 : decode cX2_add 28 = .ok (.aload_n 0, 1) := by decide +kernel
theorem dX2_add_29 : decode cX2_add 29 = .ok (.getfield 28, 3) := by decide +kernel
theorem dX2_add_32 : decode cX2_add 32 = .ok (.iload_n 3, 1) := by decide +kernel
theorem dX2_add_33 : decode cX2_add 33 = .ok (.invokestatic 32, 3) := by decide +kernel
theorem dX2_add_36 : decode cX2_add 36 = .ok (.aload_n 0, 1) := by decide +kernel
theorem dX2_add_37 : decode cX2_add 37 = .ok (.getfield 21, 3) := by decide +kernel
theorem dX2_add_40 : decode cX2_add 40 = .ok (.aload_n 0, 1) := by decide +kernel
theorem dX2_add_41 : decode cX2_add 41 = .ok (.getfield 28, 3) := by decide +kernel
theorem dX2_add_44 : decode cX2_add 44 = .ok (.iload 4, 2) := by decide +kernel
theorem dX2_add_46 : decode cX2_add 46 = .ok (.invokestatic 32, 3) := by decide +kernel
theorem dX2_add_49 : decode cX2_add 49 = .ok (.aload_n 0, 1) := by decide +kernel
theorem dX2_add_50 : decode cX2_add 50 = .ok (.dup, 1) := by decide +kernel
theorem dX2_add_51 : decode cX2_add 51 = .ok (.getfield 28, 3) := by decide +kernel
theorem dX2_add_54 : decode cX2_add 54 = .ok (.iconst 1, 1) := by decide +kernel
theorem dX2_add_55 : decode cX2_add 55 = .ok (.iadd, 1) := by decide +kernel
theorem dX2_add_56 : decode cX2_add 56 = .ok (.putfield 28, 3) := by decide +kernel
theorem dX2_add_59 : decode cX2_add 59 = .ok (.return_, 1) := by decide +kernel
def is_X2_add (Rt : np_Rt) : List (Nat × np_Op) := [(0, np_ald 1 0), (1, nw_getf 2 0), (4, np_ald 1 0), (5, nw_getf 2 4), (8, np_ild 1 1), (9, nq_call 3 sp_X11_put 3 0 0 0 0), (12, np_ald 1 0), (13, nw_getf 2 1), (16, np_ald 1 0), (17, nw_getf 2 4), (20, np_ild 1 2), (21, nq_call 3 sp_X11_put 3 0 0 0 0), (24, np_ald 1 0), (25, nw_getf 2 2), (28, np_ald 1 0), (29, nw_getf 2 4), (32, np_ild 1 3), (33, nq_call 3 sp_X11_put 3 0 0 0 0), (36, np_ald 1 0), (37, nw_getf 2 3), (40, np_ald 1 0), (41, nw_getf 2 4), (44, np_ild 2 4), (46, nq_call 3 sp_X11_put 3 0 0 0 0), (49, np_ald 1 0), (50, nq_dup), (51, nw_getf 2 4), (54, np_push 1 (.int 1)), (55, np_ib (fun x y => x + y)), (56, nw_putf 2 4 (.int)), (59, np_ret Rt)]
set_option maxRecDepth 20000 in
theorem so_X2_add {X : np_Ctx} {Rt : np_Rt} (hX : np_ok RX2 cX2_add 5 1 22 0 0 .return_ X) (hR : ∀ st w ce sl, Rt st w ce sl → X.2.2.1 st w ce sl) : ∀ q ∈ is_X2_add Rt, np_S X q.1 q.2 :=
  List.forall_mem_cons.mpr ⟨np_s_aload_n hX dX2_add_0 rfl, List.forall_mem_cons.mpr ⟨np_S.mono (op := np_getf 2 0) (np_s_getf hX dX2_add_1 (C := RX2) (T := TX2) (N := 5) rfl guX2 (by decide) gw100) nw_getf_le, List.forall_mem_cons.mpr ⟨np_s_aload_n hX dX2_add_4 rfl, List.forall_mem_cons.mpr ⟨np_S.mono (op := np_getf 2 4) (np_s_getf hX dX2_add_5 (C := RX2) (T := TX2) (N := 5) rfl guX2 (by decide) gw105) nw_getf_le, List.forall_mem_cons.mpr ⟨np_s_iload_n hX dX2_add_8 rfl, List.forall_mem_cons.mpr ⟨np_S.mono (op := np_call 3 sp_X11_put 3 0 0 0 0) (np_s_callSN hX C_X11_put dX2_add_9 gw632 gw63 gw630 gw631 ⟨by decide, by decide, by decide⟩ (by decide) (by decide)) nq_call_le, List.forall_mem_cons.mpr ⟨np_s_aload_n hX dX2_add_12 rfl, List.forall_mem_cons.mpr ⟨np_S.mono (op := np_getf 2 1) (np_s_getf hX dX2_add_13 (C := RX2) (T := TX2) (N := 5) rfl guX2 (by decide) gw101) nw_getf_le, List.forall_mem_cons.mpr ⟨np_s_aload_n hX dX2_add_16 rfl, List.forall_mem_cons.mpr ⟨np_S.mono (op := np_getf 2 4) (np_s_getf hX dX2_add_17 (C := RX2) (T := TX2) (N := 5) rfl guX2 (by decide) gw105) nw_getf_le, List.forall_mem_cons.mpr ⟨np_s_iload_n hX dX2_add_20 rfl, List.forall_mem_cons.mpr ⟨np_S.mono (op := np_call 3 sp_X11_put 3 0 0 0 0) (np_s_callSN hX C_X11_put dX2_add_21 gw632 gw63 gw630 gw631 ⟨by decide, by decide, by decide⟩ (by decide) (by decide)) nq_call_le, List.forall_mem_cons.mpr ⟨np_s_aload_n hX dX2_add_24 rfl, List.forall_mem_cons.mpr ⟨np_S.mono (op := np_getf 2 2) (np_s_getf hX dX2_add_25 (C := RX2) (T := TX2) (N := 5) rfl guX2 (by decide) gw102) nw_getf_le, List.forall_mem_cons.mpr ⟨np_s_aload_n hX dX2_add_28 rfl, List.forall_mem_cons.mpr ⟨np_S.mono (op := np_getf 2 4) (np_s_getf hX dX2_add_29 (C := RX2) (T := TX2) (N := 5) rfl guX2 (by decide) gw105) nw_getf_le, List.forall_mem_cons.mpr ⟨np_s_iload_n hX dX2_add_32 rfl, List.forall_mem_cons.mpr ⟨np_S.mono (op := np_call 3 sp_X11_put 3 0 0 0 0) (np_s_callSN hX C_X11_put dX2_add_33 gw632 gw63 gw630 gw631 ⟨by decide, by decide, by decide⟩ (by decide) (by decide)) nq_call_le, List.forall_mem_cons.mpr ⟨np_s_aload_n hX dX2_add_36 rfl, List.forall_mem_cons.mpr ⟨np_S.mono (op := np_getf 2 3) (np_s_getf hX dX2_add_37 (C := RX2) (T := TX2) (N := 5) rfl guX2 (by decide) gw103) nw_getf_le, List.forall_mem_cons.mpr ⟨np_s_aload_n hX dX2_add_40 rfl, List.forall_mem_cons.mpr ⟨np_S.mono (op := np_getf 2 4) (np_s_getf hX dX2_add_41 (C := RX2) (T := TX2) (N := 5) rfl guX2 (by decide) gw105) nw_getf_le, List.forall_mem_cons.mpr ⟨np_s_iload hX dX2_add_44, List.forall_mem_cons.mpr ⟨np_S.mono (op := np_call 3 sp_X11_put 3 0 0 0 0) (np_s_callSN hX C_X11_put dX2_add_46 gw632 gw63 gw630 gw631 ⟨by decide, by decide, by decide⟩ (by decide) (by decide)) nq_call_le, List.forall_mem_cons.mpr ⟨np_s_aload_n hX dX2_add_49 rfl, List.forall_mem_cons.mpr ⟨np_S.mono (op := np_dup) (np_s_dup hX dX2_add_50) nq_dup_le, List.forall_mem_cons.mpr ⟨np_S.mono (op := np_getf 2 4) (np_s_getf hX dX2_add_51 (C := RX2) (T := TX2) (N := 5) rfl guX2 (by decide) gw105) nw_getf_le, List.forall_mem_cons.mpr ⟨np_s_iconst hX dX2_add_54 (by decide), List.forall_mem_cons.mpr ⟨np_s_iadd hX dX2_add_55, List.forall_mem_cons.mpr ⟨np_S.mono (op := np_putf 2 4 (.int)) (np_s_putf hX dX2_add_56 (C := RX2) (T := TX2) (N := 5) (ty0 := tyX2) rfl guX2 tyX2_ok nmX2 (by decide) gw105 rfl rfl) nw_putf_le, List.forall_mem_cons.mpr ⟨np_S.mono (op := np_ret X.2.2.1) (np_s_ret hX dX2_add_59) (nq_ret_le hR), fun _ h => nomatch h⟩⟩⟩⟩⟩⟩⟩⟩⟩⟩⟩⟩⟩⟩⟩⟩⟩⟩⟩⟩⟩⟩⟩⟩⟩⟩⟩⟩⟩⟩⟩
noncomputable def m_X2_add (S : pw_S) (i0 : Nat) (x1 : Int32) (x2 : Int32) (x3 : Int32) (x4 : Int32) : pw_R Unit :=
 pw_b (m_X11_put S 2 i0 (S 51 i0 4) x1) fun S1 r4 =>
 pw_b (m_X11_put S1 3 i0 (S1 51 i0 4) x2) fun S6 r9 =>
 pw_b (m_X11_put S6 4 i0 (S6 51 i0 4) x3) fun S11 r14 =>
 pw_b (m_X11_put S11 5 i0 (S11 51 i0 4) x4) fun S16 r19 =>
 pw_l (pw_up S16 51 i0 (upd (S16 51 i0) 4 ((S16 51 i0 4) + 1))) fun S21 =>
 some (S21, ())
def sp_X2_add : np_Sp := fun vs w Q => ∃ (q : Nat) (S : pw_S) (i0 : Nat) (x1 : Int32) (x2 : Int32) (x3 : Int32) (x4 : Int32), vs = [.ref (pw_pl 51 i0), .int x1, .int x2, .int x3, .int x4] ∧ pw_ok q 51 i0 = true ∧ pw_W q w S ∧ pw_p (m_X2_add S i0 x1 x2 x3 x4) (fun S' r => ∀ f', pw_W q (w.1, f') S' → Q none (w.1, f'))
set_option maxRecDepth 100000 in
set_option maxHeartbeats 8000000 in
theorem C_X2_add : np_C yX2_add cX2_add 5 none 1 22 0 0 sp_X2_add := by
  refine np_of (by decide) ?_
  intro X vs w Q hsp hX hmn hRt hlt
  obtain ⟨q, S, i0, x1, x2, x3, x4, rfl, hi0, hW, h⟩ := hsp
  obtain ⟨n, f⟩ := w
  unfold m_X2_add at h
  have hR : ∀ st w ce sl, np_rt none 0 0 Q st w ce sl → X.2.2.1 st w ce sl := fun _ _ _ _ h => by rw [hRt]; exact h
  refine np_soundW (so_X2_add hX hR) [] 400 0 _ _ _ _ _ ?_
  conv => whnf
  refine np_rd_i (hW.g hi0) ?_
  conv => whnf
  refine np_rd_i (hW.g hi0) ?_
  conv => whnf
  refine ⟨q, S, 2, i0, (S 51 i0 4), x1, rfl, rfl, hi0, hW, pw_bd h (fun S1 r4 h f2 hW3 => ?_)⟩
  conv => whnf
  refine np_rd_i (hW3.g hi0) ?_
  conv => whnf
  refine np_rd_i (hW3.g hi0) ?_
  conv => whnf
  refine ⟨q, S1, 3, i0, (S1 51 i0 4), x2, rfl, rfl, hi0, hW3, pw_bd h (fun S6 r9 h f7 hW8 => ?_)⟩
  conv => whnf
  refine np_rd_i (hW8.g hi0) ?_
  conv => whnf
  refine np_rd_i (hW8.g hi0) ?_
  conv => whnf
  refine ⟨q, S6, 4, i0, (S6 51 i0 4), x3, rfl, rfl, hi0, hW8, pw_bd h (fun S11 r14 h f12 hW13 => ?_)⟩
  conv => whnf
  refine np_rd_i (hW13.g hi0) ?_
  conv => whnf
  refine np_rd_i (hW13.g hi0) ?_
  conv => whnf
  refine ⟨q, S11, 5, i0, (S11 51 i0 4), x4, rfl, rfl, hi0, hW13, pw_bd h (fun S16 r19 h f17 hW18 => ?_)⟩
  conv => whnf
  refine np_rd_i (hW18.g hi0) ?_
  conv => whnf
  refine np_rd_i (hW18.g hi0) ?_
  conv => whnf
  refine pw_wr (a := 51) (i := i0) (d := upd (S16 51 i0) 4 ((S16 51 i0 4) + 1)) hW18 hi0 rfl h (fun S21 f22 hW23 h => ?_)
  conv => whnf
  exact ⟨Nat.le_of_ble_eq_true rfl, Nat.le_of_ble_eq_true rfl, rfl, _, fun _ _ h9 => h9, pw_ps h _ hW23⟩
theorem dX2_c_0 : decode cX2_c 0 = .ok (.aload_n 0, 1) := by decide +kernel
theorem dX2_c_1 : decode cX2_c 1 = .ok (.getfield 21, 3) := by decide +kernel
theorem dX2_c_4 : decode cX2_c 4 = .ok (.iload_n 1, 1) := by decide +kernel
theorem dX2_c_5 : decode cX2_c 5 = .ok (.iconst 0, 1) := by decide +kernel
theorem dX2_c_6 : decode cX2_c 6 = .ok (.invokestatic 56, 3) := by decide +kernel
theorem dX2_c_9 : decode cX2_c 9 = .ok (.ireturn, 1) := by decide +kernel
def is_X2_c (Rt : np_Rt) : List (Nat × np_Op) := [(0, np_ald 1 0), (1, nw_getf 2 3), (4, np_ild 1 1), (5, np_push 1 (.int 0)), (6, nq_call 3 sp_X11_at 3 0 0 0 0), (9, np_ret Rt)]
set_option maxRecDepth 20000 in
theorem so_X2_c {X : np_Ctx} {Rt : np_Rt} (hX : np_ok RX2 cX2_c 2 1 22 0 0 .ireturn X) (hR : ∀ st w ce sl, Rt st w ce sl → X.2.2.1 st w ce sl) : ∀ q ∈ is_X2_c Rt, np_S X q.1 q.2 :=
  List.forall_mem_cons.mpr ⟨np_s_aload_n hX dX2_c_0 rfl, List.forall_mem_cons.mpr ⟨np_S.mono (op := np_getf 2 3) (np_s_getf hX dX2_c_1 (C := RX2) (T := TX2) (N := 5) rfl guX2 (by decide) gw103) nw_getf_le, List.forall_mem_cons.mpr ⟨np_s_iload_n hX dX2_c_4 rfl, List.forall_mem_cons.mpr ⟨np_s_iconst hX dX2_c_5 (by decide), List.forall_mem_cons.mpr ⟨np_S.mono (op := np_call 3 sp_X11_at 3 0 0 0 0) (np_s_callSN hX C_X11_at dX2_c_6 gw653 gw63 gw651 gw652 ⟨by decide, by decide, by decide⟩ (by decide) (by decide)) nq_call_le, List.forall_mem_cons.mpr ⟨np_S.mono (op := np_ret X.2.2.1) (np_s_ret hX dX2_c_9) (nq_ret_le hR), fun _ h => nomatch h⟩⟩⟩⟩⟩⟩
noncomputable def m_X2_c (S : pw_S) (i0 : Nat) (x1 : Int32) : pw_R Int32 :=
 pw_b (m_X11_at S 5 i0 x1 0) fun S1 r4 =>
 some (S1, r4)
def sp_X2_c : np_Sp := fun vs w Q => ∃ (q : Nat) (S : pw_S) (i0 : Nat) (x1 : Int32), vs = [.ref (pw_pl 51 i0), .int x1] ∧ pw_ok q 51 i0 = true ∧ pw_W q w S ∧ pw_p (m_X2_c S i0 x1) (fun S' r => ∀ f', pw_W q (w.1, f') S' → Q (some (.int r)) (w.1, f'))
set_option maxRecDepth 100000 in
set_option maxHeartbeats 8000000 in
theorem C_X2_c : np_C yX2_c cX2_c 2 (some .int) 1 22 0 0 sp_X2_c := by
  refine np_of (by decide) ?_
  intro X vs w Q hsp hX hmn hRt hlt
  obtain ⟨q, S, i0, x1, rfl, hi0, hW, h⟩ := hsp
  obtain ⟨n, f⟩ := w
  unfold m_X2_c at h
  have hR : ∀ st w ce sl, np_rt (some .int) 0 0 Q st w ce sl → X.2.2.1 st w ce sl := fun _ _ _ _ h => by rw [hRt]; exact h
  refine np_soundW (so_X2_c hX hR) [] 400 0 _ _ _ _ _ ?_
  conv => whnf
  refine np_rd_i (hW.g hi0) ?_
  conv => whnf
  refine ⟨q, S, 5, i0, x1, 0, rfl, rfl, hi0, hW, pw_bd h (fun S1 r4 h f2 hW3 => ?_)⟩
  conv => whnf
  exact ⟨Nat.le_of_ble_eq_true rfl, Nat.le_of_ble_eq_true rfl, ⟨_, rfl⟩, _, fun _ _ h9 => h9, pw_ps h _ hW3⟩
theorem dX2_copyFrom_0 : decode cX2_copyFrom 0 = .ok (.aload_n 0, 1) := by decide +kernel
theorem dX2_copyFrom_1 : decode cX2_copyFrom 1 = .ok (.invokevirtual 36, 3) := by decide +kernel
theorem dX2_copyFrom_4 : decode cX2_copyFrom 4 = .ok (.iconst 0, 1) := by decide +kernel
theorem dX2_copyFrom_5 : decode cX2_copyFrom 5 = .ok (.istore_n 2, 1) := by decide +kernel
theorem dX2_copyFrom_6 : decode cX2_copyFrom 6 = .ok (.iload_n 2, 1) := by decide +kernel
theorem dX2_copyFrom_7 : decode cX2_copyFrom 7 = .ok (.aload_n 1, 1) := by decide +kernel
theorem dX2_copyFrom_8 : decode cX2_copyFrom 8 = .ok (.getfield 28, 3) := by decide +kernel
theorem dX2_copyFrom_11 : decode cX2_copyFrom 11 = .ok (.if_icmp .ge 33, 3) := by decide +kernel
theorem dX2_copyFrom_14 : decode cX2_copyFrom 14 = .ok (.aload_n 0, 1) := by decide +kernel
theorem dX2_copyFrom_15 : decode cX2_copyFrom 15 = .ok (.aload_n 1, 1) := by decide +kernel
theorem dX2_copyFrom_16 : decode cX2_copyFrom 16 = .ok (.iload_n 2, 1) := by decide +kernel
theorem dX2_copyFrom_17 : decode cX2_copyFrom 17 = .ok (.invokevirtual 39, 3) := by decide +kernel
theorem dX2_copyFrom_20 : decode cX2_copyFrom 20 = .ok (.aload_n 1, 1) := by decide +kernel
theorem dX2_copyFrom_21 : decode cX2_copyFrom 21 = .ok (.iload_n 2, 1) := by decide +kernel
theorem dX2_copyFrom_22 : decode cX2_copyFrom 22 = .ok (.invokevirtual 43, 3) := by decide +kernel
theorem dX2_copyFrom_25 : decode cX2_copyFrom 25 = .ok (.aload_n 1, 1) := by decide +kernel
theorem dX2_copyFrom_26 : decode cX2_copyFrom 26 = .ok (.iload_n 2, 1) := by decide +kernel
theorem dX2_copyFrom_27 : decode cX2_copyFrom 27 = .ok (.invokevirtual 46, 3) := by decide +kernel
theorem dX2_copyFrom_30 : decode cX2_copyFrom 30 = .ok (.aload_n 1, 1) := by decide +kernel
theorem dX2_copyFrom_31 : decode cX2_copyFrom 31 = .ok (.iload_n 2, 1) := by decide +kernel
theorem dX2_copyFrom_32 : decode cX2_copyFrom 32 = .ok (.invokevirtual 49, 3) := by decide +kernel
theorem dX2_copyFrom_35 : decode cX2_copyFrom 35 = .ok (.invokevirtual 52, 3) := by decide +kernel
theorem dX2_copyFrom_38 : decode cX2_copyFrom 38 = .ok (.iinc 2 1, 3) := by decide +kernel
theorem dX2_copyFrom_41 : decode cX2_copyFrom 41 = .ok (.goto (-35), 3) := by decide +kernel
theorem dX2_copyFrom_44 : decode cX2_copyFrom 44 = .ok (.return_, 1) := by decide +kernel
def is_X2_copyFrom (Rt : np_Rt) : List (Nat × np_Op) := [(0, np_ald 1 0), (1, nw_callV 2 1 sp_X2_clear 1 0 0 0 0), (4, np_push 1 (.int 0)), (5, nw_ist 1 2), (6, np_ild 1 2), (7, np_ald 1 1), (8, nw_getf 2 4), (11, nq_ic (fun x y => y ≤ x) 44), (14, np_ald 1 0), (15, np_ald 1 1), (16, np_ild 1 2), (17, nw_callV 2 2 sp_X2_kind 2 0 0 0 0), (20, np_ald 1 1), (21, np_ild 1 2), (22, nw_callV 2 2 sp_X2_a 2 0 0 0 0), (25, np_ald 1 1), (26, np_ild 1 2), (27, nw_callV 2 2 sp_X2_b 2 0 0 0 0), (30, np_ald 1 1), (31, np_ild 1 2), (32, nw_callV 2 2 sp_X2_c 2 0 0 0 0), (35, nw_callV 2 5 sp_X2_add 5 0 0 0 0), (38, nw_iinc 2 1), (41, np_goto 6), (44, np_ret Rt)]
set_option maxRecDepth 20000 in
theorem so_X2_copyFrom {X : np_Ctx} {Rt : np_Rt} (hX : np_ok RX2 cX2_copyFrom 3 2 46 0 0 .return_ X) (hR : ∀ st w ce sl, Rt st w ce sl → X.2.2.1 st w ce sl) : ∀ q ∈ is_X2_copyFrom Rt, np_S X q.1 q.2 :=
  List.forall_mem_cons.mpr ⟨np_s_aload_n hX dX2_copyFrom_0 rfl, List.forall_mem_cons.mpr ⟨np_S.mono (op := np_callV 2 1 sp_X2_clear 1 0 0 0 0) (np_s_callV hX C_X2_clear dX2_copyFrom_1 (q := (RX2, TX2, 5)) rfl rfl gw501 gw64 gw686 gw499 gw500 ⟨by decide, by decide, by decide⟩ (by decide) (by decide)) nw_callV_le, List.forall_mem_cons.mpr ⟨np_s_iconst hX dX2_copyFrom_4 (by decide), List.forall_mem_cons.mpr ⟨np_S.mono (op := np_ist 1 2) (np_s_istore_n hX dX2_copyFrom_5 rfl (by decide)) nw_ist_le, List.forall_mem_cons.mpr ⟨np_s_iload_n hX dX2_copyFrom_6 rfl, List.forall_mem_cons.mpr ⟨np_s_aload_n hX dX2_copyFrom_7 rfl, List.forall_mem_cons.mpr ⟨np_S.mono (op := np_getf 2 4) (np_s_getf hX dX2_copyFrom_8 (C := RX2) (T := TX2) (N := 5) rfl guX2 (by decide) gw105) nw_getf_le, List.forall_mem_cons.mpr ⟨np_S.mono (op := np_ic (fun x y => y ≤ x) 44) (np_s_icmp_ge hX dX2_copyFrom_11 (by decide)) nq_ic_le, List.forall_mem_cons.mpr ⟨np_s_aload_n hX dX2_copyFrom_14 rfl, List.forall_mem_cons.mpr ⟨np_s_aload_n hX dX2_copyFrom_15 rfl, List.forall_mem_cons.mpr ⟨np_s_iload_n hX dX2_copyFrom_16 rfl, List.forall_mem_cons.mpr ⟨np_S.mono (op := np_callV 2 2 sp_X2_kind 2 0 0 0 0) (np_s_callV hX C_X2_kind dX2_copyFrom_17 (q := (RX2, TX2, 5)) rfl rfl gw650 gw64 gw647 gw648 gw649 ⟨by decide, by decide, by decide⟩ (by decide) (by decide)) nw_callV_le, List.forall_mem_cons.mpr ⟨np_s_aload_n hX dX2_copyFrom_20 rfl, List.forall_mem_cons.mpr ⟨np_s_iload_n hX dX2_copyFrom_21 rfl, List.forall_mem_cons.mpr ⟨np_S.mono (op := np_callV 2 2 sp_X2_a 2 0 0 0 0) (np_s_callV hX C_X2_a dX2_copyFrom_22 (q := (RX2, TX2, 5)) rfl rfl gw657 gw64 gw654 gw655 gw656 ⟨by decide, by decide, by decide⟩ (by decide) (by decide)) nw_callV_le, List.forall_mem_cons.mpr ⟨np_s_aload_n hX dX2_copyFrom_25 rfl, List.forall_mem_cons.mpr ⟨np_s_iload_n hX dX2_copyFrom_26 rfl, List.forall_mem_cons.mpr ⟨np_S.mono (op := np_callV 2 2 sp_X2_b 2 0 0 0 0) (np_s_callV hX C_X2_b dX2_copyFrom_27 (q := (RX2, TX2, 5)) rfl rfl gw673 gw64 gw670 gw671 gw672 ⟨by decide, by decide, by decide⟩ (by decide) (by decide)) nw_callV_le, List.forall_mem_cons.mpr ⟨np_s_aload_n hX dX2_copyFrom_30 rfl, List.forall_mem_cons.mpr ⟨np_s_iload_n hX dX2_copyFrom_31 rfl, List.forall_mem_cons.mpr ⟨np_S.mono (op := np_callV 2 2 sp_X2_c 2 0 0 0 0) (np_s_callV hX C_X2_c dX2_copyFrom_32 (q := (RX2, TX2, 5)) rfl rfl gw690 gw64 gw687 gw688 gw689 ⟨by decide, by decide, by decide⟩ (by decide) (by decide)) nw_callV_le, List.forall_mem_cons.mpr ⟨np_S.mono (op := np_callV 2 5 sp_X2_add 5 0 0 0 0) (np_s_callV hX C_X2_add dX2_copyFrom_35 (q := (RX2, TX2, 5)) rfl rfl gw629 gw64 gw691 gw627 gw628 ⟨by decide, by decide, by decide⟩ (by decide) (by decide)) nw_callV_le, List.forall_mem_cons.mpr ⟨np_S.mono (op := np_iinc 2 1) (np_s_iinc hX dX2_copyFrom_38 (by decide)) nw_iinc_le, List.forall_mem_cons.mpr ⟨np_s_goto hX dX2_copyFrom_41 (by decide), List.forall_mem_cons.mpr ⟨np_S.mono (op := np_ret X.2.2.1) (np_s_ret hX dX2_copyFrom_44) (nq_ret_le hR), fun _ h => nomatch h⟩⟩⟩⟩⟩⟩⟩⟩⟩⟩⟩⟩⟩⟩⟩⟩⟩⟩⟩⟩⟩⟩⟩⟩⟩
noncomputable def m_X2_copyFrom_6 : Nat → pw_S → Nat → Nat → Int32 → pw_R Unit
| 0, _, _, _, _ => none
| N + 1, S, v0, v1, v2 =>
 if (S 51 v1 4) ≤ v2 then
 (some (S, ()))
 else
 (pw_b (m_X2_kind S v1 v2) fun S1 r4 =>
 pw_b (m_X2_a S1 v1 v2) fun S6 r9 =>
 pw_b (m_X2_b S6 v1 v2) fun S11 r14 =>
 pw_b (m_X2_c S11 v1 v2) fun S16 r19 =>
 pw_b (m_X2_add S16 v0 r4 r9 r14 r19) fun S21 r24 =>
 pw_l (v2 + 1 : Int32) fun z26 =>
 m_X2_copyFrom_6 N S21 v0 v1 z26)
set_option maxRecDepth 100000 in
set_option maxHeartbeats 8000000 in
theorem L_X2_copyFrom_6 {X : np_Ctx} (hX : np_ok RX2 cX2_copyFrom 3 2 46 0 0 .return_ X) {Q : Option Value → np_W → Prop} {q n : Nat} (hR : ∀ st w ce sl, np_rt none 0 0 Q st w ce sl → X.2.2.1 st w ce sl) : ∀ (N : Nat) (S : pw_S) (v0 : Nat) (v1 : Nat) (v2 : Int32) (f : Nat → Option np_E) (hv0 : pw_ok q 51 v0 = true) (hv1 : pw_ok q 51 v1 = true), pw_W q (n, f) S → pw_p (m_X2_copyFrom_6 N S v0 v1 v2) (fun S' r => ∀ f', pw_W q (n, f') S' → Q none (n, f')) → np_G X 6 [(0, .ref (pw_pl 51 v0)), (1, .ref (pw_pl 51 v1)), (2, .int v2)] [] (n, f) 0 0 := by
  intro N
  induction N with
  | zero =>
    intro S v0 v1 v2 f hv0 hv1 hW h
    exact (pw_pn h).elim
  | succ N ih =>
    intro S v0 v1 v2 f hv0 hv1 hW h
    unfold m_X2_copyFrom_6 at h
    refine np_soundW (so_X2_copyFrom hX hR) [6] 400 6 _ _ _ _ _ ?_
    conv => whnf
    refine np_rd_i (hW.g hv1) ?_
    conv => whnf
    refine pw_br h (fun _ h => ?_) (fun _ h => ?_)
    · conv => whnf
      exact ⟨Nat.le_of_ble_eq_true rfl, Nat.le_of_ble_eq_true rfl, rfl, _, fun _ _ h9 => h9, pw_ps h _ hW⟩
    · conv => whnf
      refine np_rd_i (hW.g hv1) ?_
      conv => whnf
      refine ⟨q, S, v1, v2, rfl, hv1, hW, pw_bd h (fun S1 r4 h f2 hW3 => ?_)⟩
      conv => whnf
      refine np_rd_i (hW3.g hv1) ?_
      conv => whnf
      refine ⟨q, S1, v1, v2, rfl, hv1, hW3, pw_bd h (fun S6 r9 h f7 hW8 => ?_)⟩
      conv => whnf
      refine np_rd_i (hW8.g hv1) ?_
      conv => whnf
      refine ⟨q, S6, v1, v2, rfl, hv1, hW8, pw_bd h (fun S11 r14 h f12 hW13 => ?_)⟩
      conv => whnf
      refine np_rd_i (hW13.g hv1) ?_
      conv => whnf
      refine ⟨q, S11, v1, v2, rfl, hv1, hW13, pw_bd h (fun S16 r19 h f17 hW18 => ?_)⟩
      conv => whnf
      refine np_rd_i (hW18.g hv0) ?_
      conv => whnf
      refine ⟨q, S16, v0, r4, r9, r14, r19, rfl, hv0, hW18, pw_bd h (fun S21 r24 h f22 hW23 => ?_)⟩
      conv => whnf
      refine pw_st h (fun z26 h => ?_)
      conv => whnf
      exact np_gl (ih S21 v0 v1 z26 f22 hv0 hv1 hW23 h) ⟨rfl, rfl, rfl, trivial⟩
noncomputable def m_X2_copyFrom (S : pw_S) (i0 : Nat) (i1 : Nat) : pw_R Unit :=
 pw_b (m_X2_clear S i0) fun S27 r30 =>
 pw_l (0 : Int32) fun z32 =>
 m_X2_copyFrom_6 (pw_F 20000) S27 i0 i1 z32
def sp_X2_copyFrom : np_Sp := fun vs w Q => ∃ (q : Nat) (S : pw_S) (i0 : Nat) (i1 : Nat), vs = [.ref (pw_pl 51 i0), .ref (pw_pl 51 i1)] ∧ pw_ok q 51 i0 = true ∧ pw_ok q 51 i1 = true ∧ pw_W q w S ∧ pw_p (m_X2_copyFrom S i0 i1) (fun S' r => ∀ f', pw_W q (w.1, f') S' → Q none (w.1, f'))
set_option maxRecDepth 100000 in
set_option maxHeartbeats 8000000 in
theorem C_X2_copyFrom : np_C yX2_copyFrom cX2_copyFrom 3 none 2 46 0 0 sp_X2_copyFrom := by
  refine np_of (by decide) ?_
  intro X vs w Q hsp hX hmn hRt hlt
  obtain ⟨q, S, i0, i1, rfl, hi0, hi1, hW, h⟩ := hsp
  obtain ⟨n, f⟩ := w
  unfold m_X2_copyFrom at h
  have hR : ∀ st w ce sl, np_rt none 0 0 Q st w ce sl → X.2.2.1 st w ce sl := fun _ _ _ _ h => by rw [hRt]; exact h
  refine np_soundW (so_X2_copyFrom hX hR) [6] 400 0 _ _ _ _ _ ?_
  conv => whnf
  refine np_rd_i (hW.g hi0) ?_
  conv => whnf
  refine ⟨q, S, i0, rfl, hi0, hW, pw_bd h (fun S27 r30 h f28 hW29 => ?_)⟩
  conv => whnf
  refine pw_st h (fun z32 h => ?_)
  conv => whnf
  exact np_gl (L_X2_copyFrom_6 hX hR (pw_F 20000) S27 i0 i1 z32 f28 hi0 hi1 hW29 h) ⟨rfl, rfl, rfl, trivial⟩
theorem dX2_embraces_0 : decode cX2_embraces 0 = .ok (.aload_n 0, 1) := by decide +kernel
theorem dX2_embraces_1 : decode cX2_embraces 1 = .ok (.iload_n 1, 1) := by decide +kernel
theorem dX2_embraces_2 : decode cX2_embraces 2 = .ok (.invokevirtual 39, 3) := by decide +kernel
theorem dX2_embraces_5 : decode cX2_embraces 5 = .ok (.bipush 7, 2) := by decide +kernel
theorem dX2_embraces_7 : decode cX2_embraces 7 = .ok (.if_icmp .eq 13, 3) := by decide +kernel
theorem dX2_embraces_10 : decode cX2_embraces 10 = .ok (.aload_n 0, 1) := by decide +kernel
theorem dX2_embraces_11 : decode cX2_embraces 11 = .ok (.iload_n 1, 1) := by decide +kernel
theorem dX2_embraces_12 : decode cX2_embraces 12 = .ok (.invokevirtual 39, 3) := by decide +kernel
theorem dX2_embraces_15 : decode cX2_embraces 15 = .ok (.bipush 8, 2) := by decide +kernel
theorem dX2_embraces_17 : decode cX2_embraces 17 = .ok (.if_icmp .ne 7, 3) := by decide +kernel
theorem dX2_embraces_20 : decode cX2_embraces 20 = .ok (.iconst 1, 1) := by decide +kernel
theorem dX2_embraces_21 : decode cX2_embraces 21 = .ok (.goto 4, 3) := by decide +kernel
theorem dX2_embraces_24 : decode cX2_embraces 24 = .ok (.iconst 0, 1) := by decide +kernel
theorem dX2_embraces_25 : decode cX2_embraces 25 = .ok (.ireturn, 1) := by decide +kernel
def is_X2_embraces (Rt : np_Rt) : List (Nat × np_Op) := [(0, np_ald 1 0), (1, np_ild 1 1), (2, nw_callV 2 2 sp_X2_kind 2 0 0 0 0), (5, np_push 2 (.int 7)), (7, nq_ic (fun x y => x = y) 20), (10, np_ald 1 0), (11, np_ild 1 1), (12, nw_callV 2 2 sp_X2_kind 2 0 0 0 0), (15, np_push 2 (.int 8)), (17, nq_icne 24), (20, np_push 1 (.int 1)), (21, np_goto 25), (24, np_push 1 (.int 0)), (25, np_ret Rt)]
set_option maxRecDepth 20000 in
theorem so_X2_embraces {X : np_Ctx} {Rt : np_Rt} (hX : np_ok RX2 cX2_embraces 2 2 43 0 0 .ireturn X) (hR : ∀ st w ce sl, Rt st w ce sl → X.2.2.1 st w ce sl) : ∀ q ∈ is_X2_embraces Rt, np_S X q.1 q.2 :=
  List.forall_mem_cons.mpr ⟨np_s_aload_n hX dX2_embraces_0 rfl, List.forall_mem_cons.mpr ⟨np_s_iload_n hX dX2_embraces_1 rfl, List.forall_mem_cons.mpr ⟨np_S.mono (op := np_callV 2 2 sp_X2_kind 2 0 0 0 0) (np_s_callV hX C_X2_kind dX2_embraces_2 (q := (RX2, TX2, 5)) rfl rfl gw650 gw64 gw647 gw648 gw649 ⟨by decide, by decide, by decide⟩ (by decide) (by decide)) nw_callV_le, List.forall_mem_cons.mpr ⟨np_s_bipush hX dX2_embraces_5 (by decide), List.forall_mem_cons.mpr ⟨np_S.mono (op := np_ic (fun x y => x = y) 20) (np_s_icmp_eq hX dX2_embraces_7 (by decide)) nq_ic_le, List.forall_mem_cons.mpr ⟨np_s_aload_n hX dX2_embraces_10 rfl, List.forall_mem_cons.mpr ⟨np_s_iload_n hX dX2_embraces_11 rfl, List.forall_mem_cons.mpr ⟨np_S.mono (op := np_callV 2 2 sp_X2_kind 2 0 0 0 0) (np_s_callV hX C_X2_kind dX2_embraces_12 (q := (RX2, TX2, 5)) rfl rfl gw650 gw64 gw647 gw648 gw649 ⟨by decide, by decide, by decide⟩ (by decide) (by decide)) nw_callV_le, List.forall_mem_cons.mpr ⟨np_s_bipush hX dX2_embraces_15 (by decide), List.forall_mem_cons.mpr ⟨np_S.mono (op := np_icne 24) (np_s_icmp_ne hX dX2_embraces_17 (by decide)) nq_icne_le, List.forall_mem_cons.mpr ⟨np_s_iconst hX dX2_embraces_20 (by decide), List.forall_mem_cons.mpr ⟨np_s_goto hX dX2_embraces_21 (by decide), List.forall_mem_cons.mpr ⟨np_s_iconst hX dX2_embraces_24 (by decide), List.forall_mem_cons.mpr ⟨np_S.mono (op := np_ret X.2.2.1) (np_s_ret hX dX2_embraces_25) (nq_ret_le hR), fun _ h => nomatch h⟩⟩⟩⟩⟩⟩⟩⟩⟩⟩⟩⟩⟩⟩
noncomputable def m_X2_embraces (S : pw_S) (i0 : Nat) (x1 : Int32) : pw_R Int32 :=
 pw_b (m_X2_kind S i0 x1) fun S1 r4 =>
 if r4 = 7 then
 (some (S1, 1))
 else
 (pw_b (m_X2_kind S1 i0 x1) fun S6 r9 =>
 if r9 = 8 then
 (some (S6, 1))
 else
 (some (S6, 0)))
def sp_X2_embraces : np_Sp := fun vs w Q => ∃ (q : Nat) (S : pw_S) (i0 : Nat) (x1 : Int32), vs = [.ref (pw_pl 51 i0), .int x1] ∧ pw_ok q 51 i0 = true ∧ pw_W q w S ∧ pw_p (m_X2_embraces S i0 x1) (fun S' r => ∀ f', pw_W q (w.1, f') S' → Q (some (.int r)) (w.1, f'))
set_option maxRecDepth 100000 in
set_option maxHeartbeats 8000000 in
theorem C_X2_embraces : np_C yX2_embraces cX2_embraces 2 (some .boolean) 2 43 0 0 sp_X2_embraces := by
  refine np_of (by decide) ?_
  intro X vs w Q hsp hX hmn hRt hlt
  obtain ⟨q, S, i0, x1, rfl, hi0, hW, h⟩ := hsp
  obtain ⟨n, f⟩ := w
  unfold m_X2_embraces at h
  have hR : ∀ st w ce sl, np_rt (some .boolean) 0 0 Q st w ce sl → X.2.2.1 st w ce sl := fun _ _ _ _ h => by rw [hRt]; exact h
  refine np_soundW (so_X2_embraces hX hR) [] 400 0 _ _ _ _ _ ?_
  conv => whnf
  refine np_rd_i (hW.g hi0) ?_
  conv => whnf
  refine ⟨q, S, i0, x1, rfl, hi0, hW, pw_bd h (fun S1 r4 h f2 hW3 => ?_)⟩
  conv => whnf
  refine pw_br h (fun _ h => ?_) (fun _ h => ?_)
  · conv => whnf
    exact ⟨Nat.le_of_ble_eq_true rfl, Nat.le_of_ble_eq_true rfl, ⟨_, rfl, by decide⟩, _, fun _ _ h9 => h9, pw_ps h _ hW3⟩
  · conv => whnf
    refine np_rd_i (hW3.g hi0) ?_
    conv => whnf
    refine ⟨q, S1, i0, x1, rfl, hi0, hW3, pw_bd h (fun S6 r9 h f7 hW8 => ?_)⟩
    conv => whnf
    refine pw_br h (fun _ h => ?_) (fun _ h => ?_)
    · conv => whnf
      exact ⟨Nat.le_of_ble_eq_true rfl, Nat.le_of_ble_eq_true rfl, ⟨_, rfl, by decide⟩, _, fun _ _ h9 => h9, pw_ps h _ hW8⟩
    · conv => whnf
      exact ⟨Nat.le_of_ble_eq_true rfl, Nat.le_of_ble_eq_true rfl, ⟨_, rfl, by decide⟩, _, fun _ _ h9 => h9, pw_ps h _ hW8⟩
theorem dX2_isBodySound_0 : decode cX2_isBodySound 0 = .ok (.iload_n 1, 1) := by decide +kernel
theorem dX2_isBodySound_1 : decode cX2_isBodySound 1 = .ok (.aload_n 0, 1) := by decide +kernel
theorem dX2_isBodySound_2 : decode cX2_isBodySound 2 = .ok (.iload_n 1, 1) := by decide +kernel
theorem dX2_isBodySound_3 : decode cX2_isBodySound 3 = .ok (.invokevirtual 46, 3) := by decide +kernel
theorem dX2_isBodySound_6 : decode cX2_isBodySound 6 = .ok (.iadd, 1) := by decide +kernel
theorem dX2_isBodySound_7 : decode cX2_isBodySound 7 = .ok (.istore_n 2, 1) := by decide +kernel
theorem dX2_isBodySound_8 : decode cX2_isBodySound 8 = .ok (.iload_n 2, 1) := by decide +kernel
theorem dX2_isBodySound_9 : decode cX2_isBodySound 9 = .ok (.aload_n 0, 1) := by decide +kernel
theorem dX2_isBodySound_10 : decode cX2_isBodySound 10 = .ok (.getfield 28, 3) := by decide +kernel
theorem dX2_isBodySound_13 : decode cX2_isBodySound 13 = .ok (.if_icmp .lt 5, 3) := by decide +kernel
theorem dX2_isBodySound_16 : decode cX2_isBodySound 16 = .ok (.iconst 0, 1) := by decide +kernel
theorem dX2_isBodySound_17 : decode cX2_isBodySound 17 = .ok (.ireturn, 1) := by decide +kernel
theorem dX2_isBodySound_18 : decode cX2_isBodySound 18 = .ok (.iload_n 1, 1) := by decide +kernel
theorem dX2_isBodySound_19 : decode cX2_isBodySound 19 = .ok (.iconst 1, 1) := by decide +kernel
theorem dX2_isBodySound_20 : decode cX2_isBodySound 20 = .ok (.iadd, 1) := by decide +kernel
theorem dX2_isBodySound_21 : decode cX2_isBodySound 21 = .ok (.istore_n 3, 1) := by decide +kernel
theorem dX2_isBodySound_22 : decode cX2_isBodySound 22 = .ok (.iload_n 3, 1) := by decide +kernel
theorem dX2_isBodySound_23 : decode cX2_isBodySound 23 = .ok (.iload_n 2, 1) := by decide +kernel
theorem dX2_isBodySound_24 : decode cX2_isBodySound 24 = .ok (.if_icmp .gt 27, 3) := by decide +kernel
theorem dX2_isBodySound_27 : decode cX2_isBodySound 27 = .ok (.iload_n 3, 1) := by decide +kernel
theorem dX2_isBodySound_28 : decode cX2_isBodySound 28 = .ok (.aload_n 0, 1) := by decide +kernel
theorem dX2_isBodySound_29 : decode cX2_isBodySound 29 = .ok (.getfield 28, 3) := by decide +kernel
theorem dX2_isBodySound_32 : decode cX2_isBodySound 32 = .ok (.if_icmp .ge 19, 3) := by decide +kernel
theorem dX2_isBodySound_35 : decode cX2_isBodySound 35 = .ok (.aload_n 0, 1) := by decide +kernel
theorem dX2_isBodySound_36 : decode cX2_isBodySound 36 = .ok (.iload_n 3, 1) := by decide +kernel
theorem dX2_isBodySound_37 : decode cX2_isBodySound 37 = .ok (.invokevirtual 67, 3) := by decide +kernel
theorem dX2_isBodySound_40 : decode cX2_isBodySound 40 = .ok (.ifCond .eq 5, 3) := by decide +kernel
theorem dX2_isBodySound_43 : decode cX2_isBodySound 43 = .ok (.iconst 0, 1) := by decide +kernel
theorem dX2_isBodySound_44 : decode cX2_isBodySound 44 = .ok (.ireturn, 1) := by decide +kernel
theorem dX2_isBodySound_45 : decode cX2_isBodySound 45 = .ok (.iinc 3 1, 3) := by decide +kernel
theorem dX2_isBodySound_48 : decode cX2_isBodySound 48 = .ok (.goto (-26), 3) := by decide +kernel
theorem dX2_isBodySound_51 : decode cX2_isBodySound 51 = .ok (.iconst 1, 1) := by decide +kernel
theorem dX2_isBodySound_52 : decode cX2_isBodySound 52 = .ok (.ireturn, 1) := by decide +kernel
def is_X2_isBodySound (Rt : np_Rt) : List (Nat × np_Op) := [(0, np_ild 1 1), (1, np_ald 1 0), (2, np_ild 1 1), (3, nw_callV 2 2 sp_X2_b 2 0 0 0 0), (6, np_ib (fun x y => x + y)), (7, nw_ist 1 2), (8, np_ild 1 2), (9, np_ald 1 0), (10, nw_getf 2 4), (13, nq_ic (fun x y => x < y) 18), (16, np_push 1 (.int 0)), (17, np_ret Rt), (18, np_ild 1 1), (19, np_push 1 (.int 1)), (20, np_ib (fun x y => x + y)), (21, nw_ist 1 3), (22, np_ild 1 3), (23, np_ild 1 2), (24, nq_ic (fun x y => y < x) 51), (27, np_ild 1 3), (28, np_ald 1 0), (29, nw_getf 2 4), (32, nq_ic (fun x y => y ≤ x) 51), (35, np_ald 1 0), (36, np_ild 1 3), (37, nw_callV 2 2 sp_X2_embraces 2 0 0 0 0), (40, nq_if (fun x => x = 0) 45), (43, np_push 1 (.int 0)), (44, np_ret Rt), (45, nw_iinc 3 1), (48, np_goto 22), (51, np_push 1 (.int 1)), (52, np_ret Rt)]
set_option maxRecDepth 20000 in
theorem so_X2_isBodySound {X : np_Ctx} {Rt : np_Rt} (hX : np_ok RX2 cX2_isBodySound 4 3 64 0 0 .ireturn X) (hR : ∀ st w ce sl, Rt st w ce sl → X.2.2.1 st w ce sl) : ∀ q ∈ is_X2_isBodySound Rt, np_S X q.1 q.2 :=
  List.forall_mem_cons.mpr ⟨np_s_iload_n hX dX2_isBodySound_0 rfl, List.forall_mem_cons.mpr ⟨np_s_aload_n hX dX2_isBodySound_1 rfl, List.forall_mem_cons.mpr ⟨np_s_iload_n hX dX2_isBodySound_2 rfl, List.forall_mem_cons.mpr ⟨np_S.mono (op := np_callV 2 2 sp_X2_b 2 0 0 0 0) (np_s_callV hX C_X2_b dX2_isBodySound_3 (q := (RX2, TX2, 5)) rfl rfl gw673 gw64 gw670 gw671 gw672 ⟨by decide, by decide, by decide⟩ (by decide) (by decide)) nw_callV_le, List.forall_mem_cons.mpr ⟨np_s_iadd hX dX2_isBodySound_6, List.forall_mem_cons.mpr ⟨np_S.mono (op := np_ist 1 2) (np_s_istore_n hX dX2_isBodySound_7 rfl (by decide)) nw_ist_le, List.forall_mem_cons.mpr ⟨np_s_iload_n hX dX2_isBodySound_8 rfl, List.forall_mem_cons.mpr ⟨np_s_aload_n hX dX2_isBodySound_9 rfl, List.forall_mem_cons.mpr ⟨np_S.mono (op := np_getf 2 4) (np_s_getf hX dX2_isBodySound_10 (C := RX2) (T := TX2) (N := 5) rfl guX2 (by decide) gw105) nw_getf_le, List.forall_mem_cons.mpr ⟨np_S.mono (op := np_ic (fun x y => x < y) 18) (np_s_icmp_lt hX dX2_isBodySound_13 (by decide)) nq_ic_le, List.forall_mem_cons.mpr ⟨np_s_iconst hX dX2_isBodySound_16 (by decide), List.forall_mem_cons.mpr ⟨np_S.mono (op := np_ret X.2.2.1) (np_s_ret hX dX2_isBodySound_17) (nq_ret_le hR), List.forall_mem_cons.mpr ⟨np_s_iload_n hX dX2_isBodySound_18 rfl, List.forall_mem_cons.mpr ⟨np_s_iconst hX dX2_isBodySound_19 (by decide), List.forall_mem_cons.mpr ⟨np_s_iadd hX dX2_isBodySound_20, List.forall_mem_cons.mpr ⟨np_S.mono (op := np_ist 1 3) (np_s_istore_n hX dX2_isBodySound_21 rfl (by decide)) nw_ist_le, List.forall_mem_cons.mpr ⟨np_s_iload_n hX dX2_isBodySound_22 rfl, List.forall_mem_cons.mpr ⟨np_s_iload_n hX dX2_isBodySound_23 rfl, List.forall_mem_cons.mpr ⟨np_S.mono (op := np_ic (fun x y => y < x) 51) (np_s_icmp_gt hX dX2_isBodySound_24 (by decide)) nq_ic_le, List.forall_mem_cons.mpr ⟨np_s_iload_n hX dX2_isBodySound_27 rfl, List.forall_mem_cons.mpr ⟨np_s_aload_n hX dX2_isBodySound_28 rfl, List.forall_mem_cons.mpr ⟨np_S.mono (op := np_getf 2 4) (np_s_getf hX dX2_isBodySound_29 (C := RX2) (T := TX2) (N := 5) rfl guX2 (by decide) gw105) nw_getf_le, List.forall_mem_cons.mpr ⟨np_S.mono (op := np_ic (fun x y => y ≤ x) 51) (np_s_icmp_ge hX dX2_isBodySound_32 (by decide)) nq_ic_le, List.forall_mem_cons.mpr ⟨np_s_aload_n hX dX2_isBodySound_35 rfl, List.forall_mem_cons.mpr ⟨np_s_iload_n hX dX2_isBodySound_36 rfl, List.forall_mem_cons.mpr ⟨np_S.mono (op := np_callV 2 2 sp_X2_embraces 2 0 0 0 0) (np_s_callV hX C_X2_embraces dX2_isBodySound_37 (q := (RX2, TX2, 5)) rfl rfl gw665 gw64 gw662 gw663 gw664 ⟨by decide, by decide, by decide⟩ (by decide) (by decide)) nw_callV_le, List.forall_mem_cons.mpr ⟨np_S.mono (op := np_if (fun x => x = 0) 45) (np_s_if_eq hX dX2_isBodySound_40 (by decide)) nq_if_le, List.forall_mem_cons.mpr ⟨np_s_iconst hX dX2_isBodySound_43 (by decide), List.forall_mem_cons.mpr ⟨np_S.mono (op := np_ret X.2.2.1) (np_s_ret hX dX2_isBodySound_44) (nq_ret_le hR), List.forall_mem_cons.mpr ⟨np_S.mono (op := np_iinc 3 1) (np_s_iinc hX dX2_isBodySound_45 (by decide)) nw_iinc_le, List.forall_mem_cons.mpr ⟨np_s_goto hX dX2_isBodySound_48 (by decide), List.forall_mem_cons.mpr ⟨np_s_iconst hX dX2_isBodySound_51 (by decide), List.forall_mem_cons.mpr ⟨np_S.mono (op := np_ret X.2.2.1) (np_s_ret hX dX2_isBodySound_52) (nq_ret_le hR), fun _ h => nomatch h⟩⟩⟩⟩⟩⟩⟩⟩⟩⟩⟩⟩⟩⟩⟩⟩⟩⟩⟩⟩⟩⟩⟩⟩⟩⟩⟩⟩⟩⟩⟩⟩⟩
noncomputable def m_X2_isBodySound_22 : Nat → pw_S → Nat → Int32 → Int32 → pw_R Int32
| 0, _, _, _, _ => none
| N + 1, S, v0, v2, v3 =>
 if v2 < v3 then
 (some (S, 1))
 else
 (if (S 51 v0 4) ≤ v3 then
 (some (S, 1))
 else
 (pw_b (m_X2_embraces S v0 v3) fun S1 r4 =>
 if r4 = 0 then
 (pw_l (v3 + 1 : Int32) fun z6 =>
 m_X2_isBodySound_22 N S1 v0 v2 z6)
 else
 (some (S1, 0))))
set_option maxRecDepth 100000 in
set_option maxHeartbeats 8000000 in
theorem L_X2_isBodySound_22 {X : np_Ctx} (hX : np_ok RX2 cX2_isBodySound 4 3 64 0 0 .ireturn X) {Q : Option Value → np_W → Prop} {q n : Nat} (hR : ∀ st w ce sl, np_rt (some .boolean) 0 0 Q st w ce sl → X.2.2.1 st w ce sl) : ∀ (N : Nat) (S : pw_S) (v0 : Nat) (v2 : Int32) (v3 : Int32) (f : Nat → Option np_E) (hv0 : pw_ok q 51 v0 = true), pw_W q (n, f) S → pw_p (m_X2_isBodySound_22 N S v0 v2 v3) (fun S' r => ∀ f', pw_W q (n, f') S' → Q (some (.int r)) (n, f')) → np_G X 22 [(0, .ref (pw_pl 51 v0)), (2, .int v2), (3, .int v3)] [] (n, f) 0 0 := by
  intro N
  induction N with
  | zero =>
    intro S v0 v2 v3 f hv0 hW h
    exact (pw_pn h).elim
  | succ N ih =>
    intro S v0 v2 v3 f hv0 hW h
    unfold m_X2_isBodySound_22 at h
    refine np_soundW (so_X2_isBodySound hX hR) [22] 400 22 _ _ _ _ _ ?_
    conv => whnf
    refine pw_br h (fun _ h => ?_) (fun _ h => ?_)
    · conv => whnf
      exact ⟨Nat.le_of_ble_eq_true rfl, Nat.le_of_ble_eq_true rfl, ⟨_, rfl, by decide⟩, _, fun _ _ h9 => h9, pw_ps h _ hW⟩
    · conv => whnf
      refine np_rd_i (hW.g hv0) ?_
      conv => whnf
      refine pw_br h (fun _ h => ?_) (fun _ h => ?_)
      · conv => whnf
        exact ⟨Nat.le_of_ble_eq_true rfl, Nat.le_of_ble_eq_true rfl, ⟨_, rfl, by decide⟩, _, fun _ _ h9 => h9, pw_ps h _ hW⟩
      · conv => whnf
        refine np_rd_i (hW.g hv0) ?_
        conv => whnf
        refine ⟨q, S, v0, v3, rfl, hv0, hW, pw_bd h (fun S1 r4 h f2 hW3 => ?_)⟩
        conv => whnf
        refine pw_br h (fun _ h => ?_) (fun _ h => ?_)
        · conv => whnf
          refine pw_st h (fun z6 h => ?_)
          conv => whnf
          exact np_gl (ih S1 v0 v2 z6 f2 hv0 hW3 h) ⟨rfl, rfl, rfl, trivial⟩
        · conv => whnf
          exact ⟨Nat.le_of_ble_eq_true rfl, Nat.le_of_ble_eq_true rfl, ⟨_, rfl, by decide⟩, _, fun _ _ h9 => h9, pw_ps h _ hW3⟩
noncomputable def m_X2_isBodySound (S : pw_S) (i0 : Nat) (x1 : Int32) : pw_R Int32 :=
 pw_b (m_X2_b S i0 x1) fun S7 r10 =>
 pw_l ((x1 + r10) : Int32) fun z12 =>
 if z12 < (S7 51 i0 4) then
 (pw_l ((x1 + 1) : Int32) fun z13 =>
 m_X2_isBodySound_22 (pw_F 20000) S7 i0 z12 z13)
 else
 (some (S7, 0))
def sp_X2_isBodySound : np_Sp := fun vs w Q => ∃ (q : Nat) (S : pw_S) (i0 : Nat) (x1 : Int32), vs = [.ref (pw_pl 51 i0), .int x1] ∧ pw_ok q 51 i0 = true ∧ pw_W q w S ∧ pw_p (m_X2_isBodySound S i0 x1) (fun S' r => ∀ f', pw_W q (w.1, f') S' → Q (some (.int r)) (w.1, f'))
set_option maxRecDepth 100000 in
set_option maxHeartbeats 8000000 in
theorem C_X2_isBodySound : np_C yX2_isBodySound cX2_isBodySound 4 (some .boolean) 3 64 0 0 sp_X2_isBodySound := by
  refine np_of (by decide) ?_
  intro X vs w Q hsp hX hmn hRt hlt
  obtain ⟨q, S, i0, x1, rfl, hi0, hW, h⟩ := hsp
  obtain ⟨n, f⟩ := w
  unfold m_X2_isBodySound at h
  have hR : ∀ st w ce sl, np_rt (some .boolean) 0 0 Q st w ce sl → X.2.2.1 st w ce sl := fun _ _ _ _ h => by rw [hRt]; exact h
  refine np_soundW (so_X2_isBodySound hX hR) [22] 400 0 _ _ _ _ _ ?_
  conv => whnf
  refine np_rd_i (hW.g hi0) ?_
  conv => whnf
  refine ⟨q, S, i0, x1, rfl, hi0, hW, pw_bd h (fun S7 r10 h f8 hW9 => ?_)⟩
  conv => whnf
  refine pw_st h (fun z12 h => ?_)
  conv => whnf
  refine np_rd_i (hW9.g hi0) ?_
  conv => whnf
  refine pw_br h (fun _ h => ?_) (fun _ h => ?_)
  · conv => whnf
    refine pw_st h (fun z13 h => ?_)
    conv => whnf
    exact np_gl (L_X2_isBodySound_22 hX hR (pw_F 20000) S7 i0 z12 z13 f8 hi0 hW9 h) ⟨rfl, rfl, rfl, trivial⟩
  · conv => whnf
    exact ⟨Nat.le_of_ble_eq_true rfl, Nat.le_of_ble_eq_true rfl, ⟨_, rfl, by decide⟩, _, fun _ _ h9 => h9, pw_ps h _ hW9⟩
theorem dX2_isTellerSound_0 : decode cX2_isTellerSound 0 = .ok (.aload_n 0, 1) := by decide +kernel
theorem dX2_isTellerSound_1 : decode cX2_isTellerSound 1 = .ok (.aload_n 0, 1) := by decide +kernel
theorem dX2_isTellerSound_2 : decode cX2_isTellerSound 2 = .ok (.iload_n 1, 1) := by decide +kernel
theorem dX2_isTellerSound_3 : decode cX2_isTellerSound 3 = .ok (.invokevirtual 43, 3) := by decide +kernel
theorem dX2_isTellerSound_6 : decode cX2_isTellerSound 6 = .ok (.invokevirtual 64, 3) := by decide +kernel
theorem dX2_isTellerSound_9 : decode cX2_isTellerSound 9 = .ok (.istore_n 2, 1) := by decide +kernel
theorem dX2_isTellerSound_10 : decode cX2_isTellerSound 10 = .ok (.iload_n 2, 1) := by decide +kernel
theorem dX2_isTellerSound_11 : decode cX2_isTellerSound 11 = .ok (.iload_n 1, 1) := by decide +kernel
theorem dX2_isTellerSound_12 : decode cX2_isTellerSound 12 = .ok (.if_icmp .ge 11, 3) := by decide +kernel
theorem dX2_isTellerSound_15 : decode cX2_isTellerSound 15 = .ok (.aload_n 0, 1) := by decide +kernel
theorem dX2_isTellerSound_16 : decode cX2_isTellerSound 16 = .ok (.iload_n 2, 1) := by decide +kernel
theorem dX2_isTellerSound_17 : decode cX2_isTellerSound 17 = .ok (.invokevirtual 76, 3) := by decide +kernel
theorem dX2_isTellerSound_20 : decode cX2_isTellerSound 20 = .ok (.ifCond .eq 5, 3) := by decide +kernel
theorem dX2_isTellerSound_23 : decode cX2_isTellerSound 23 = .ok (.iconst 0, 1) := by decide +kernel
theorem dX2_isTellerSound_24 : decode cX2_isTellerSound 24 = .ok (.ireturn, 1) := by decide +kernel
theorem dX2_isTellerSound_25 : decode cX2_isTellerSound 25 = .ok (.aload_n 0, 1) := by decide +kernel
theorem dX2_isTellerSound_26 : decode cX2_isTellerSound 26 = .ok (.iload_n 2, 1) := by decide +kernel
theorem dX2_isTellerSound_27 : decode cX2_isTellerSound 27 = .ok (.invokevirtual 39, 3) := by decide +kernel
theorem dX2_isTellerSound_30 : decode cX2_isTellerSound 30 = .ok (.istore_n 3, 1) := by decide +kernel
theorem dX2_isTellerSound_31 : decode cX2_isTellerSound 31 = .ok (.iload_n 3, 1) := by decide +kernel
theorem dX2_isTellerSound_32 : decode cX2_isTellerSound 32 = .ok (.bipush 6, 2) := by decide +kernel
theorem dX2_isTellerSound_34 : decode cX2_isTellerSound 34 = .ok (.if_icmp .eq 22, 3) := by decide +kernel
theorem dX2_isTellerSound_37 : decode cX2_isTellerSound 37 = .ok (.aload_n 0, 1) := by decide +kernel
theorem dX2_isTellerSound_38 : decode cX2_isTellerSound 38 = .ok (.iload_n 1, 1) := by decide +kernel
theorem dX2_isTellerSound_39 : decode cX2_isTellerSound 39 = .ok (.invokevirtual 39, 3) := by decide +kernel
theorem dX2_isTellerSound_42 : decode cX2_isTellerSound 42 = .ok (.bipush 8, 2) := by decide +kernel
theorem dX2_isTellerSound_44 : decode cX2_isTellerSound 44 = .ok (.if_icmp .ne 16, 3) := by decide +kernel
theorem dX2_isTellerSound_47 : decode cX2_isTellerSound 47 = .ok (.iload_n 3, 1) := by decide +kernel
theorem dX2_isTellerSound_48 : decode cX2_isTellerSound 48 = .ok (.ifCond .eq 8, 3) := by decide +kernel
theorem dX2_isTellerSound_51 : decode cX2_isTellerSound 51 = .ok (.iload_n 3, 1) := by decide +kernel
theorem dX2_isTellerSound_52 : decode cX2_isTellerSound 52 = .ok (.iconst 3, 1) := by decide +kernel
theorem dX2_isTellerSound_53 : decode cX2_isTellerSound 53 = .ok (.if_icmp .ne 7, 3) := by decide +kernel
theorem dX2_isTellerSound_56 : decode cX2_isTellerSound 56 = .ok (.iconst 1, 1) := by decide +kernel
theorem dX2_isTellerSound_57 : decode cX2_isTellerSound 57 = .ok (.goto 4, 3) := by decide +kernel
theorem dX2_isTellerSound_60 : decode cX2_isTellerSound 60 = .ok (.iconst 0, 1) := by decide +kernel
theorem dX2_isTellerSound_61 : decode cX2_isTellerSound 61 = .ok (.ireturn, 1) := by decide +kernel
def is_X2_isTellerSound (Rt : np_Rt) : List (Nat × np_Op) := [(0, np_ald 1 0), (1, np_ald 1 0), (2, np_ild 1 1), (3, nw_callV 2 2 sp_X2_a 2 0 0 0 0), (6, nw_callV 2 2 sp_X2_itemOf 3 0 0 0 0), (9, nw_ist 1 2), (10, np_ild 1 2), (11, np_ild 1 1), (12, nq_ic (fun x y => y ≤ x) 23), (15, np_ald 1 0), (16, np_ild 1 2), (17, nw_callV 2 2 sp_X2_isInLoop 3 0 0 0 0), (20, nq_if (fun x => x = 0) 25), (23, np_push 1 (.int 0)), (24, np_ret Rt), (25, np_ald 1 0), (26, np_ild 1 2), (27, nw_callV 2 2 sp_X2_kind 2 0 0 0 0), (30, nw_ist 1 3), (31, np_ild 1 3), (32, np_push 2 (.int 6)), (34, nq_ic (fun x y => x = y) 56), (37, np_ald 1 0), (38, np_ild 1 1), (39, nw_callV 2 2 sp_X2_kind 2 0 0 0 0), (42, np_push 2 (.int 8)), (44, nq_icne 60), (47, np_ild 1 3), (48, nq_if (fun x => x = 0) 56), (51, np_ild 1 3), (52, np_push 1 (.int 3)), (53, nq_icne 60), (56, np_push 1 (.int 1)), (57, np_goto 61), (60, np_push 1 (.int 0)), (61, np_ret Rt)]
set_option maxRecDepth 20000 in
theorem so_X2_isTellerSound {X : np_Ctx} {Rt : np_Rt} (hX : np_ok RX2 cX2_isTellerSound 4 4 87 0 0 .ireturn X) (hR : ∀ st w ce sl, Rt st w ce sl → X.2.2.1 st w ce sl) : ∀ q ∈ is_X2_isTellerSound Rt, np_S X q.1 q.2 :=
  List.forall_mem_cons.mpr ⟨np_s_aload_n hX dX2_isTellerSound_0 rfl, List.forall_mem_cons.mpr ⟨np_s_aload_n hX dX2_isTellerSound_1 rfl, List.forall_mem_cons.mpr ⟨np_s_iload_n hX dX2_isTellerSound_2 rfl, List.forall_mem_cons.mpr ⟨np_S.mono (op := np_callV 2 2 sp_X2_a 2 0 0 0 0) (np_s_callV hX C_X2_a dX2_isTellerSound_3 (q := (RX2, TX2, 5)) rfl rfl gw657 gw64 gw654 gw655 gw656 ⟨by decide, by decide, by decide⟩ (by decide) (by decide)) nw_callV_le, List.forall_mem_cons.mpr ⟨np_S.mono (op := np_callV 2 2 sp_X2_itemOf 3 0 0 0 0) (np_s_callV hX C_X2_itemOf dX2_isTellerSound_6 (q := (RX2, TX2, 5)) rfl rfl gw661 gw64 gw658 gw659 gw660 ⟨by decide, by decide, by decide⟩ (by decide) (by decide)) nw_callV_le, List.forall_mem_cons.mpr ⟨np_S.mono (op := np_ist 1 2) (np_s_istore_n hX dX2_isTellerSound_9 rfl (by decide)) nw_ist_le, List.forall_mem_cons.mpr ⟨np_s_iload_n hX dX2_isTellerSound_10 rfl, List.forall_mem_cons.mpr ⟨np_s_iload_n hX dX2_isTellerSound_11 rfl, List.forall_mem_cons.mpr ⟨np_S.mono (op := np_ic (fun x y => y ≤ x) 23) (np_s_icmp_ge hX dX2_isTellerSound_12 (by decide)) nq_ic_le, List.forall_mem_cons.mpr ⟨np_s_aload_n hX dX2_isTellerSound_15 rfl, List.forall_mem_cons.mpr ⟨np_s_iload_n hX dX2_isTellerSound_16 rfl, List.forall_mem_cons.mpr ⟨np_S.mono (op := np_callV 2 2 sp_X2_isInLoop 3 0 0 0 0) (np_s_callV hX C_X2_isInLoop dX2_isTellerSound_17 (q := (RX2, TX2, 5)) rfl rfl gw681 gw64 gw678 gw679 gw680 ⟨by decide, by decide, by decide⟩ (by decide) (by decide)) nw_callV_le, List.forall_mem_cons.mpr ⟨np_S.mono (op := np_if (fun x => x = 0) 25) (np_s_if_eq hX dX2_isTellerSound_20 (by decide)) nq_if_le, List.forall_mem_cons.mpr ⟨np_s_iconst hX dX2_isTellerSound_23 (by decide), List.forall_mem_cons.mpr ⟨np_S.mono (op := np_ret X.2.2.1) (np_s_ret hX dX2_isTellerSound_24) (nq_ret_le hR), List.forall_mem_cons.mpr ⟨np_s_aload_n hX dX2_isTellerSound_25 rfl, List.forall_mem_cons.mpr ⟨np_s_iload_n hX dX2_isTellerSound_26 rfl, List.forall_mem_cons.mpr ⟨np_S.mono (op := np_callV 2 2 sp_X2_kind 2 0 0 0 0) (np_s_callV hX C_X2_kind dX2_isTellerSound_27 (q := (RX2, TX2, 5)) rfl rfl gw650 gw64 gw647 gw648 gw649 ⟨by decide, by decide, by decide⟩ (by decide) (by decide)) nw_callV_le, List.forall_mem_cons.mpr ⟨np_S.mono (op := np_ist 1 3) (np_s_istore_n hX dX2_isTellerSound_30 rfl (by decide)) nw_ist_le, List.forall_mem_cons.mpr ⟨np_s_iload_n hX dX2_isTellerSound_31 rfl, List.forall_mem_cons.mpr ⟨np_s_bipush hX dX2_isTellerSound_32 (by decide), List.forall_mem_cons.mpr ⟨np_S.mono (op := np_ic (fun x y => x = y) 56) (np_s_icmp_eq hX dX2_isTellerSound_34 (by decide)) nq_ic_le, List.forall_mem_cons.mpr ⟨np_s_aload_n hX dX2_isTellerSound_37 rfl, List.forall_mem_cons.mpr ⟨np_s_iload_n hX dX2_isTellerSound_38 rfl, List.forall_mem_cons.mpr ⟨np_S.mono (op := np_callV 2 2 sp_X2_kind 2 0 0 0 0) (np_s_callV hX C_X2_kind dX2_isTellerSound_39 (q := (RX2, TX2, 5)) rfl rfl gw650 gw64 gw647 gw648 gw649 ⟨by decide, by decide, by decide⟩ (by decide) (by decide)) nw_callV_le, List.forall_mem_cons.mpr ⟨np_s_bipush hX dX2_isTellerSound_42 (by decide), List.forall_mem_cons.mpr ⟨np_S.mono (op := np_icne 60) (np_s_icmp_ne hX dX2_isTellerSound_44 (by decide)) nq_icne_le, List.forall_mem_cons.mpr ⟨np_s_iload_n hX dX2_isTellerSound_47 rfl, List.forall_mem_cons.mpr ⟨np_S.mono (op := np_if (fun x => x = 0) 56) (np_s_if_eq hX dX2_isTellerSound_48 (by decide)) nq_if_le, List.forall_mem_cons.mpr ⟨np_s_iload_n hX dX2_isTellerSound_51 rfl, List.forall_mem_cons.mpr ⟨np_s_iconst hX dX2_isTellerSound_52 (by decide), List.forall_mem_cons.mpr ⟨np_S.mono (op := np_icne 60) (np_s_icmp_ne hX dX2_isTellerSound_53 (by decide)) nq_icne_le, List.forall_mem_cons.mpr ⟨np_s_iconst hX dX2_isTellerSound_56 (by decide), List.forall_mem_cons.mpr ⟨np_s_goto hX dX2_isTellerSound_57 (by decide), List.forall_mem_cons.mpr ⟨np_s_iconst hX dX2_isTellerSound_60 (by decide), List.forall_mem_cons.mpr ⟨np_S.mono (op := np_ret X.2.2.1) (np_s_ret hX dX2_isTellerSound_61) (nq_ret_le hR), fun _ h => nomatch h⟩⟩⟩⟩⟩⟩⟩⟩⟩⟩⟩⟩⟩⟩⟩⟩⟩⟩⟩⟩⟩⟩⟩⟩⟩⟩⟩⟩⟩⟩⟩⟩⟩⟩⟩⟩
noncomputable def m_X2_isTellerSound (S : pw_S) (i0 : Nat) (x1 : Int32) : pw_R Int32 :=
 pw_b (m_X2_a S i0 x1) fun S1 r4 =>
 pw_b (m_X2_itemOf S1 i0 r4) fun S6 r9 =>
 pw_l (r9 : Int32) fun z11 =>
 if x1 ≤ z11 then
 (some (S6, 0))
 else
 (pw_b (m_X2_isInLoop S6 i0 z11) fun S12 r15 =>
 if r15 = 0 then
 (pw_b (m_X2_kind S12 i0 z11) fun S17 r20 =>
 pw_l (r20 : Int32) fun z22 =>
 if z22 = 6 then
 (some (S17, 1))
 else
 (pw_b (m_X2_kind S17 i0 x1) fun S23 r26 =>
 if r26 = 8 then
 (if z22 = 0 then
 (some (S23, 1))
 else
 (if z22 = 3 then
 (some (S23, 1))
 else
 (some (S23, 0))))
 else
 (some (S23, 0))))
 else
 (some (S12, 0)))
def sp_X2_isTellerSound : np_Sp := fun vs w Q => ∃ (q : Nat) (S : pw_S) (i0 : Nat) (x1 : Int32), vs = [.ref (pw_pl 51 i0), .int x1] ∧ pw_ok q 51 i0 = true ∧ pw_W q w S ∧ pw_p (m_X2_isTellerSound S i0 x1) (fun S' r => ∀ f', pw_W q (w.1, f') S' → Q (some (.int r)) (w.1, f'))
set_option maxRecDepth 100000 in
set_option maxHeartbeats 8000000 in
theorem C_X2_isTellerSound : np_C yX2_isTellerSound cX2_isTellerSound 4 (some .boolean) 4 87 0 0 sp_X2_isTellerSound := by
  refine np_of (by decide) ?_
  intro X vs w Q hsp hX hmn hRt hlt
  obtain ⟨q, S, i0, x1, rfl, hi0, hW, h⟩ := hsp
  obtain ⟨n, f⟩ := w
  unfold m_X2_isTellerSound at h
  have hR : ∀ st w ce sl, np_rt (some .boolean) 0 0 Q st w ce sl → X.2.2.1 st w ce sl := fun _ _ _ _ h => by rw [hRt]; exact h
  refine np_soundW (so_X2_isTellerSound hX hR) [] 400 0 _ _ _ _ _ ?_
  conv => whnf
  refine np_rd_i (hW.g hi0) ?_
  conv => whnf
  refine ⟨q, S, i0, x1, rfl, hi0, hW, pw_bd h (fun S1 r4 h f2 hW3 => ?_)⟩
  conv => whnf
  refine np_rd_i (hW3.g hi0) ?_
  conv => whnf
  refine ⟨q, S1, i0, r4, rfl, hi0, hW3, pw_bd h (fun S6 r9 h f7 hW8 => ?_)⟩
  conv => whnf
  refine pw_st h (fun z11 h => ?_)
  conv => whnf
  refine pw_br h (fun _ h => ?_) (fun _ h => ?_)
  · conv => whnf
    exact ⟨Nat.le_of_ble_eq_true rfl, Nat.le_of_ble_eq_true rfl, ⟨_, rfl, by decide⟩, _, fun _ _ h9 => h9, pw_ps h _ hW8⟩
  · conv => whnf
    refine np_rd_i (hW8.g hi0) ?_
    conv => whnf
    refine ⟨q, S6, i0, z11, rfl, hi0, hW8, pw_bd h (fun S12 r15 h f13 hW14 => ?_)⟩
    conv => whnf
    refine pw_br h (fun _ h => ?_) (fun _ h => ?_)
    · conv => whnf
      refine np_rd_i (hW14.g hi0) ?_
      conv => whnf
      refine ⟨q, S12, i0, z11, rfl, hi0, hW14, pw_bd h (fun S17 r20 h f18 hW19 => ?_)⟩
      conv => whnf
      refine pw_st h (fun z22 h => ?_)
      conv => whnf
      refine pw_br h (fun _ h => ?_) (fun _ h => ?_)
      · conv => whnf
        exact ⟨Nat.le_of_ble_eq_true rfl, Nat.le_of_ble_eq_true rfl, ⟨_, rfl, by decide⟩, _, fun _ _ h9 => h9, pw_ps h _ hW19⟩
      · conv => whnf
        refine np_rd_i (hW19.g hi0) ?_
        conv => whnf
        refine ⟨q, S17, i0, x1, rfl, hi0, hW19, pw_bd h (fun S23 r26 h f24 hW25 => ?_)⟩
        conv => whnf
        refine pw_br h (fun _ h => ?_) (fun _ h => ?_)
        · conv => whnf
          refine pw_br h (fun _ h => ?_) (fun _ h => ?_)
          · conv => whnf
            exact ⟨Nat.le_of_ble_eq_true rfl, Nat.le_of_ble_eq_true rfl, ⟨_, rfl, by decide⟩, _, fun _ _ h9 => h9, pw_ps h _ hW25⟩
          · conv => whnf
            refine pw_br h (fun _ h => ?_) (fun _ h => ?_)
            · conv => whnf
              exact ⟨Nat.le_of_ble_eq_true rfl, Nat.le_of_ble_eq_true rfl, ⟨_, rfl, by decide⟩, _, fun _ _ h9 => h9, pw_ps h _ hW25⟩
            · conv => whnf
              exact ⟨Nat.le_of_ble_eq_true rfl, Nat.le_of_ble_eq_true rfl, ⟨_, rfl, by decide⟩, _, fun _ _ h9 => h9, pw_ps h _ hW25⟩
        · conv => whnf
          exact ⟨Nat.le_of_ble_eq_true rfl, Nat.le_of_ble_eq_true rfl, ⟨_, rfl, by decide⟩, _, fun _ _ h9 => h9, pw_ps h _ hW25⟩
    · conv => whnf
      exact ⟨Nat.le_of_ble_eq_true rfl, Nat.le_of_ble_eq_true rfl, ⟨_, rfl, by decide⟩, _, fun _ _ h9 => h9, pw_ps h _ hW14⟩
theorem dX2_isDescription_0 : decode cX2_isDescription 0 = .ok (.iconst 0, 1) := by decide +kernel
theorem dX2_isDescription_1 : decode cX2_isDescription 1 = .ok (.istore_n 1, 1) := by decide +kernel
theorem dX2_isDescription_2 : decode cX2_isDescription 2 = .ok (.iload_n 1, 1) := by decide +kernel
theorem dX2_isDescription_3 : decode cX2_isDescription 3 = .ok (.aload_n 0, 1) := by decide +kernel
theorem dX2_isDescription_4 : decode cX2_isDescription 4 = .ok (.getfield 28, 3) := by decide +kernel
theorem dX2_isDescription_7 : decode cX2_isDescription 7 = .ok (.if_icmp .ge 58, 3) := by decide +kernel
theorem dX2_isDescription_10 : decode cX2_isDescription 10 = .ok (.aload_n 0, 1) := by decide +kernel
theorem dX2_isDescription_11 : decode cX2_isDescription 11 = .ok (.iload_n 1, 1) := by decide +kernel
theorem dX2_isDescription_12 : decode cX2_isDescription 12 = .ok (.invokevirtual 60, 3) := by decide +kernel
theorem dX2_isDescription_15 : decode cX2_isDescription 15 = .ok (.ifCond .eq 18, 3) := by decide +kernel
theorem dX2_isDescription_18 : decode cX2_isDescription 18 = .ok (.aload_n 0, 1) := by decide +kernel
theorem dX2_isDescription_19 : decode cX2_isDescription 19 = .ok (.aload_n 0, 1) := by decide +kernel
theorem dX2_isDescription_20 : decode cX2_isDescription 20 = .ok (.iload_n 1, 1) := by decide +kernel
theorem dX2_isDescription_21 : decode cX2_isDescription 21 = .ok (.invokevirtual 43, 3) := by decide +kernel
theorem dX2_isDescription_24 : decode cX2_isDescription 24 = .ok (.invokevirtual 64, 3) := by decide +kernel
theorem dX2_isDescription_27 : decode cX2_isDescription 27 = .ok (.iload_n 1, 1) := by decide +kernel
theorem dX2_isDescription_28 : decode cX2_isDescription 28 = .ok (.if_icmp .eq 5, 3) := by decide +kernel
theorem dX2_isDescription_31 : decode cX2_isDescription 31 = .ok (.iconst 0, 1) := by decide +kernel
theorem dX2_isDescription_32 : decode cX2_isDescription 32 = .ok (.ireturn, 1) := by decide +kernel
theorem dX2_isDescription_33 : decode cX2_isDescription 33 = .ok (.aload_n 0, 1) := by decide +kernel
theorem dX2_isDescription_34 : decode cX2_isDescription 34 = .ok (.iload_n 1, 1) := by decide +kernel
theorem dX2_isDescription_35 : decode cX2_isDescription 35 = .ok (.invokevirtual 67, 3) := by decide +kernel
theorem dX2_isDescription_38 : decode cX2_isDescription 38 = .ok (.ifCond .eq 21, 3) := by decide +kernel
theorem dX2_isDescription_41 : decode cX2_isDescription 41 = .ok (.aload_n 0, 1) := by decide +kernel
theorem dX2_isDescription_42 : decode cX2_isDescription 42 = .ok (.iload_n 1, 1) := by decide +kernel
theorem dX2_isDescription_43 : decode cX2_isDescription 43 = .ok (.invokevirtual 70, 3) := by decide +kernel
theorem dX2_isDescription_46 : decode cX2_isDescription 46 = .ok (.ifCond .eq 11, 3) := by decide +kernel
theorem dX2_isDescription_49 : decode cX2_isDescription 49 = .ok (.aload_n 0, 1) := by decide +kernel
theorem dX2_isDescription_50 : decode cX2_isDescription 50 = .ok (.iload_n 1, 1) := by decide +kernel
theorem dX2_isDescription_51 : decode cX2_isDescription 51 = .ok (.invokevirtual 73, 3) := by decide +kernel
theorem dX2_isDescription_54 : decode cX2_isDescription 54 = .ok (.ifCond .ne 5, 3) := by decide +kernel
theorem dX2_isDescription_57 : decode cX2_isDescription 57 = .ok (.iconst 0, 1) := by decide +kernel
theorem dX2_isDescription_58 : decode cX2_isDescription 58 = .ok (.ireturn, 1) := by decide +kernel
theorem dX2_isDescription_59 : decode cX2_isDescription 59 = .ok (.iinc 1 1, 3) := by decide +kernel
theorem dX2_isDescription_62 : decode cX2_isDescription 62 = .ok (.goto (-60), 3) := by decide +kernel
theorem dX2_isDescription_65 : decode cX2_isDescription 65 = .ok (.aload_n 0, 1) := by decide +kernel
theorem dX2_isDescription_66 : decode cX2_isDescription 66 = .ok (.getfield 28, 3) := by decide +kernel
theorem dX2_isDescription_69 : decode cX2_isDescription 69 = .ok (.ifCond .le 7, 3) := by decide +kernel
theorem dX2_isDescription_72 : decode cX2_isDescription 72 = .ok (.iconst 1, 1) := by decide +kernel
theorem dX2_isDescription_73 : decode cX2_isDescription 73 = .ok (.goto 4, 3) := by decide +kernel
theorem dX2_isDescription_76 : decode cX2_isDescription 76 = .ok (.iconst 0, 1) := by decide +kernel
theorem dX2_isDescription_77 : decode cX2_isDescription 77 = .ok (.ireturn, 1) := by decide +kernel
def is_X2_isDescription (Rt : np_Rt) : List (Nat × np_Op) := [(0, np_push 1 (.int 0)), (1, nw_ist 1 1), (2, np_ild 1 1), (3, np_ald 1 0), (4, nw_getf 2 4), (7, nq_ic (fun x y => y ≤ x) 65), (10, np_ald 1 0), (11, np_ild 1 1), (12, nw_callV 2 2 sp_X2_hasSlot 3 0 0 0 0), (15, nq_if (fun x => x = 0) 33), (18, np_ald 1 0), (19, np_ald 1 0), (20, np_ild 1 1), (21, nw_callV 2 2 sp_X2_a 2 0 0 0 0), (24, nw_callV 2 2 sp_X2_itemOf 3 0 0 0 0), (27, np_ild 1 1), (28, nq_ic (fun x y => x = y) 33), (31, np_push 1 (.int 0)), (32, np_ret Rt), (33, np_ald 1 0), (34, np_ild 1 1), (35, nw_callV 2 2 sp_X2_embraces 2 0 0 0 0), (38, nq_if (fun x => x = 0) 59), (41, np_ald 1 0), (42, np_ild 1 1), (43, nw_callV 2 2 sp_X2_isBodySound 4 0 0 0 0), (46, nq_if (fun x => x = 0) 57), (49, np_ald 1 0), (50, np_ild 1 1), (51, nw_callV 2 2 sp_X2_isTellerSound 4 0 0 0 0), (54, nq_ifne 59), (57, np_push 1 (.int 0)), (58, np_ret Rt), (59, nw_iinc 1 1), (62, np_goto 2), (65, np_ald 1 0), (66, nw_getf 2 4), (69, nq_if (fun x => x ≤ 0) 76), (72, np_push 1 (.int 1)), (73, np_goto 77), (76, np_push 1 (.int 0)), (77, np_ret Rt)]
set_option maxRecDepth 20000 in
theorem so_X2_isDescription {X : np_Ctx} {Rt : np_Rt} (hX : np_ok RX2 cX2_isDescription 2 5 110 0 0 .ireturn X) (hR : ∀ st w ce sl, Rt st w ce sl → X.2.2.1 st w ce sl) : ∀ q ∈ is_X2_isDescription Rt, np_S X q.1 q.2 :=
  List.forall_mem_cons.mpr ⟨np_s_iconst hX dX2_isDescription_0 (by decide), List.forall_mem_cons.mpr ⟨np_S.mono (op := np_ist 1 1) (np_s_istore_n hX dX2_isDescription_1 rfl (by decide)) nw_ist_le, List.forall_mem_cons.mpr ⟨np_s_iload_n hX dX2_isDescription_2 rfl, List.forall_mem_cons.mpr ⟨np_s_aload_n hX dX2_isDescription_3 rfl, List.forall_mem_cons.mpr ⟨np_S.mono (op := np_getf 2 4) (np_s_getf hX dX2_isDescription_4 (C := RX2) (T := TX2) (N := 5) rfl guX2 (by decide) gw105) nw_getf_le, List.forall_mem_cons.mpr ⟨np_S.mono (op := np_ic (fun x y => y ≤ x) 65) (np_s_icmp_ge hX dX2_isDescription_7 (by decide)) nq_ic_le, List.forall_mem_cons.mpr ⟨np_s_aload_n hX dX2_isDescription_10 rfl, List.forall_mem_cons.mpr ⟨np_s_iload_n hX dX2_isDescription_11 rfl, List.forall_mem_cons.mpr ⟨np_S.mono (op := np_callV 2 2 sp_X2_hasSlot 3 0 0 0 0) (np_s_callV hX C_X2_hasSlot dX2_isDescription_12 (q := (RX2, TX2, 5)) rfl rfl gw646 gw64 gw643 gw644 gw645 ⟨by decide, by decide, by decide⟩ (by decide) (by decide)) nw_callV_le, List.forall_mem_cons.mpr ⟨np_S.mono (op := np_if (fun x => x = 0) 33) (np_s_if_eq hX dX2_isDescription_15 (by decide)) nq_if_le, List.forall_mem_cons.mpr ⟨np_s_aload_n hX dX2_isDescription_18 rfl, List.forall_mem_cons.mpr ⟨np_s_aload_n hX dX2_isDescription_19 rfl, List.forall_mem_cons.mpr ⟨np_s_iload_n hX dX2_isDescription_20 rfl, List.forall_mem_cons.mpr ⟨np_S.mono (op := np_callV 2 2 sp_X2_a 2 0 0 0 0) (np_s_callV hX C_X2_a dX2_isDescription_21 (q := (RX2, TX2, 5)) rfl rfl gw657 gw64 gw654 gw655 gw656 ⟨by decide, by decide, by decide⟩ (by decide) (by decide)) nw_callV_le, List.forall_mem_cons.mpr ⟨np_S.mono (op := np_callV 2 2 sp_X2_itemOf 3 0 0 0 0) (np_s_callV hX C_X2_itemOf dX2_isDescription_24 (q := (RX2, TX2, 5)) rfl rfl gw661 gw64 gw658 gw659 gw660 ⟨by decide, by decide, by decide⟩ (by decide) (by decide)) nw_callV_le, List.forall_mem_cons.mpr ⟨np_s_iload_n hX dX2_isDescription_27 rfl, List.forall_mem_cons.mpr ⟨np_S.mono (op := np_ic (fun x y => x = y) 33) (np_s_icmp_eq hX dX2_isDescription_28 (by decide)) nq_ic_le, List.forall_mem_cons.mpr ⟨np_s_iconst hX dX2_isDescription_31 (by decide), List.forall_mem_cons.mpr ⟨np_S.mono (op := np_ret X.2.2.1) (np_s_ret hX dX2_isDescription_32) (nq_ret_le hR), List.forall_mem_cons.mpr ⟨np_s_aload_n hX dX2_isDescription_33 rfl, List.forall_mem_cons.mpr ⟨np_s_iload_n hX dX2_isDescription_34 rfl, List.forall_mem_cons.mpr ⟨np_S.mono (op := np_callV 2 2 sp_X2_embraces 2 0 0 0 0) (np_s_callV hX C_X2_embraces dX2_isDescription_35 (q := (RX2, TX2, 5)) rfl rfl gw665 gw64 gw662 gw663 gw664 ⟨by decide, by decide, by decide⟩ (by decide) (by decide)) nw_callV_le, List.forall_mem_cons.mpr ⟨np_S.mono (op := np_if (fun x => x = 0) 59) (np_s_if_eq hX dX2_isDescription_38 (by decide)) nq_if_le, List.forall_mem_cons.mpr ⟨np_s_aload_n hX dX2_isDescription_41 rfl, List.forall_mem_cons.mpr ⟨np_s_iload_n hX dX2_isDescription_42 rfl, List.forall_mem_cons.mpr ⟨np_S.mono (op := np_callV 2 2 sp_X2_isBodySound 4 0 0 0 0) (np_s_callV hX C_X2_isBodySound dX2_isDescription_43 (q := (RX2, TX2, 5)) rfl rfl gw669 gw64 gw666 gw668 gw1 ⟨by decide, by decide, by decide⟩ (by decide) (by decide)) nw_callV_le, List.forall_mem_cons.mpr ⟨np_S.mono (op := np_if (fun x => x = 0) 57) (np_s_if_eq hX dX2_isDescription_46 (by decide)) nq_if_le, List.forall_mem_cons.mpr ⟨np_s_aload_n hX dX2_isDescription_49 rfl, List.forall_mem_cons.mpr ⟨np_s_iload_n hX dX2_isDescription_50 rfl, List.forall_mem_cons.mpr ⟨np_S.mono (op := np_callV 2 2 sp_X2_isTellerSound 4 0 0 0 0) (np_s_callV hX C_X2_isTellerSound dX2_isDescription_51 (q := (RX2, TX2, 5)) rfl rfl gw677 gw64 gw674 gw676 gw2 ⟨by decide, by decide, by decide⟩ (by decide) (by decide)) nw_callV_le, List.forall_mem_cons.mpr ⟨np_S.mono (op := np_ifne 59) (np_s_if_ne hX dX2_isDescription_54 (by decide)) nq_ifne_le, List.forall_mem_cons.mpr ⟨np_s_iconst hX dX2_isDescription_57 (by decide), List.forall_mem_cons.mpr ⟨np_S.mono (op := np_ret X.2.2.1) (np_s_ret hX dX2_isDescription_58) (nq_ret_le hR), List.forall_mem_cons.mpr ⟨np_S.mono (op := np_iinc 1 1) (np_s_iinc hX dX2_isDescription_59 (by decide)) nw_iinc_le, List.forall_mem_cons.mpr ⟨np_s_goto hX dX2_isDescription_62 (by decide), List.forall_mem_cons.mpr ⟨np_s_aload_n hX dX2_isDescription_65 rfl, List.forall_mem_cons.mpr ⟨np_S.mono (op := np_getf 2 4) (np_s_getf hX dX2_isDescription_66 (C := RX2) (T := TX2) (N := 5) rfl guX2 (by decide) gw105) nw_getf_le, List.forall_mem_cons.mpr ⟨np_S.mono (op := np_if (fun x => x ≤ 0) 76) (np_s_if_le hX dX2_isDescription_69 (by decide)) nq_if_le, List.forall_mem_cons.mpr ⟨np_s_iconst hX dX2_isDescription_72 (by decide), List.forall_mem_cons.mpr ⟨np_s_goto hX dX2_isDescription_73 (by decide), List.forall_mem_cons.mpr ⟨np_s_iconst hX dX2_isDescription_76 (by decide), List.forall_mem_cons.mpr ⟨np_S.mono (op := np_ret X.2.2.1) (np_s_ret hX dX2_isDescription_77) (nq_ret_le hR), fun _ h => nomatch h⟩⟩⟩⟩⟩⟩⟩⟩⟩⟩⟩⟩⟩⟩⟩⟩⟩⟩⟩⟩⟩⟩⟩⟩⟩⟩⟩⟩⟩⟩⟩⟩⟩⟩⟩⟩⟩⟩⟩⟩⟩⟩
noncomputable def m_X2_isDescription_2 : Nat → pw_S → Nat → Int32 → pw_R Int32
| 0, _, _, _ => none
| N + 1, S, v0, v1 =>
 if (S 51 v0 4) ≤ v1 then
 (if (S 51 v0 4) ≤ 0 then
 (some (S, 0))
 else
 (some (S, 1)))
 else
 (pw_b (m_X2_hasSlot S v0 v1) fun S1 r4 =>
 if r4 = 0 then
 (pw_b (m_X2_embraces S1 v0 v1) fun S6 r9 =>
 if r9 = 0 then
 (pw_l (v1 + 1 : Int32) fun z11 =>
 m_X2_isDescription_2 N S6 v0 z11)
 else
 (pw_b (m_X2_isBodySound S6 v0 v1) fun S12 r15 =>
 if r15 = 0 then
 (some (S12, 0))
 else
 (pw_b (m_X2_isTellerSound S12 v0 v1) fun S17 r20 =>
 if r20 = 0 then
 (some (S17, 0))
 else
 (pw_l (v1 + 1 : Int32) fun z22 =>
 m_X2_isDescription_2 N S17 v0 z22))))
 else
 (pw_b (m_X2_a S1 v0 v1) fun S23 r26 =>
 pw_b (m_X2_itemOf S23 v0 r26) fun S28 r31 =>
 if r31 = v1 then
 (pw_b (m_X2_embraces S28 v0 v1) fun S33 r36 =>
 if r36 = 0 then
 (pw_l (v1 + 1 : Int32) fun z38 =>
 m_X2_isDescription_2 N S33 v0 z38)
 else
 (pw_b (m_X2_isBodySound S33 v0 v1) fun S39 r42 =>
 if r42 = 0 then
 (some (S39, 0))
 else
 (pw_b (m_X2_isTellerSound S39 v0 v1) fun S44 r47 =>
 if r47 = 0 then
 (some (S44, 0))
 else
 (pw_l (v1 + 1 : Int32) fun z49 =>
 m_X2_isDescription_2 N S44 v0 z49))))
 else
 (some (S28, 0))))
set_option maxRecDepth 100000 in
set_option maxHeartbeats 8000000 in
theorem L_X2_isDescription_2 {X : np_Ctx} (hX : np_ok RX2 cX2_isDescription 2 5 110 0 0 .ireturn X) {Q : Option Value → np_W → Prop} {q n : Nat} (hR : ∀ st w ce sl, np_rt (some .boolean) 0 0 Q st w ce sl → X.2.2.1 st w ce sl) : ∀ (N : Nat) (S : pw_S) (v0 : Nat) (v1 : Int32) (f : Nat → Option np_E) (hv0 : pw_ok q 51 v0 = true), pw_W q (n, f) S → pw_p (m_X2_isDescription_2 N S v0 v1) (fun S' r => ∀ f', pw_W q (n, f') S' → Q (some (.int r)) (n, f')) → np_G X 2 [(0, .ref (pw_pl 51 v0)), (1, .int v1)] [] (n, f) 0 0 := by
  intro N
  induction N with
  | zero =>
    intro S v0 v1 f hv0 hW h
    exact (pw_pn h).elim
  | succ N ih =>
    intro S v0 v1 f hv0 hW h
    unfold m_X2_isDescription_2 at h
    refine np_soundW (so_X2_isDescription hX hR) [2] 400 2 _ _ _ _ _ ?_
    conv => whnf
    refine np_rd_i (hW.g hv0) ?_
    conv => whnf
    refine pw_br h (fun _ h => ?_) (fun _ h => ?_)
    · conv => whnf
      refine np_rd_i (hW.g hv0) ?_
      conv => whnf
      refine pw_br h (fun _ h => ?_) (fun _ h => ?_)
      · conv => whnf
        exact ⟨Nat.le_of_ble_eq_true rfl, Nat.le_of_ble_eq_true rfl, ⟨_, rfl, by decide⟩, _, fun _ _ h9 => h9, pw_ps h _ hW⟩
      · conv => whnf
        exact ⟨Nat.le_of_ble_eq_true rfl, Nat.le_of_ble_eq_true rfl, ⟨_, rfl, by decide⟩, _, fun _ _ h9 => h9, pw_ps h _ hW⟩
    · conv => whnf
      refine np_rd_i (hW.g hv0) ?_
      conv => whnf
      refine ⟨q, S, v0, v1, rfl, hv0, hW, pw_bd h (fun S1 r4 h f2 hW3 => ?_)⟩
      conv => whnf
      refine pw_br h (fun _ h => ?_) (fun _ h => ?_)
      · conv => whnf
        refine np_rd_i (hW3.g hv0) ?_
        conv => whnf
        refine ⟨q, S1, v0, v1, rfl, hv0, hW3, pw_bd h (fun S6 r9 h f7 hW8 => ?_)⟩
        conv => whnf
        refine pw_br h (fun _ h => ?_) (fun _ h => ?_)
        · conv => whnf
          refine pw_st h (fun z11 h => ?_)
          conv => whnf
          exact np_gl (ih S6 v0 z11 f7 hv0 hW8 h) ⟨rfl, rfl, trivial⟩
        · conv => whnf
          refine np_rd_i (hW8.g hv0) ?_
          conv => whnf
          refine ⟨q, S6, v0, v1, rfl, hv0, hW8, pw_bd h (fun S12 r15 h f13 hW14 => ?_)⟩
          conv => whnf
          refine pw_br h (fun _ h => ?_) (fun _ h => ?_)
          · conv => whnf
            exact ⟨Nat.le_of_ble_eq_true rfl, Nat.le_of_ble_eq_true rfl, ⟨_, rfl, by decide⟩, _, fun _ _ h9 => h9, pw_ps h _ hW14⟩
          · conv => whnf
            refine np_rd_i (hW14.g hv0) ?_
            conv => whnf
            refine ⟨q, S12, v0, v1, rfl, hv0, hW14, pw_bd h (fun S17 r20 h f18 hW19 => ?_)⟩
            conv => whnf
            refine pw_br h (fun _ h => ?_) (fun _ h => ?_)
            · conv => whnf
              exact ⟨Nat.le_of_ble_eq_true rfl, Nat.le_of_ble_eq_true rfl, ⟨_, rfl, by decide⟩, _, fun _ _ h9 => h9, pw_ps h _ hW19⟩
            · conv => whnf
              refine pw_st h (fun z22 h => ?_)
              conv => whnf
              exact np_gl (ih S17 v0 z22 f18 hv0 hW19 h) ⟨rfl, rfl, trivial⟩
      · conv => whnf
        refine np_rd_i (hW3.g hv0) ?_
        conv => whnf
        refine ⟨q, S1, v0, v1, rfl, hv0, hW3, pw_bd h (fun S23 r26 h f24 hW25 => ?_)⟩
        conv => whnf
        refine np_rd_i (hW25.g hv0) ?_
        conv => whnf
        refine ⟨q, S23, v0, r26, rfl, hv0, hW25, pw_bd h (fun S28 r31 h f29 hW30 => ?_)⟩
        conv => whnf
        refine pw_br h (fun _ h => ?_) (fun _ h => ?_)
        · conv => whnf
          refine np_rd_i (hW30.g hv0) ?_
          conv => whnf
          refine ⟨q, S28, v0, v1, rfl, hv0, hW30, pw_bd h (fun S33 r36 h f34 hW35 => ?_)⟩
          conv => whnf
          refine pw_br h (fun _ h => ?_) (fun _ h => ?_)
          · conv => whnf
            refine pw_st h (fun z38 h => ?_)
            conv => whnf
            exact np_gl (ih S33 v0 z38 f34 hv0 hW35 h) ⟨rfl, rfl, trivial⟩
          · conv => whnf
            refine np_rd_i (hW35.g hv0) ?_
            conv => whnf
            refine ⟨q, S33, v0, v1, rfl, hv0, hW35, pw_bd h (fun S39 r42 h f40 hW41 => ?_)⟩
            conv => whnf
            refine pw_br h (fun _ h => ?_) (fun _ h => ?_)
            · conv => whnf
              exact ⟨Nat.le_of_ble_eq_true rfl, Nat.le_of_ble_eq_true rfl, ⟨_, rfl, by decide⟩, _, fun _ _ h9 => h9, pw_ps h _ hW41⟩
            · conv => whnf
              refine np_rd_i (hW41.g hv0) ?_
              conv => whnf
              refine ⟨q, S39, v0, v1, rfl, hv0, hW41, pw_bd h (fun S44 r47 h f45 hW46 => ?_)⟩
              conv => whnf
              refine pw_br h (fun _ h => ?_) (fun _ h => ?_)
              · conv => whnf
                exact ⟨Nat.le_of_ble_eq_true rfl, Nat.le_of_ble_eq_true rfl, ⟨_, rfl, by decide⟩, _, fun _ _ h9 => h9, pw_ps h _ hW46⟩
              · conv => whnf
                refine pw_st h (fun z49 h => ?_)
                conv => whnf
                exact np_gl (ih S44 v0 z49 f45 hv0 hW46 h) ⟨rfl, rfl, trivial⟩
        · conv => whnf
          exact ⟨Nat.le_of_ble_eq_true rfl, Nat.le_of_ble_eq_true rfl, ⟨_, rfl, by decide⟩, _, fun _ _ h9 => h9, pw_ps h _ hW30⟩
noncomputable def m_X2_isDescription (S : pw_S) (i0 : Nat) : pw_R Int32 :=
 pw_l (0 : Int32) fun z50 =>
 m_X2_isDescription_2 (pw_F 20000) S i0 z50
def sp_X2_isDescription : np_Sp := fun vs w Q => ∃ (q : Nat) (S : pw_S) (i0 : Nat), vs = [.ref (pw_pl 51 i0)] ∧ pw_ok q 51 i0 = true ∧ pw_W q w S ∧ pw_p (m_X2_isDescription S i0) (fun S' r => ∀ f', pw_W q (w.1, f') S' → Q (some (.int r)) (w.1, f'))
set_option maxRecDepth 100000 in
set_option maxHeartbeats 8000000 in
theorem C_X2_isDescription : np_C yX2_isDescription cX2_isDescription 2 (some .boolean) 5 110 0 0 sp_X2_isDescription := by
  refine np_of (by decide) ?_
  intro X vs w Q hsp hX hmn hRt hlt
  obtain ⟨q, S, i0, rfl, hi0, hW, h⟩ := hsp
  obtain ⟨n, f⟩ := w
  unfold m_X2_isDescription at h
  have hR : ∀ st w ce sl, np_rt (some .boolean) 0 0 Q st w ce sl → X.2.2.1 st w ce sl := fun _ _ _ _ h => by rw [hRt]; exact h
  refine np_soundW (so_X2_isDescription hX hR) [2] 400 0 _ _ _ _ _ ?_
  conv => whnf
  refine pw_st h (fun z50 h => ?_)
  conv => whnf
  exact np_gl (L_X2_isDescription_2 hX hR (pw_F 20000) S i0 z50 f hi0 hW h) ⟨rfl, rfl, trivial⟩
theorem dX11_fillOfWord_0 : decode cX11_fillOfWord 0 = .ok (.iload_n 0, 1) := by decide +kernel
theorem dX11_fillOfWord_1 : decode cX11_fillOfWord 1 = .ok (.ifCond .ne 8, 3) := by decide +kernel
theorem dX11_fillOfWord_4 : decode cX11_fillOfWord 4 = .ok (.bipush 32, 2) := by decide +kernel
theorem dX11_fillOfWord_6 : decode cX11_fillOfWord 6 = .ok (.goto 15, 3) := by decide +kernel
theorem dX11_fillOfWord_9 : decode cX11_fillOfWord 9 = .ok (.iload_n 0, 1) := by decide +kernel
theorem dX11_fillOfWord_10 : decode cX11_fillOfWord 10 = .ok (.iconst 1, 1) := by decide +kernel
theorem dX11_fillOfWord_11 : decode cX11_fillOfWord 11 = .ok (.if_icmp .ne 8, 3) := by decide +kernel
theorem dX11_fillOfWord_14 : decode cX11_fillOfWord 14 = .ok (.bipush 46, 2) := by decide +kernel
theorem dX11_fillOfWord_16 : decode cX11_fillOfWord 16 = .ok (.goto 5, 3) := by decide +kernel
theorem dX11_fillOfWord_19 : decode cX11_fillOfWord 19 = .ok (.bipush 97, 2) := by decide +kernel
theorem dX11_fillOfWord_21 : decode cX11_fillOfWord 21 = .ok (.ireturn, 1) := by decide +kernel
def is_X11_fillOfWord (Rt : np_Rt) : List (Nat × np_Op) := [(0, np_ild 1 0), (1, nq_ifne 9), (4, np_push 2 (.int 32)), (6, np_goto 21), (9, np_ild 1 0), (10, np_push 1 (.int 1)), (11, nq_icne 19), (14, np_push 2 (.int 46)), (16, np_goto 21), (19, np_push 2 (.int 97)), (21, np_ret Rt)]
set_option maxRecDepth 20000 in
theorem so_X11_fillOfWord {X : np_Ctx} {Rt : np_Rt} (hX : np_ok RX11 cX11_fillOfWord 1 0 0 0 0 .ireturn X) (hR : ∀ st w ce sl, Rt st w ce sl → X.2.2.1 st w ce sl) : ∀ q ∈ is_X11_fillOfWord Rt, np_S X q.1 q.2 :=
  List.forall_mem_cons.mpr ⟨np_s_iload_n hX dX11_fillOfWord_0 rfl, List.forall_mem_cons.mpr ⟨np_S.mono (op := np_ifne 9) (np_s_if_ne hX dX11_fillOfWord_1 (by decide)) nq_ifne_le, List.forall_mem_cons.mpr ⟨np_s_bipush hX dX11_fillOfWord_4 (by decide), List.forall_mem_cons.mpr ⟨np_s_goto hX dX11_fillOfWord_6 (by decide), List.forall_mem_cons.mpr ⟨np_s_iload_n hX dX11_fillOfWord_9 rfl, List.forall_mem_cons.mpr ⟨np_s_iconst hX dX11_fillOfWord_10 (by decide), List.forall_mem_cons.mpr ⟨np_S.mono (op := np_icne 19) (np_s_icmp_ne hX dX11_fillOfWord_11 (by decide)) nq_icne_le, List.forall_mem_cons.mpr ⟨np_s_bipush hX dX11_fillOfWord_14 (by decide), List.forall_mem_cons.mpr ⟨np_s_goto hX dX11_fillOfWord_16 (by decide), List.forall_mem_cons.mpr ⟨np_s_bipush hX dX11_fillOfWord_19 (by decide), List.forall_mem_cons.mpr ⟨np_S.mono (op := np_ret X.2.2.1) (np_s_ret hX dX11_fillOfWord_21) (nq_ret_le hR), fun _ h => nomatch h⟩⟩⟩⟩⟩⟩⟩⟩⟩⟩⟩
noncomputable def m_X11_fillOfWord (S : pw_S) (x0 : Int32) : pw_R Int32 :=
 if x0 = 0 then
 (some (S, 32))
 else
 (if x0 = 1 then
 (some (S, 46))
 else
 (some (S, 97)))
def sp_X11_fillOfWord : np_Sp := fun vs w Q => ∃ (q : Nat) (S : pw_S) (x0 : Int32), vs = [.int x0] ∧ pw_W q w S ∧ pw_p (m_X11_fillOfWord S x0) (fun S' r => ∀ f', pw_W q (w.1, f') S' → Q (some (.int r)) (w.1, f'))
set_option maxRecDepth 100000 in
set_option maxHeartbeats 8000000 in
theorem C_X11_fillOfWord : np_C yX11_fillOfWord cX11_fillOfWord 1 (some .int) 0 0 0 0 sp_X11_fillOfWord := by
  refine np_of (by decide) ?_
  intro X vs w Q hsp hX hmn hRt hlt
  obtain ⟨q, S, x0, rfl, hW, h⟩ := hsp
  obtain ⟨n, f⟩ := w
  unfold m_X11_fillOfWord at h
  have hR : ∀ st w ce sl, np_rt (some .int) 0 0 Q st w ce sl → X.2.2.1 st w ce sl := fun _ _ _ _ h => by rw [hRt]; exact h
  refine np_soundW (so_X11_fillOfWord hX hR) [] 400 0 _ _ _ _ _ ?_
  conv => whnf
  refine pw_br h (fun _ h => ?_) (fun _ h => ?_)
  · conv => whnf
    exact ⟨Nat.le_of_ble_eq_true rfl, Nat.le_of_ble_eq_true rfl, ⟨_, rfl⟩, _, fun _ _ h9 => h9, pw_ps h _ hW⟩
  · conv => whnf
    refine pw_br h (fun _ h => ?_) (fun _ h => ?_)
    · conv => whnf
      exact ⟨Nat.le_of_ble_eq_true rfl, Nat.le_of_ble_eq_true rfl, ⟨_, rfl⟩, _, fun _ _ h9 => h9, pw_ps h _ hW⟩
    · conv => whnf
      exact ⟨Nat.le_of_ble_eq_true rfl, Nat.le_of_ble_eq_true rfl, ⟨_, rfl⟩, _, fun _ _ h9 => h9, pw_ps h _ hW⟩
theorem dX2_firstUnsure_0 : decode cX2_firstUnsure 0 = .ok (.iconst 0, 1) := by decide +kernel
theorem dX2_firstUnsure_1 : decode cX2_firstUnsure 1 = .ok (.istore_n 1, 1) := by decide +kernel
theorem dX2_firstUnsure_2 : decode cX2_firstUnsure 2 = .ok (.iload_n 1, 1) := by decide +kernel
theorem dX2_firstUnsure_3 : decode cX2_firstUnsure 3 = .ok (.aload_n 0, 1) := by decide +kernel
theorem dX2_firstUnsure_4 : decode cX2_firstUnsure 4 = .ok (.getfield 28, 3) := by decide +kernel
theorem dX2_firstUnsure_7 : decode cX2_firstUnsure 7 = .ok (.if_icmp .ge 59, 3) := by decide +kernel
theorem dX2_firstUnsure_10 : decode cX2_firstUnsure 10 = .ok (.aload_n 0, 1) := by decide +kernel
theorem dX2_firstUnsure_11 : decode cX2_firstUnsure 11 = .ok (.iload_n 1, 1) := by decide +kernel
theorem dX2_firstUnsure_12 : decode cX2_firstUnsure 12 = .ok (.invokevirtual 39, 3) := by decide +kernel
theorem dX2_firstUnsure_15 : decode cX2_firstUnsure 15 = .ok (.iconst 1, 1) := by decide +kernel
theorem dX2_firstUnsure_16 : decode cX2_firstUnsure 16 = .ok (.if_icmp .ne 18, 3) := by decide +kernel
theorem dX2_firstUnsure_19 : decode cX2_firstUnsure 19 = .ok (.aload_n 0, 1) := by decide +kernel
theorem dX2_firstUnsure_20 : decode cX2_firstUnsure 20 = .ok (.iload_n 1, 1) := by decide +kernel
theorem dX2_firstUnsure_21 : decode cX2_firstUnsure 21 = .ok (.invokevirtual 49, 3) := by decide +kernel
theorem dX2_firstUnsure_24 : decode cX2_firstUnsure 24 = .ok (.invokestatic 79, 3) := by decide +kernel
theorem dX2_firstUnsure_27 : decode cX2_firstUnsure 27 = .ok (.bipush 97, 2) := by decide +kernel
theorem dX2_firstUnsure_29 : decode cX2_firstUnsure 29 = .ok (.if_icmp .ne 5, 3) := by decide +kernel
theorem dX2_firstUnsure_32 : decode cX2_firstUnsure 32 = .ok (.iload_n 1, 1) := by decide +kernel
theorem dX2_firstUnsure_33 : decode cX2_firstUnsure 33 = .ok (.ireturn, 1) := by decide +kernel
theorem dX2_firstUnsure_34 : decode cX2_firstUnsure 34 = .ok (.aload_n 0, 1) := by decide +kernel
theorem dX2_firstUnsure_35 : decode cX2_firstUnsure 35 = .ok (.iload_n 1, 1) := by decide +kernel
theorem dX2_firstUnsure_36 : decode cX2_firstUnsure 36 = .ok (.invokevirtual 39, 3) := by decide +kernel
theorem dX2_firstUnsure_39 : decode cX2_firstUnsure 39 = .ok (.iconst 2, 1) := by decide +kernel
theorem dX2_firstUnsure_40 : decode cX2_firstUnsure 40 = .ok (.if_icmp .ne 20, 3) := by decide +kernel
theorem dX2_firstUnsure_43 : decode cX2_firstUnsure 43 = .ok (.aload_n 0, 1) := by decide +kernel
theorem dX2_firstUnsure_44 : decode cX2_firstUnsure 44 = .ok (.iload_n 1, 1) := by decide +kernel
theorem dX2_firstUnsure_45 : decode cX2_firstUnsure 45 = .ok (.invokevirtual 46, 3) := by decide +kernel
theorem dX2_firstUnsure_48 : decode cX2_firstUnsure 48 = .ok (.bipush 97, 2) := by decide +kernel
theorem dX2_firstUnsure_50 : decode cX2_firstUnsure 50 = .ok (.bipush 122, 2) := by decide +kernel
theorem dX2_firstUnsure_52 : decode cX2_firstUnsure 52 = .ok (.invokestatic 24, 3) := by decide +kernel
theorem dX2_firstUnsure_55 : decode cX2_firstUnsure 55 = .ok (.ifCond .eq 5, 3) := by decide +kernel
theorem dX2_firstUnsure_58 : decode cX2_firstUnsure 58 = .ok (.iload_n 1, 1) := by decide +kernel
theorem dX2_firstUnsure_59 : decode cX2_firstUnsure 59 = .ok (.ireturn, 1) := by decide +kernel
theorem dX2_firstUnsure_60 : decode cX2_firstUnsure 60 = .ok (.iinc 1 1, 3) := by decide +kernel
theorem dX2_firstUnsure_63 : decode cX2_firstUnsure 63 = .ok (.goto (-61), 3) := by decide +kernel
theorem dX2_firstUnsure_66 : decode cX2_firstUnsure 66 = .ok (.iconst (-1), 1) := by decide +kernel
theorem dX2_firstUnsure_67 : decode cX2_firstUnsure 67 = .ok (.ireturn, 1) := by decide +kernel
def is_X2_firstUnsure (Rt : np_Rt) : List (Nat × np_Op) := [(0, np_push 1 (.int 0)), (1, nw_ist 1 1), (2, np_ild 1 1), (3, np_ald 1 0), (4, nw_getf 2 4), (7, nq_ic (fun x y => y ≤ x) 66), (10, np_ald 1 0), (11, np_ild 1 1), (12, nw_callV 2 2 sp_X2_kind 2 0 0 0 0), (15, np_push 1 (.int 1)), (16, nq_icne 34), (19, np_ald 1 0), (20, np_ild 1 1), (21, nw_callV 2 2 sp_X2_c 2 0 0 0 0), (24, nq_call 1 sp_X11_fillOfWord 1 0 0 0 0), (27, np_push 2 (.int 97)), (29, nq_icne 34), (32, np_ild 1 1), (33, np_ret Rt), (34, np_ald 1 0), (35, np_ild 1 1), (36, nw_callV 2 2 sp_X2_kind 2 0 0 0 0), (39, np_push 1 (.int 2)), (40, nq_icne 60), (43, np_ald 1 0), (44, np_ild 1 1), (45, nw_callV 2 2 sp_X2_b 2 0 0 0 0), (48, np_push 2 (.int 97)), (50, np_push 2 (.int 122)), (52, nq_call 3 sp_X11_isBetween 3 0 0 0 0), (55, nq_if (fun x => x = 0) 60), (58, np_ild 1 1), (59, np_ret Rt), (60, nw_iinc 1 1), (63, np_goto 2), (66, np_push 1 (.int (-1))), (67, np_ret Rt)]
set_option maxRecDepth 20000 in
theorem so_X2_firstUnsure {X : np_Ctx} {Rt : np_Rt} (hX : np_ok RX2 cX2_firstUnsure 2 2 43 0 0 .ireturn X) (hR : ∀ st w ce sl, Rt st w ce sl → X.2.2.1 st w ce sl) : ∀ q ∈ is_X2_firstUnsure Rt, np_S X q.1 q.2 :=
  List.forall_mem_cons.mpr ⟨np_s_iconst hX dX2_firstUnsure_0 (by decide), List.forall_mem_cons.mpr ⟨np_S.mono (op := np_ist 1 1) (np_s_istore_n hX dX2_firstUnsure_1 rfl (by decide)) nw_ist_le, List.forall_mem_cons.mpr ⟨np_s_iload_n hX dX2_firstUnsure_2 rfl, List.forall_mem_cons.mpr ⟨np_s_aload_n hX dX2_firstUnsure_3 rfl, List.forall_mem_cons.mpr ⟨np_S.mono (op := np_getf 2 4) (np_s_getf hX dX2_firstUnsure_4 (C := RX2) (T := TX2) (N := 5) rfl guX2 (by decide) gw105) nw_getf_le, List.forall_mem_cons.mpr ⟨np_S.mono (op := np_ic (fun x y => y ≤ x) 66) (np_s_icmp_ge hX dX2_firstUnsure_7 (by decide)) nq_ic_le, List.forall_mem_cons.mpr ⟨np_s_aload_n hX dX2_firstUnsure_10 rfl, List.forall_mem_cons.mpr ⟨np_s_iload_n hX dX2_firstUnsure_11 rfl, List.forall_mem_cons.mpr ⟨np_S.mono (op := np_callV 2 2 sp_X2_kind 2 0 0 0 0) (np_s_callV hX C_X2_kind dX2_firstUnsure_12 (q := (RX2, TX2, 5)) rfl rfl gw650 gw64 gw647 gw648 gw649 ⟨by decide, by decide, by decide⟩ (by decide) (by decide)) nw_callV_le, List.forall_mem_cons.mpr ⟨np_s_iconst hX dX2_firstUnsure_15 (by decide), List.forall_mem_cons.mpr ⟨np_S.mono (op := np_icne 34) (np_s_icmp_ne hX dX2_firstUnsure_16 (by decide)) nq_icne_le, List.forall_mem_cons.mpr ⟨np_s_aload_n hX dX2_firstUnsure_19 rfl, List.forall_mem_cons.mpr ⟨np_s_iload_n hX dX2_firstUnsure_20 rfl, List.forall_mem_cons.mpr ⟨np_S.mono (op := np_callV 2 2 sp_X2_c 2 0 0 0 0) (np_s_callV hX C_X2_c dX2_firstUnsure_21 (q := (RX2, TX2, 5)) rfl rfl gw690 gw64 gw687 gw688 gw689 ⟨by decide, by decide, by decide⟩ (by decide) (by decide)) nw_callV_le, List.forall_mem_cons.mpr ⟨np_S.mono (op := np_call 1 sp_X11_fillOfWord 1 0 0 0 0) (np_s_callSN hX C_X11_fillOfWord dX2_firstUnsure_24 gw707 gw63 gw705 gw706 ⟨by decide, by decide, by decide⟩ (by decide) (by decide)) nq_call_le, List.forall_mem_cons.mpr ⟨np_s_bipush hX dX2_firstUnsure_27 (by decide), List.forall_mem_cons.mpr ⟨np_S.mono (op := np_icne 34) (np_s_icmp_ne hX dX2_firstUnsure_29 (by decide)) nq_icne_le, List.forall_mem_cons.mpr ⟨np_s_iload_n hX dX2_firstUnsure_32 rfl, List.forall_mem_cons.mpr ⟨np_S.mono (op := np_ret X.2.2.1) (np_s_ret hX dX2_firstUnsure_33) (nq_ret_le hR), List.forall_mem_cons.mpr ⟨np_s_aload_n hX dX2_firstUnsure_34 rfl, List.forall_mem_cons.mpr ⟨np_s_iload_n hX dX2_firstUnsure_35 rfl, List.forall_mem_cons.mpr ⟨np_S.mono (op := np_callV 2 2 sp_X2_kind 2 0 0 0 0) (np_s_callV hX C_X2_kind dX2_firstUnsure_36 (q := (RX2, TX2, 5)) rfl rfl gw650 gw64 gw647 gw648 gw649 ⟨by decide, by decide, by decide⟩ (by decide) (by decide)) nw_callV_le, List.forall_mem_cons.mpr ⟨np_s_iconst hX dX2_firstUnsure_39 (by decide), List.forall_mem_cons.mpr ⟨np_S.mono (op := np_icne 60) (np_s_icmp_ne hX dX2_firstUnsure_40 (by decide)) nq_icne_le, List.forall_mem_cons.mpr ⟨np_s_aload_n hX dX2_firstUnsure_43 rfl, List.forall_mem_cons.mpr ⟨np_s_iload_n hX dX2_firstUnsure_44 rfl, List.forall_mem_cons.mpr ⟨np_S.mono (op := np_callV 2 2 sp_X2_b 2 0 0 0 0) (np_s_callV hX C_X2_b dX2_firstUnsure_45 (q := (RX2, TX2, 5)) rfl rfl gw673 gw64 gw670 gw671 gw672 ⟨by decide, by decide, by decide⟩ (by decide) (by decide)) nw_callV_le, List.forall_mem_cons.mpr ⟨np_s_bipush hX dX2_firstUnsure_48 (by decide), List.forall_mem_cons.mpr ⟨np_s_bipush hX dX2_firstUnsure_50 (by decide), List.forall_mem_cons.mpr ⟨np_S.mono (op := np_call 3 sp_X11_isBetween 3 0 0 0 0) (np_s_callSN hX C_X11_isBetween dX2_firstUnsure_52 gw589 gw63 gw587 gw588 ⟨by decide, by decide, by decide⟩ (by decide) (by decide)) nq_call_le, List.forall_mem_cons.mpr ⟨np_S.mono (op := np_if (fun x => x = 0) 60) (np_s_if_eq hX dX2_firstUnsure_55 (by decide)) nq_if_le, List.forall_mem_cons.mpr ⟨np_s_iload_n hX dX2_firstUnsure_58 rfl, List.forall_mem_cons.mpr ⟨np_S.mono (op := np_ret X.2.2.1) (np_s_ret hX dX2_firstUnsure_59) (nq_ret_le hR), List.forall_mem_cons.mpr ⟨np_S.mono (op := np_iinc 1 1) (np_s_iinc hX dX2_firstUnsure_60 (by decide)) nw_iinc_le, List.forall_mem_cons.mpr ⟨np_s_goto hX dX2_firstUnsure_63 (by decide), List.forall_mem_cons.mpr ⟨np_s_iconst hX dX2_firstUnsure_66 (by decide), List.forall_mem_cons.mpr ⟨np_S.mono (op := np_ret X.2.2.1) (np_s_ret hX dX2_firstUnsure_67) (nq_ret_le hR), fun _ h => nomatch h⟩⟩⟩⟩⟩⟩⟩⟩⟩⟩⟩⟩⟩⟩⟩⟩⟩⟩⟩⟩⟩⟩⟩⟩⟩⟩⟩⟩⟩⟩⟩⟩⟩⟩⟩⟩⟩
noncomputable def m_X2_firstUnsure_2 : Nat → pw_S → Nat → Int32 → pw_R Int32
| 0, _, _, _ => none
| N + 1, S, v0, v1 =>
 if (S 51 v0 4) ≤ v1 then
 (some (S, (-1)))
 else
 (pw_b (m_X2_kind S v0 v1) fun S1 r4 =>
 if r4 = 1 then
 (pw_b (m_X2_c S1 v0 v1) fun S6 r9 =>
 pw_b (m_X11_fillOfWord S6 r9) fun S11 r14 =>
 if r14 = 97 then
 (some (S11, v1))
 else
 (pw_b (m_X2_kind S11 v0 v1) fun S16 r19 =>
 if r19 = 2 then
 (pw_b (m_X2_b S16 v0 v1) fun S21 r24 =>
 pw_b (m_X11_isBetween S21 r24 97 122) fun S26 r29 =>
 if r29 = 0 then
 (pw_l (v1 + 1 : Int32) fun z31 =>
 m_X2_firstUnsure_2 N S26 v0 z31)
 else
 (some (S26, v1)))
 else
 (pw_l (v1 + 1 : Int32) fun z32 =>
 m_X2_firstUnsure_2 N S16 v0 z32)))
 else
 (pw_b (m_X2_kind S1 v0 v1) fun S33 r36 =>
 if r36 = 2 then
 (pw_b (m_X2_b S33 v0 v1) fun S38 r41 =>
 pw_b (m_X11_isBetween S38 r41 97 122) fun S43 r46 =>
 if r46 = 0 then
 (pw_l (v1 + 1 : Int32) fun z48 =>
 m_X2_firstUnsure_2 N S43 v0 z48)
 else
 (some (S43, v1)))
 else
 (pw_l (v1 + 1 : Int32) fun z49 =>
 m_X2_firstUnsure_2 N S33 v0 z49)))
set_option maxRecDepth 100000 in
set_option maxHeartbeats 8000000 in
theorem L_X2_firstUnsure_2 {X : np_Ctx} (hX : np_ok RX2 cX2_firstUnsure 2 2 43 0 0 .ireturn X) {Q : Option Value → np_W → Prop} {q n : Nat} (hR : ∀ st w ce sl, np_rt (some .int) 0 0 Q st w ce sl → X.2.2.1 st w ce sl) : ∀ (N : Nat) (S : pw_S) (v0 : Nat) (v1 : Int32) (f : Nat → Option np_E) (hv0 : pw_ok q 51 v0 = true), pw_W q (n, f) S → pw_p (m_X2_firstUnsure_2 N S v0 v1) (fun S' r => ∀ f', pw_W q (n, f') S' → Q (some (.int r)) (n, f')) → np_G X 2 [(0, .ref (pw_pl 51 v0)), (1, .int v1)] [] (n, f) 0 0 := by
  intro N
  induction N with
  | zero =>
    intro S v0 v1 f hv0 hW h
    exact (pw_pn h).elim
  | succ N ih =>
    intro S v0 v1 f hv0 hW h
    unfold m_X2_firstUnsure_2 at h
    refine np_soundW (so_X2_firstUnsure hX hR) [2] 400 2 _ _ _ _ _ ?_
    conv => whnf
    refine np_rd_i (hW.g hv0) ?_
    conv => whnf
    refine pw_br h (fun _ h => ?_) (fun _ h => ?_)
    · conv => whnf
      exact ⟨Nat.le_of_ble_eq_true rfl, Nat.le_of_ble_eq_true rfl, ⟨_, rfl⟩, _, fun _ _ h9 => h9, pw_ps h _ hW⟩
    · conv => whnf
      refine np_rd_i (hW.g hv0) ?_
      conv => whnf
      refine ⟨q, S, v0, v1, rfl, hv0, hW, pw_bd h (fun S1 r4 h f2 hW3 => ?_)⟩
      conv => whnf
      refine pw_br h (fun _ h => ?_) (fun _ h => ?_)
      · conv => whnf
        refine np_rd_i (hW3.g hv0) ?_
        conv => whnf
        refine ⟨q, S1, v0, v1, rfl, hv0, hW3, pw_bd h (fun S6 r9 h f7 hW8 => ?_)⟩
        conv => whnf
        refine ⟨q, S6, r9, rfl, hW8, pw_bd h (fun S11 r14 h f12 hW13 => ?_)⟩
        conv => whnf
        refine pw_br h (fun _ h => ?_) (fun _ h => ?_)
        · conv => whnf
          exact ⟨Nat.le_of_ble_eq_true rfl, Nat.le_of_ble_eq_true rfl, ⟨_, rfl⟩, _, fun _ _ h9 => h9, pw_ps h _ hW13⟩
        · conv => whnf
          refine np_rd_i (hW13.g hv0) ?_
          conv => whnf
          refine ⟨q, S11, v0, v1, rfl, hv0, hW13, pw_bd h (fun S16 r19 h f17 hW18 => ?_)⟩
          conv => whnf
          refine pw_br h (fun _ h => ?_) (fun _ h => ?_)
          · conv => whnf
            refine np_rd_i (hW18.g hv0) ?_
            conv => whnf
            refine ⟨q, S16, v0, v1, rfl, hv0, hW18, pw_bd h (fun S21 r24 h f22 hW23 => ?_)⟩
            conv => whnf
            refine ⟨q, S21, r24, 97, 122, rfl, hW23, pw_bd h (fun S26 r29 h f27 hW28 => ?_)⟩
            conv => whnf
            refine pw_br h (fun _ h => ?_) (fun _ h => ?_)
            · conv => whnf
              refine pw_st h (fun z31 h => ?_)
              conv => whnf
              exact np_gl (ih S26 v0 z31 f27 hv0 hW28 h) ⟨rfl, rfl, trivial⟩
            · conv => whnf
              exact ⟨Nat.le_of_ble_eq_true rfl, Nat.le_of_ble_eq_true rfl, ⟨_, rfl⟩, _, fun _ _ h9 => h9, pw_ps h _ hW28⟩
          · conv => whnf
            refine pw_st h (fun z32 h => ?_)
            conv => whnf
            exact np_gl (ih S16 v0 z32 f17 hv0 hW18 h) ⟨rfl, rfl, trivial⟩
      · conv => whnf
        refine np_rd_i (hW3.g hv0) ?_
        conv => whnf
        refine ⟨q, S1, v0, v1, rfl, hv0, hW3, pw_bd h (fun S33 r36 h f34 hW35 => ?_)⟩
        conv => whnf
        refine pw_br h (fun _ h => ?_) (fun _ h => ?_)
        · conv => whnf
          refine np_rd_i (hW35.g hv0) ?_
          conv => whnf
          refine ⟨q, S33, v0, v1, rfl, hv0, hW35, pw_bd h (fun S38 r41 h f39 hW40 => ?_)⟩
          conv => whnf
          refine ⟨q, S38, r41, 97, 122, rfl, hW40, pw_bd h (fun S43 r46 h f44 hW45 => ?_)⟩
          conv => whnf
          refine pw_br h (fun _ h => ?_) (fun _ h => ?_)
          · conv => whnf
            refine pw_st h (fun z48 h => ?_)
            conv => whnf
            exact np_gl (ih S43 v0 z48 f44 hv0 hW45 h) ⟨rfl, rfl, trivial⟩
          · conv => whnf
            exact ⟨Nat.le_of_ble_eq_true rfl, Nat.le_of_ble_eq_true rfl, ⟨_, rfl⟩, _, fun _ _ h9 => h9, pw_ps h _ hW45⟩
        · conv => whnf
          refine pw_st h (fun z49 h => ?_)
          conv => whnf
          exact np_gl (ih S33 v0 z49 f34 hv0 hW35 h) ⟨rfl, rfl, trivial⟩
noncomputable def m_X2_firstUnsure (S : pw_S) (i0 : Nat) : pw_R Int32 :=
 pw_l (0 : Int32) fun z50 =>
 m_X2_firstUnsure_2 (pw_F 20000) S i0 z50
def sp_X2_firstUnsure : np_Sp := fun vs w Q => ∃ (q : Nat) (S : pw_S) (i0 : Nat), vs = [.ref (pw_pl 51 i0)] ∧ pw_ok q 51 i0 = true ∧ pw_W q w S ∧ pw_p (m_X2_firstUnsure S i0) (fun S' r => ∀ f', pw_W q (w.1, f') S' → Q (some (.int r)) (w.1, f'))
set_option maxRecDepth 100000 in
set_option maxHeartbeats 8000000 in
theorem C_X2_firstUnsure : np_C yX2_firstUnsure cX2_firstUnsure 2 (some .int) 2 43 0 0 sp_X2_firstUnsure := by
  refine np_of (by decide) ?_
  intro X vs w Q hsp hX hmn hRt hlt
  obtain ⟨q, S, i0, rfl, hi0, hW, h⟩ := hsp
  obtain ⟨n, f⟩ := w
  unfold m_X2_firstUnsure at h
  have hR : ∀ st w ce sl, np_rt (some .int) 0 0 Q st w ce sl → X.2.2.1 st w ce sl := fun _ _ _ _ h => by rw [hRt]; exact h
  refine np_soundW (so_X2_firstUnsure hX hR) [2] 400 0 _ _ _ _ _ ?_
  conv => whnf
  refine pw_st h (fun z50 h => ?_)
  conv => whnf
  exact np_gl (L_X2_firstUnsure_2 hX hR (pw_F 20000) S i0 z50 f hi0 hW h) ⟨rfl, rfl, trivial⟩
theorem dX3_length_0 : decode cX3_length 0 = .ok (.aload_n 0, 1) := by decide +kernel
theorem dX3_length_1 : decode cX3_length 1 = .ok (.getfield 21, 3) := by decide +kernel
theorem dX3_length_4 : decode cX3_length 4 = .ok (.getfield 25, 3) := by decide +kernel
theorem dX3_length_7 : decode cX3_length 7 = .ok (.ireturn, 1) := by decide +kernel
def is_X3_length (Rt : np_Rt) : List (Nat × np_Op) := [(0, np_ald 1 0), (1, nw_getf 3 2), (4, nw_getf 8 6), (7, np_ret Rt)]
set_option maxRecDepth 20000 in
theorem so_X3_length {X : np_Ctx} {Rt : np_Rt} (hX : np_ok RX3 cX3_length 1 0 0 0 0 .ireturn X) (hR : ∀ st w ce sl, Rt st w ce sl → X.2.2.1 st w ce sl) : ∀ q ∈ is_X3_length Rt, np_S X q.1 q.2 :=
  List.forall_mem_cons.mpr ⟨np_s_aload_n hX dX3_length_0 rfl, List.forall_mem_cons.mpr ⟨np_S.mono (op := np_getf 3 2) (np_s_getf hX dX3_length_1 (C := RX3) (T := TX3) (N := 3) rfl guX3 (by decide) gw184) nw_getf_le, List.forall_mem_cons.mpr ⟨np_S.mono (op := np_getf 8 6) (np_s_getN hX dX3_length_4 (C := RX8) (T := TX8) (N := 9) rfl guX8 (by decide) gw157) nw_getf_le, List.forall_mem_cons.mpr ⟨np_S.mono (op := np_ret X.2.2.1) (np_s_ret hX dX3_length_7) (nq_ret_le hR), fun _ h => nomatch h⟩⟩⟩⟩
noncomputable def m_X3_length (S : pw_S) (i0 : Nat) : pw_R Int32 :=
 some (S, (S 50 408 6))
def sp_X3_length : np_Sp := fun vs w Q => ∃ (q : Nat) (S : pw_S) (i0 : Nat), vs = [.ref (pw_pl 58 i0)] ∧ pw_ok q 58 i0 = true ∧ pw_W q w S ∧ pw_p (m_X3_length S i0) (fun S' r => ∀ f', pw_W q (w.1, f') S' → Q (some (.int r)) (w.1, f'))
set_option maxRecDepth 100000 in
set_option maxHeartbeats 8000000 in
theorem C_X3_length : np_C yX3_length cX3_length 1 (some .int) 0 0 0 0 sp_X3_length := by
  refine np_of (by decide) ?_
  intro X vs w Q hsp hX hmn hRt hlt
  obtain ⟨q, S, i0, rfl, hi0, hW, h⟩ := hsp
  obtain ⟨n, f⟩ := w
  unfold m_X3_length at h
  have hR : ∀ st w ce sl, np_rt (some .int) 0 0 Q st w ce sl → X.2.2.1 st w ce sl := fun _ _ _ _ h => by rw [hRt]; exact h
  refine np_soundW (so_X3_length hX hR) [] 400 0 _ _ _ _ _ ?_
  conv => whnf
  refine np_rd_i (hW.g hi0) ?_
  conv => whnf
  refine np_rd_i (hW.g rfl) ?_
  conv => whnf
  exact ⟨Nat.le_of_ble_eq_true rfl, Nat.le_of_ble_eq_true rfl, ⟨_, rfl⟩, _, fun _ _ h9 => h9, pw_ps h _ hW⟩
theorem dX3_unitAt_0 : decode cX3_unitAt 0 = .ok (.aload_n 0, 1) := by decide +kernel
theorem dX3_unitAt_1 : decode cX3_unitAt 1 = .ok (.getfield 9, 3) := by decide +kernel
theorem dX3_unitAt_4 : decode cX3_unitAt 4 = .ok (.iload_n 1, 1) := by decide +kernel
theorem dX3_unitAt_5 : decode cX3_unitAt 5 = .ok (.iconst 0, 1) := by decide +kernel
theorem dX3_unitAt_6 : decode cX3_unitAt 6 = .ok (.invokestatic 29, 3) := by decide +kernel
theorem dX3_unitAt_9 : decode cX3_unitAt 9 = .ok (.ireturn, 1) := by decide +kernel
def is_X3_unitAt (Rt : np_Rt) : List (Nat × np_Op) := [(0, np_ald 1 0), (1, nw_getf 3 0), (4, np_ild 1 1), (5, np_push 1 (.int 0)), (6, nq_call 3 sp_X11_at 3 0 0 0 0), (9, np_ret Rt)]
set_option maxRecDepth 20000 in
theorem so_X3_unitAt {X : np_Ctx} {Rt : np_Rt} (hX : np_ok RX3 cX3_unitAt 2 1 22 0 0 .ireturn X) (hR : ∀ st w ce sl, Rt st w ce sl → X.2.2.1 st w ce sl) : ∀ q ∈ is_X3_unitAt Rt, np_S X q.1 q.2 :=
  List.forall_mem_cons.mpr ⟨np_s_aload_n hX dX3_unitAt_0 rfl, List.forall_mem_cons.mpr ⟨np_S.mono (op := np_getf 3 0) (np_s_getf hX dX3_unitAt_1 (C := RX3) (T := TX3) (N := 3) rfl guX3 (by decide) gw182) nw_getf_le, List.forall_mem_cons.mpr ⟨np_s_iload_n hX dX3_unitAt_4 rfl, List.forall_mem_cons.mpr ⟨np_s_iconst hX dX3_unitAt_5 (by decide), List.forall_mem_cons.mpr ⟨np_S.mono (op := np_call 3 sp_X11_at 3 0 0 0 0) (np_s_callSN hX C_X11_at dX3_unitAt_6 gw653 gw63 gw805 gw652 ⟨by decide, by decide, by decide⟩ (by decide) (by decide)) nq_call_le, List.forall_mem_cons.mpr ⟨np_S.mono (op := np_ret X.2.2.1) (np_s_ret hX dX3_unitAt_9) (nq_ret_le hR), fun _ h => nomatch h⟩⟩⟩⟩⟩⟩
noncomputable def m_X3_unitAt (S : pw_S) (i0 : Nat) (x1 : Int32) : pw_R Int32 :=
 pw_b (m_X11_at S 28 0 x1 0) fun S1 r4 =>
 some (S1, r4)
def sp_X3_unitAt : np_Sp := fun vs w Q => ∃ (q : Nat) (S : pw_S) (i0 : Nat) (x1 : Int32), vs = [.ref (pw_pl 58 i0), .int x1] ∧ pw_ok q 58 i0 = true ∧ pw_W q w S ∧ pw_p (m_X3_unitAt S i0 x1) (fun S' r => ∀ f', pw_W q (w.1, f') S' → Q (some (.int r)) (w.1, f'))
set_option maxRecDepth 100000 in
set_option maxHeartbeats 8000000 in
theorem C_X3_unitAt : np_C yX3_unitAt cX3_unitAt 2 (some .int) 1 22 0 0 sp_X3_unitAt := by
  refine np_of (by decide) ?_
  intro X vs w Q hsp hX hmn hRt hlt
  obtain ⟨q, S, i0, x1, rfl, hi0, hW, h⟩ := hsp
  obtain ⟨n, f⟩ := w
  unfold m_X3_unitAt at h
  have hR : ∀ st w ce sl, np_rt (some .int) 0 0 Q st w ce sl → X.2.2.1 st w ce sl := fun _ _ _ _ h => by rw [hRt]; exact h
  refine np_soundW (so_X3_unitAt hX hR) [] 400 0 _ _ _ _ _ ?_
  conv => whnf
  refine np_rd_i (hW.g hi0) ?_
  conv => whnf
  refine ⟨q, S, 28, 0, x1, 0, rfl, rfl, rfl, hW, pw_bd h (fun S1 r4 h f2 hW3 => ?_)⟩
  conv => whnf
  exact ⟨Nat.le_of_ble_eq_true rfl, Nat.le_of_ble_eq_true rfl, ⟨_, rfl⟩, _, fun _ _ h9 => h9, pw_ps h _ hW3⟩
theorem dX8_leaveLoop_0 : decode cX8_leaveLoop 0 = .ok (.aload_n 0, 1) := by decide +kernel
theorem dX8_leaveLoop_1 : decode cX8_leaveLoop 1 = .ok (.iconst (-1), 1) := by decide +kernel
theorem dX8_leaveLoop_2 : decode cX8_leaveLoop 2 = .ok (.putfield 47, 3) := by decide +kernel
theorem dX8_leaveLoop_5 : decode cX8_leaveLoop 5 = .ok (.aload_n 0, 1) := by decide +kernel
theorem dX8_leaveLoop_6 : decode cX8_leaveLoop 6 = .ok (.iconst 0, 1) := by decide +kernel
theorem dX8_leaveLoop_7 : decode cX8_leaveLoop 7 = .ok (.putfield 50, 3) := by decide +kernel
theorem dX8_leaveLoop_10 : decode cX8_leaveLoop 10 = .ok (.aload_n 0, 1) := by decide +kernel
theorem dX8_leaveLoop_11 : decode cX8_leaveLoop 11 = .ok (.iconst 0, 1) := by decide +kernel
theorem dX8_leaveLoop_12 : decode cX8_leaveLoop 12 = .ok (.putfield 53, 3) := by decide +kernel
theorem dX8_leaveLoop_15 : decode cX8_leaveLoop 15 = .ok (.return_, 1) := by decide +kernel
def is_X8_leaveLoop (Rt : np_Rt) : List (Nat × np_Op) := [(0, np_ald 1 0), (1, np_push 1 (.int (-1))), (2, nw_putf 8 3 (.int)), (5, np_ald 1 0), (6, np_push 1 (.int 0)), (7, nw_putf 8 4 (.int)), (10, np_ald 1 0), (11, np_push 1 (.int 0)), (12, nw_putf 8 5 (.int)), (15, np_ret Rt)]
set_option maxRecDepth 20000 in
theorem so_X8_leaveLoop {X : np_Ctx} {Rt : np_Rt} (hX : np_ok RX8 cX8_leaveLoop 1 0 0 0 0 .return_ X) (hR : ∀ st w ce sl, Rt st w ce sl → X.2.2.1 st w ce sl) : ∀ q ∈ is_X8_leaveLoop Rt, np_S X q.1 q.2 :=
  List.forall_mem_cons.mpr ⟨np_s_aload_n hX dX8_leaveLoop_0 rfl, List.forall_mem_cons.mpr ⟨np_s_iconst hX dX8_leaveLoop_1 (by decide), List.forall_mem_cons.mpr ⟨np_S.mono (op := np_putf 8 3 (.int)) (np_s_putf hX dX8_leaveLoop_2 (C := RX8) (T := TX8) (N := 9) (ty0 := tyX8) rfl guX8 tyX8_ok nmX8 (by decide) gw153 rfl rfl) nw_putf_le, List.forall_mem_cons.mpr ⟨np_s_aload_n hX dX8_leaveLoop_5 rfl, List.forall_mem_cons.mpr ⟨np_s_iconst hX dX8_leaveLoop_6 (by decide), List.forall_mem_cons.mpr ⟨np_S.mono (op := np_putf 8 4 (.int)) (np_s_putf hX dX8_leaveLoop_7 (C := RX8) (T := TX8) (N := 9) (ty0 := tyX8) rfl guX8 tyX8_ok nmX8 (by decide) gw154 rfl rfl) nw_putf_le, List.forall_mem_cons.mpr ⟨np_s_aload_n hX dX8_leaveLoop_10 rfl, List.forall_mem_cons.mpr ⟨np_s_iconst hX dX8_leaveLoop_11 (by decide), List.forall_mem_cons.mpr ⟨np_S.mono (op := np_putf 8 5 (.int)) (np_s_putf hX dX8_leaveLoop_12 (C := RX8) (T := TX8) (N := 9) (ty0 := tyX8) rfl guX8 tyX8_ok nmX8 (by decide) gw155 rfl rfl) nw_putf_le, List.forall_mem_cons.mpr ⟨np_S.mono (op := np_ret X.2.2.1) (np_s_ret hX dX8_leaveLoop_15) (nq_ret_le hR), fun _ h => nomatch h⟩⟩⟩⟩⟩⟩⟩⟩⟩⟩
noncomputable def m_X8_leaveLoop (S : pw_S) (i0 : Nat) : pw_R Unit :=
 pw_l (pw_up S 50 i0 (upd (S 50 i0) 3 (-1))) fun S1 =>
 pw_l (pw_up S1 50 i0 (upd (S1 50 i0) 4 0)) fun S4 =>
 pw_l (pw_up S4 50 i0 (upd (S4 50 i0) 5 0)) fun S7 =>
 some (S7, ())
def sp_X8_leaveLoop : np_Sp := fun vs w Q => ∃ (q : Nat) (S : pw_S) (i0 : Nat), vs = [.ref (pw_pl 50 i0)] ∧ pw_ok q 50 i0 = true ∧ pw_W q w S ∧ pw_p (m_X8_leaveLoop S i0) (fun S' r => ∀ f', pw_W q (w.1, f') S' → Q none (w.1, f'))
set_option maxRecDepth 100000 in
set_option maxHeartbeats 8000000 in
theorem C_X8_leaveLoop : np_C yX8_leaveLoop cX8_leaveLoop 1 none 0 0 0 0 sp_X8_leaveLoop := by
  refine np_of (by decide) ?_
  intro X vs w Q hsp hX hmn hRt hlt
  obtain ⟨q, S, i0, rfl, hi0, hW, h⟩ := hsp
  obtain ⟨n, f⟩ := w
  unfold m_X8_leaveLoop at h
  have hR : ∀ st w ce sl, np_rt none 0 0 Q st w ce sl → X.2.2.1 st w ce sl := fun _ _ _ _ h => by rw [hRt]; exact h
  refine np_soundW (so_X8_leaveLoop hX hR) [] 400 0 _ _ _ _ _ ?_
  conv => whnf
  refine np_rd_i (hW.g hi0) ?_
  conv => whnf
  refine pw_wr (a := 50) (i := i0) (d := upd (S 50 i0) 3 (-1)) hW hi0 rfl h (fun S1 f2 hW3 h => ?_)
  conv => whnf
  refine np_rd_i (hW3.g hi0) ?_
  conv => whnf
  refine pw_wr (a := 50) (i := i0) (d := upd (S1 50 i0) 4 0) hW3 hi0 rfl h (fun S4 f5 hW6 h => ?_)
  conv => whnf
  refine np_rd_i (hW6.g hi0) ?_
  conv => whnf
  refine pw_wr (a := 50) (i := i0) (d := upd (S4 50 i0) 5 0) hW6 hi0 rfl h (fun S7 f8 hW9 h => ?_)
  conv => whnf
  exact ⟨Nat.le_of_ble_eq_true rfl, Nat.le_of_ble_eq_true rfl, rfl, _, fun _ _ h9 => h9, pw_ps h _ hW9⟩
theorem dX8_restart_0 : decode cX8_restart 0 = .ok (.aload_n 0, 1) := by decide +kernel
theorem dX8_restart_1 : decode cX8_restart 1 = .ok (.getfield 13, 3) := by decide +kernel
theorem dX8_restart_4 : decode cX8_restart 4 = .ok (.ldc 22, 2) := by decide +kernel
theorem dX8_restart_6 : decode cX8_restart 6 = .ok (.invokestatic 23, 3) := by decide +kernel
theorem dX8_restart_9 : decode cX8_restart 9 = .ok (.aload_n 0, 1) := by decide +kernel
theorem dX8_restart_10 : decode cX8_restart 10 = .ok (.getfield 19, 3) := by decide +kernel
theorem dX8_restart_13 : decode cX8_restart 13 = .ok (.iconst (-1), 1) := by decide +kernel
theorem dX8_restart_14 : decode cX8_restart 14 = .ok (.invokestatic 23, 3) := by decide +kernel
theorem dX8_restart_17 : decode cX8_restart 17 = .ok (.aload_n 0, 1) := by decide +kernel
theorem dX8_restart_18 : decode cX8_restart 18 = .ok (.iconst 0, 1) := by decide +kernel
theorem dX8_restart_19 : decode cX8_restart 19 = .ok (.putfield 27, 3) := by decide +kernel
theorem dX8_restart_22 : decode cX8_restart 22 = .ok (.aload_n 0, 1) := by decide +kernel
theorem dX8_restart_23 : decode cX8_restart 23 = .ok (.invokevirtual 31, 3) := by decide +kernel
theorem dX8_restart_26 : decode cX8_restart 26 = .ok (.aload_n 0, 1) := by decide +kernel
theorem dX8_restart_27 : decode cX8_restart 27 = .ok (.iconst 0, 1) := by decide +kernel
theorem dX8_restart_28 : decode cX8_restart 28 = .ok (.putfield 34, 3) := by decide +kernel
theorem dX8_restart_31 : decode cX8_restart 31 = .ok (.aload_n 0, 1) := by decide +kernel
theorem dX8_restart_32 : decode cX8_restart 32 = .ok (.iconst 0, 1) := by decide +kernel
theorem dX8_restart_33 : decode cX8_restart 33 = .ok (.putfield 37, 3) := by decide +kernel
theorem dX8_restart_36 : decode cX8_restart 36 = .ok (.aload_n 0, 1) := by decide +kernel
theorem dX8_restart_37 : decode cX8_restart 37 = .ok (.iconst 0, 1) := by decide +kernel
theorem dX8_restart_38 : decode cX8_restart 38 = .ok (.putfield 40, 3) := by decide +kernel
theorem dX8_restart_41 : decode cX8_restart 41 = .ok (.return_, 1) := by decide +kernel
def is_X8_restart (Rt : np_Rt) : List (Nat × np_Op) := [(0, np_ald 1 0), (1, nw_getf 8 0), (4, np_push 2 (.int (-2147483648))), (6, nq_call 2 sp_X11_fillAll 3 0 0 0 0), (9, np_ald 1 0), (10, nw_getf 8 1), (13, np_push 1 (.int (-1))), (14, nq_call 2 sp_X11_fillAll 3 0 0 0 0), (17, np_ald 1 0), (18, np_push 1 (.int 0)), (19, nw_putf 8 2 (.int)), (22, np_ald 1 0), (23, nw_callV 8 1 sp_X8_leaveLoop 1 0 0 0 0), (26, np_ald 1 0), (27, np_push 1 (.int 0)), (28, nw_putf 8 6 (.int)), (31, np_ald 1 0), (32, np_push 1 (.int 0)), (33, nw_putf 8 7 (.int)), (36, np_ald 1 0), (37, np_push 1 (.int 0)), (38, nw_putf 8 8 (.int)), (41, np_ret Rt)]
set_option maxRecDepth 20000 in
theorem so_X8_restart {X : np_Ctx} {Rt : np_Rt} (hX : np_ok RX8 cX8_restart 1 1 22 0 0 .return_ X) (hR : ∀ st w ce sl, Rt st w ce sl → X.2.2.1 st w ce sl) : ∀ q ∈ is_X8_restart Rt, np_S X q.1 q.2 :=
  List.forall_mem_cons.mpr ⟨np_s_aload_n hX dX8_restart_0 rfl, List.forall_mem_cons.mpr ⟨np_S.mono (op := np_getf 8 0) (np_s_getf hX dX8_restart_1 (C := RX8) (T := TX8) (N := 9) rfl guX8 (by decide) gw145) nw_getf_le, List.forall_mem_cons.mpr ⟨np_s_ldc hX dX8_restart_4 gw745, List.forall_mem_cons.mpr ⟨np_S.mono (op := np_call 2 sp_X11_fillAll 3 0 0 0 0) (np_s_callSN hX C_X11_fillAll dX8_restart_6 gw127 gw63 gw746 gw126 ⟨by decide, by decide, by decide⟩ (by decide) (by decide)) nq_call_le, List.forall_mem_cons.mpr ⟨np_s_aload_n hX dX8_restart_9 rfl, List.forall_mem_cons.mpr ⟨np_S.mono (op := np_getf 8 1) (np_s_getf hX dX8_restart_10 (C := RX8) (T := TX8) (N := 9) rfl guX8 (by decide) gw148) nw_getf_le, List.forall_mem_cons.mpr ⟨np_s_iconst hX dX8_restart_13 (by decide), List.forall_mem_cons.mpr ⟨np_S.mono (op := np_call 2 sp_X11_fillAll 3 0 0 0 0) (np_s_callSN hX C_X11_fillAll dX8_restart_14 gw127 gw63 gw746 gw126 ⟨by decide, by decide, by decide⟩ (by decide) (by decide)) nq_call_le, List.forall_mem_cons.mpr ⟨np_s_aload_n hX dX8_restart_17 rfl, List.forall_mem_cons.mpr ⟨np_s_iconst hX dX8_restart_18 (by decide), List.forall_mem_cons.mpr ⟨np_S.mono (op := np_putf 8 2 (.int)) (np_s_putf hX dX8_restart_19 (C := RX8) (T := TX8) (N := 9) (ty0 := tyX8) rfl guX8 tyX8_ok nmX8 (by decide) gw149 rfl rfl) nw_putf_le, List.forall_mem_cons.mpr ⟨np_s_aload_n hX dX8_restart_22 rfl, List.forall_mem_cons.mpr ⟨np_S.mono (op := np_callV 8 1 sp_X8_leaveLoop 1 0 0 0 0) (np_s_callV hX C_X8_leaveLoop dX8_restart_23 (q := (RX8, TX8, 9)) rfl rfl gw750 gw66 gw747 gw749 gw5 ⟨by decide, by decide, by decide⟩ (by decide) (by decide)) nw_callV_le, List.forall_mem_cons.mpr ⟨np_s_aload_n hX dX8_restart_26 rfl, List.forall_mem_cons.mpr ⟨np_s_iconst hX dX8_restart_27 (by decide), List.forall_mem_cons.mpr ⟨np_S.mono (op := np_putf 8 6 (.int)) (np_s_putf hX dX8_restart_28 (C := RX8) (T := TX8) (N := 9) (ty0 := tyX8) rfl guX8 tyX8_ok nmX8 (by decide) gw158 rfl rfl) nw_putf_le, List.forall_mem_cons.mpr ⟨np_s_aload_n hX dX8_restart_31 rfl, List.forall_mem_cons.mpr ⟨np_s_iconst hX dX8_restart_32 (by decide), List.forall_mem_cons.mpr ⟨np_S.mono (op := np_putf 8 7 (.int)) (np_s_putf hX dX8_restart_33 (C := RX8) (T := TX8) (N := 9) (ty0 := tyX8) rfl guX8 tyX8_ok nmX8 (by decide) gw161 rfl rfl) nw_putf_le, List.forall_mem_cons.mpr ⟨np_s_aload_n hX dX8_restart_36 rfl, List.forall_mem_cons.mpr ⟨np_s_iconst hX dX8_restart_37 (by decide), List.forall_mem_cons.mpr ⟨np_S.mono (op := np_putf 8 8 (.int)) (np_s_putf hX dX8_restart_38 (C := RX8) (T := TX8) (N := 9) (ty0 := tyX8) rfl guX8 tyX8_ok nmX8 (by decide) gw162 rfl rfl) nw_putf_le, List.forall_mem_cons.mpr ⟨np_S.mono (op := np_ret X.2.2.1) (np_s_ret hX dX8_restart_41) (nq_ret_le hR), fun _ h => nomatch h⟩⟩⟩⟩⟩⟩⟩⟩⟩⟩⟩⟩⟩⟩⟩⟩⟩⟩⟩⟩⟩⟩⟩
noncomputable def m_X8_restart (S : pw_S) (i0 : Nat) : pw_R Unit :=
 pw_b (m_X11_fillAll S 0 i0 (-2147483648)) fun S1 r4 =>
 pw_b (m_X11_fillAll S1 1 i0 (-1)) fun S6 r9 =>
 pw_l (pw_up S6 50 i0 (upd (S6 50 i0) 2 0)) fun S11 =>
 pw_b (m_X8_leaveLoop S11 i0) fun S14 r17 =>
 pw_l (pw_up S14 50 i0 (upd (S14 50 i0) 6 0)) fun S19 =>
 pw_l (pw_up S19 50 i0 (upd (S19 50 i0) 7 0)) fun S22 =>
 pw_l (pw_up S22 50 i0 (upd (S22 50 i0) 8 0)) fun S25 =>
 some (S25, ())
def sp_X8_restart : np_Sp := fun vs w Q => ∃ (q : Nat) (S : pw_S) (i0 : Nat), vs = [.ref (pw_pl 50 i0)] ∧ pw_ok q 50 i0 = true ∧ pw_W q w S ∧ pw_p (m_X8_restart S i0) (fun S' r => ∀ f', pw_W q (w.1, f') S' → Q none (w.1, f'))
set_option maxRecDepth 100000 in
set_option maxHeartbeats 8000000 in
theorem C_X8_restart : np_C yX8_restart cX8_restart 1 none 1 22 0 0 sp_X8_restart := by
  refine np_of (by decide) ?_
  intro X vs w Q hsp hX hmn hRt hlt
  obtain ⟨q, S, i0, rfl, hi0, hW, h⟩ := hsp
  obtain ⟨n, f⟩ := w
  unfold m_X8_restart at h
  have hR : ∀ st w ce sl, np_rt none 0 0 Q st w ce sl → X.2.2.1 st w ce sl := fun _ _ _ _ h => by rw [hRt]; exact h
  refine np_soundW (so_X8_restart hX hR) [] 400 0 _ _ _ _ _ ?_
  conv => whnf
  refine np_rd_i (hW.g hi0) ?_
  conv => whnf
  refine ⟨q, S, 0, i0, (-2147483648), rfl, rfl, hi0, hW, pw_bd h (fun S1 r4 h f2 hW3 => ?_)⟩
  conv => whnf
  refine np_rd_i (hW3.g hi0) ?_
  conv => whnf
  refine ⟨q, S1, 1, i0, (-1), rfl, rfl, hi0, hW3, pw_bd h (fun S6 r9 h f7 hW8 => ?_)⟩
  conv => whnf
  refine np_rd_i (hW8.g hi0) ?_
  conv => whnf
  refine pw_wr (a := 50) (i := i0) (d := upd (S6 50 i0) 2 0) hW8 hi0 rfl h (fun S11 f12 hW13 h => ?_)
  conv => whnf
  refine np_rd_i (hW13.g hi0) ?_
  conv => whnf
  refine ⟨q, S11, i0, rfl, hi0, hW13, pw_bd h (fun S14 r17 h f15 hW16 => ?_)⟩
  conv => whnf
  refine np_rd_i (hW16.g hi0) ?_
  conv => whnf
  refine pw_wr (a := 50) (i := i0) (d := upd (S14 50 i0) 6 0) hW16 hi0 rfl h (fun S19 f20 hW21 h => ?_)
  conv => whnf
  refine np_rd_i (hW21.g hi0) ?_
  conv => whnf
  refine pw_wr (a := 50) (i := i0) (d := upd (S19 50 i0) 7 0) hW21 hi0 rfl h (fun S22 f23 hW24 h => ?_)
  conv => whnf
  refine np_rd_i (hW24.g hi0) ?_
  conv => whnf
  refine pw_wr (a := 50) (i := i0) (d := upd (S22 50 i0) 8 0) hW24 hi0 rfl h (fun S25 f26 hW27 h => ?_)
  conv => whnf
  exact ⟨Nat.le_of_ble_eq_true rfl, Nat.le_of_ble_eq_true rfl, rfl, _, fun _ _ h9 => h9, pw_ps h _ hW27⟩
theorem dX8_isOver_0 : decode cX8_isOver 0 = .ok (.aload_n 0, 1) := by decide +kernel
theorem dX8_isOver_1 : decode cX8_isOver 1 = .ok (.getfield 27, 3) := by decide +kernel
theorem dX8_isOver_4 : decode cX8_isOver 4 = .ok (.aload_n 1, 1) := by decide +kernel
theorem dX8_isOver_5 : decode cX8_isOver 5 = .ok (.getfield 56, 3) := by decide +kernel
theorem dX8_isOver_8 : decode cX8_isOver 8 = .ok (.if_icmp .lt 7, 3) := by decide +kernel
theorem dX8_isOver_11 : decode cX8_isOver 11 = .ok (.iconst 1, 1) := by decide +kernel
theorem dX8_isOver_12 : decode cX8_isOver 12 = .ok (.goto 4, 3) := by decide +kernel
theorem dX8_isOver_15 : decode cX8_isOver 15 = .ok (.iconst 0, 1) := by decide +kernel
theorem dX8_isOver_16 : decode cX8_isOver 16 = .ok (.ireturn, 1) := by decide +kernel
def is_X8_isOver (Rt : np_Rt) : List (Nat × np_Op) := [(0, np_ald 1 0), (1, nw_getf 8 2), (4, np_ald 1 1), (5, nw_getf 2 4), (8, nq_ic (fun x y => x < y) 15), (11, np_push 1 (.int 1)), (12, np_goto 16), (15, np_push 1 (.int 0)), (16, np_ret Rt)]
set_option maxRecDepth 20000 in
theorem so_X8_isOver {X : np_Ctx} {Rt : np_Rt} (hX : np_ok RX8 cX8_isOver 2 0 0 0 0 .ireturn X) (hR : ∀ st w ce sl, Rt st w ce sl → X.2.2.1 st w ce sl) : ∀ q ∈ is_X8_isOver Rt, np_S X q.1 q.2 :=
  List.forall_mem_cons.mpr ⟨np_s_aload_n hX dX8_isOver_0 rfl, List.forall_mem_cons.mpr ⟨np_S.mono (op := np_getf 8 2) (np_s_getf hX dX8_isOver_1 (C := RX8) (T := TX8) (N := 9) rfl guX8 (by decide) gw149) nw_getf_le, List.forall_mem_cons.mpr ⟨np_s_aload_n hX dX8_isOver_4 rfl, List.forall_mem_cons.mpr ⟨np_S.mono (op := np_getf 2 4) (np_s_getN hX dX8_isOver_5 (C := RX2) (T := TX2) (N := 5) rfl guX2 (by decide) gw106) nw_getf_le, List.forall_mem_cons.mpr ⟨np_S.mono (op := np_ic (fun x y => x < y) 15) (np_s_icmp_lt hX dX8_isOver_8 (by decide)) nq_ic_le, List.forall_mem_cons.mpr ⟨np_s_iconst hX dX8_isOver_11 (by decide), List.forall_mem_cons.mpr ⟨np_s_goto hX dX8_isOver_12 (by decide), List.forall_mem_cons.mpr ⟨np_s_iconst hX dX8_isOver_15 (by decide), List.forall_mem_cons.mpr ⟨np_S.mono (op := np_ret X.2.2.1) (np_s_ret hX dX8_isOver_16) (nq_ret_le hR), fun _ h => nomatch h⟩⟩⟩⟩⟩⟩⟩⟩⟩
noncomputable def m_X8_isOver (S : pw_S) (i0 : Nat) (i1 : Nat) : pw_R Int32 :=
 if (S 50 i0 2) < (S 51 i1 4) then
 (some (S, 0))
 else
 (some (S, 1))
def sp_X8_isOver : np_Sp := fun vs w Q => ∃ (q : Nat) (S : pw_S) (i0 : Nat) (i1 : Nat), vs = [.ref (pw_pl 50 i0), .ref (pw_pl 51 i1)] ∧ pw_ok q 50 i0 = true ∧ pw_ok q 51 i1 = true ∧ pw_W q w S ∧ pw_p (m_X8_isOver S i0 i1) (fun S' r => ∀ f', pw_W q (w.1, f') S' → Q (some (.int r)) (w.1, f'))
set_option maxRecDepth 100000 in
set_option maxHeartbeats 8000000 in
theorem C_X8_isOver : np_C yX8_isOver cX8_isOver 2 (some .boolean) 0 0 0 0 sp_X8_isOver := by
  refine np_of (by decide) ?_
  intro X vs w Q hsp hX hmn hRt hlt
  obtain ⟨q, S, i0, i1, rfl, hi0, hi1, hW, h⟩ := hsp
  obtain ⟨n, f⟩ := w
  unfold m_X8_isOver at h
  have hR : ∀ st w ce sl, np_rt (some .boolean) 0 0 Q st w ce sl → X.2.2.1 st w ce sl := fun _ _ _ _ h => by rw [hRt]; exact h
  refine np_soundW (so_X8_isOver hX hR) [] 400 0 _ _ _ _ _ ?_
  conv => whnf
  refine np_rd_i (hW.g hi0) ?_
  conv => whnf
  refine np_rd_i (hW.g hi1) ?_
  conv => whnf
  refine pw_br h (fun _ h => ?_) (fun _ h => ?_)
  · conv => whnf
    exact ⟨Nat.le_of_ble_eq_true rfl, Nat.le_of_ble_eq_true rfl, ⟨_, rfl, by decide⟩, _, fun _ _ h9 => h9, pw_ps h _ hW⟩
  · conv => whnf
    exact ⟨Nat.le_of_ble_eq_true rfl, Nat.le_of_ble_eq_true rfl, ⟨_, rfl, by decide⟩, _, fun _ _ h9 => h9, pw_ps h _ hW⟩
theorem dX8_enter_0 : decode cX8_enter 0 = .ok (.aload_n 0, 1) := by decide +kernel
theorem dX8_enter_1 : decode cX8_enter 1 = .ok (.getfield 13, 3) := by decide +kernel
theorem dX8_enter_4 : decode cX8_enter 4 = .ok (.aload_n 1, 1) := by decide +kernel
theorem dX8_enter_5 : decode cX8_enter 5 = .ok (.aload_n 0, 1) := by decide +kernel
theorem dX8_enter_6 : decode cX8_enter 6 = .ok (.getfield 27, 3) := by decide +kernel
theorem dX8_enter_9 : decode cX8_enter 9 = .ok (.invokevirtual 88, 3) := by decide +kernel
theorem dX8_enter_12 : decode cX8_enter 12 = .ok (.iconst 0, 1) := by decide +kernel
theorem dX8_enter_13 : decode cX8_enter 13 = .ok (.invokestatic 65, 3) := by decide +kernel
theorem dX8_enter_16 : decode cX8_enter 16 = .ok (.ldc 22, 2) := by decide +kernel
theorem dX8_enter_18 : decode cX8_enter 18 = .ok (.invokestatic 77, 3) := by decide +kernel
theorem dX8_enter_21 : decode cX8_enter 21 = .ok (.istore_n 2, 1) := by decide +kernel
theorem dX8_enter_22 : decode cX8_enter 22 = .ok (.aload_n 1, 1) := by decide +kernel
theorem dX8_enter_23 : decode cX8_enter 23 = .ok (.aload_n 0, 1) := by decide +kernel
theorem dX8_enter_24 : decode cX8_enter 24 = .ok (.getfield 27, 3) := by decide +kernel
theorem dX8_enter_27 : decode cX8_enter 27 = .ok (.invokevirtual 91, 3) := by decide +kernel
theorem dX8_enter_30 : decode cX8_enter 30 = .ok (.bipush 7, 2) := by decide +kernel
theorem dX8_enter_32 : decode cX8_enter 32 = .ok (.if_icmp .ne 7, 3) := by decide +kernel
theorem dX8_enter_35 : decode cX8_enter 35 = .ok (.iconst 1, 1) := by decide +kernel
theorem dX8_enter_36 : decode cX8_enter 36 = .ok (.goto 4, 3) := by decide +kernel
theorem dX8_enter_39 : decode cX8_enter 39 = .ok (.iconst 0, 1) := by decide +kernel
theorem dX8_enter_40 : decode cX8_enter 40 = .ok (.istore_n 3, 1) := by decide +kernel
theorem dX8_enter_41 : decode cX8_enter 41 = .ok (.iload_n 3, 1) := by decide +kernel
theorem dX8_enter_42 : decode cX8_enter 42 = .ok (.ifCond .eq 12, 3) := by decide +kernel
theorem dX8_enter_45 : decode cX8_enter 45 = .ok (.iload_n 2, 1) := by decide +kernel
theorem dX8_enter_46 : decode cX8_enter 46 = .ok (.iconst 1, 1) := by decide +kernel
theorem dX8_enter_47 : decode cX8_enter 47 = .ok (.iconst 3, 1) := by decide +kernel
theorem dX8_enter_48 : decode cX8_enter 48 = .ok (.invokestatic 94, 3) := by decide +kernel
theorem dX8_enter_51 : decode cX8_enter 51 = .ok (.goto 20, 3) := by decide +kernel
theorem dX8_enter_54 : decode cX8_enter 54 = .ok (.iload_n 2, 1) := by decide +kernel
theorem dX8_enter_55 : decode cX8_enter 55 = .ok (.aload_n 1, 1) := by decide +kernel
theorem dX8_enter_56 : decode cX8_enter 56 = .ok (.aload_n 0, 1) := by decide +kernel
theorem dX8_enter_57 : decode cX8_enter 57 = .ok (.getfield 27, 3) := by decide +kernel
theorem dX8_enter_60 : decode cX8_enter 60 = .ok (.invokevirtual 98, 3) := by decide +kernel
theorem dX8_enter_63 : decode cX8_enter 63 = .ok (.if_icmp .ne 7, 3) := by decide +kernel
theorem dX8_enter_66 : decode cX8_enter 66 = .ok (.iconst 1, 1) := by decide +kernel
theorem dX8_enter_67 : decode cX8_enter 67 = .ok (.goto 4, 3) := by decide +kernel
theorem dX8_enter_70 : decode cX8_enter 70 = .ok (.iconst 0, 1) := by decide +kernel
theorem dX8_enter_71 : decode cX8_enter 71 = .ok (.istore 4, 2) := by decide +kernel
theorem dX8_enter_73 : decode cX8_enter 73 = .ok (.iload 4, 2) := by decide +kernel
theorem dX8_enter_75 : decode cX8_enter 75 = .ok (.ifCond .eq 25, 3) := by decide +kernel
theorem dX8_enter_78 : decode cX8_enter 78 = .ok (.iload_n 3, 1) := by decide +kernel
theorem dX8_enter_79 : decode cX8_enter 79 = .ok (.ifCond .eq 21, 3) := by decide +kernel
theorem dX8_enter_82 : decode cX8_enter 82 = .ok (.aload_n 0, 1) := by decide +kernel
theorem dX8_enter_83 : decode cX8_enter 83 = .ok (.aload_n 0, 1) := by decide +kernel
theorem dX8_enter_84 : decode cX8_enter 84 = .ok (.getfield 27, 3) := by decide +kernel
theorem dX8_enter_87 : decode cX8_enter 87 = .ok (.putfield 47, 3) := by decide +kernel
theorem dX8_enter_90 : decode cX8_enter 90 = .ok (.aload_n 0, 1) := by decide +kernel
theorem dX8_enter_91 : decode cX8_enter 91 = .ok (.iload_n 2, 1) := by decide +kernel
theorem dX8_enter_92 : decode cX8_enter 92 = .ok (.putfield 50, 3) := by decide +kernel
theorem dX8_enter_95 : decode cX8_enter 95 = .ok (.aload_n 0, 1) := by decide +kernel
theorem dX8_enter_96 : decode cX8_enter 96 = .ok (.iconst 0, 1) := by decide +kernel
theorem dX8_enter_97 : decode cX8_enter 97 = .ok (.putfield 53, 3) := by decide +kernel
theorem dX8_enter_100 : decode cX8_enter 100 = .ok (.aload_n 0, 1) := by decide +kernel
theorem dX8_enter_101 : decode cX8_enter 101 = .ok (.dup, 1) := by decide +kernel
theorem dX8_enter_102 : decode cX8_enter 102 = .ok (.getfield 27, 3) := by decide +kernel
theorem dX8_enter_105 : decode cX8_enter 105 = .ok (.iload 4, 2) := by decide +kernel
theorem dX8_enter_107 : decode cX8_enter 107 = .ok (.ifCond .eq 7, 3) := by decide +kernel
theorem dX8_enter_110 : decode cX8_enter 110 = .ok (.iconst 1, 1) := by decide +kernel
theorem dX8_enter_111 : decode cX8_enter 111 = .ok (.goto 13, 3) := by decide +kernel
theorem dX8_enter_114 : decode cX8_enter 114 = .ok (.iconst 1, 1) := by decide +kernel
theorem dX8_enter_115 : decode cX8_enter 115 = .ok (.aload_n 1, 1) := by decide +kernel
theorem dX8_enter_116 : decode cX8_enter 116 = .ok (.aload_n 0, 1) := by decide +kernel
theorem dX8_enter_117 : decode cX8_enter 117 = .ok (.getfield 27, 3) := by decide +kernel
theorem dX8_enter_120 : decode cX8_enter 120 = .ok (.invokevirtual 85, 3) := by decide +kernel
theorem dX8_enter_123 : decode cX8_enter 123 = .ok (.iadd, 1) := by decide +kernel
theorem dX8_enter_124 : decode cX8_enter 124 = .ok (.iadd, 1) := by decide +kernel
theorem dX8_enter_125 : decode cX8_enter 125 = .ok (.putfield 27, 3) := by decide +kernel
theorem dX8_enter_128 : decode cX8_enter 128 = .ok (.return_, 1) := by decide +kernel
def is_X8_enter (Rt : np_Rt) : List (Nat × np_Op) := [(0, np_ald 1 0), (1, nw_getf 8 0), (4, np_ald 1 1), (5, np_ald 1 0), (6, nw_getf 8 2), (9, nw_callV 2 2 sp_X2_a 2 0 0 0 0), (12, np_push 1 (.int 0)), (13, nq_call 2 sp_X11_cellPlace 2 0 0 0 0), (16, np_push 2 (.int (-2147483648))), (18, nq_call 3 sp_X11_at 3 0 0 0 0), (21, nw_ist 1 2), (22, np_ald 1 1), (23, np_ald 1 0), (24, nw_getf 8 2), (27, nw_callV 2 2 sp_X2_kind 2 0 0 0 0), (30, np_push 2 (.int 7)), (32, nq_icne 39), (35, np_push 1 (.int 1)), (36, np_goto 40), (39, np_push 1 (.int 0)), (40, nw_ist 1 3), (41, np_ild 1 3), (42, nq_if (fun x => x = 0) 54), (45, np_ild 1 2), (46, np_push 1 (.int 1)), (47, np_push 1 (.int 3)), (48, nq_call 3 sp_X11_isBetween 3 0 0 0 0), (51, np_goto 71), (54, np_ild 1 2), (55, np_ald 1 1), (56, np_ald 1 0), (57, nw_getf 8 2), (60, nw_callV 2 2 sp_X2_c 2 0 0 0 0), (63, nq_icne 70), (66, np_push 1 (.int 1)), (67, np_goto 71), (70, np_push 1 (.int 0)), (71, nw_ist 2 4), (73, np_ild 2 4), (75, nq_if (fun x => x = 0) 100), (78, np_ild 1 3), (79, nq_if (fun x => x = 0) 100), (82, np_ald 1 0), (83, np_ald 1 0), (84, nw_getf 8 2), (87, nw_putf 8 3 (.int)), (90, np_ald 1 0), (91, np_ild 1 2), (92, nw_putf 8 4 (.int)), (95, np_ald 1 0), (96, np_push 1 (.int 0)), (97, nw_putf 8 5 (.int)), (100, np_ald 1 0), (101, nq_dup), (102, nw_getf 8 2), (105, np_ild 2 4), (107, nq_if (fun x => x = 0) 114), (110, np_push 1 (.int 1)), (111, np_goto 124), (114, np_push 1 (.int 1)), (115, np_ald 1 1), (116, np_ald 1 0), (117, nw_getf 8 2), (120, nw_callV 2 2 sp_X2_b 2 0 0 0 0), (123, np_ib (fun x y => x + y)), (124, np_ib (fun x y => x + y)), (125, nw_putf 8 2 (.int)), (128, np_ret Rt)]
set_option maxRecDepth 20000 in
theorem so_X8_enter {X : np_Ctx} {Rt : np_Rt} (hX : np_ok RX8 cX8_enter 5 2 43 0 0 .return_ X) (hR : ∀ st w ce sl, Rt st w ce sl → X.2.2.1 st w ce sl) : ∀ q ∈ is_X8_enter Rt, np_S X q.1 q.2 :=
  List.forall_mem_cons.mpr ⟨np_s_aload_n hX dX8_enter_0 rfl, List.forall_mem_cons.mpr ⟨np_S.mono (op := np_getf 8 0) (np_s_getf hX dX8_enter_1 (C := RX8) (T := TX8) (N := 9) rfl guX8 (by decide) gw145) nw_getf_le, List.forall_mem_cons.mpr ⟨np_s_aload_n hX dX8_enter_4 rfl, List.forall_mem_cons.mpr ⟨np_s_aload_n hX dX8_enter_5 rfl, List.forall_mem_cons.mpr ⟨np_S.mono (op := np_getf 8 2) (np_s_getf hX dX8_enter_6 (C := RX8) (T := TX8) (N := 9) rfl guX8 (by decide) gw149) nw_getf_le, List.forall_mem_cons.mpr ⟨np_S.mono (op := np_callV 2 2 sp_X2_a 2 0 0 0 0) (np_s_callV hX C_X2_a dX8_enter_9 (q := (RX2, TX2, 5)) rfl rfl gw657 gw64 gw765 gw655 gw656 ⟨by decide, by decide, by decide⟩ (by decide) (by decide)) nw_callV_le, List.forall_mem_cons.mpr ⟨np_s_iconst hX dX8_enter_12 (by decide), List.forall_mem_cons.mpr ⟨np_S.mono (op := np_call 2 sp_X11_cellPlace 2 0 0 0 0) (np_s_callSN hX C_X11_cellPlace dX8_enter_13 gw725 gw63 gw766 gw724 ⟨by decide, by decide, by decide⟩ (by decide) (by decide)) nq_call_le, List.forall_mem_cons.mpr ⟨np_s_ldc hX dX8_enter_16 gw745, List.forall_mem_cons.mpr ⟨np_S.mono (op := np_call 3 sp_X11_at 3 0 0 0 0) (np_s_callSN hX C_X11_at dX8_enter_18 gw653 gw63 gw767 gw652 ⟨by decide, by decide, by decide⟩ (by decide) (by decide)) nq_call_le, List.forall_mem_cons.mpr ⟨np_S.mono (op := np_ist 1 2) (np_s_istore_n hX dX8_enter_21 rfl (by decide)) nw_ist_le, List.forall_mem_cons.mpr ⟨np_s_aload_n hX dX8_enter_22 rfl, List.forall_mem_cons.mpr ⟨np_s_aload_n hX dX8_enter_23 rfl, List.forall_mem_cons.mpr ⟨np_S.mono (op := np_getf 8 2) (np_s_getf hX dX8_enter_24 (C := RX8) (T := TX8) (N := 9) rfl guX8 (by decide) gw149) nw_getf_le, List.forall_mem_cons.mpr ⟨np_S.mono (op := np_callV 2 2 sp_X2_kind 2 0 0 0 0) (np_s_callV hX C_X2_kind dX8_enter_27 (q := (RX2, TX2, 5)) rfl rfl gw650 gw64 gw768 gw648 gw649 ⟨by decide, by decide, by decide⟩ (by decide) (by decide)) nw_callV_le, List.forall_mem_cons.mpr ⟨np_s_bipush hX dX8_enter_30 (by decide), List.forall_mem_cons.mpr ⟨np_S.mono (op := np_icne 39) (np_s_icmp_ne hX dX8_enter_32 (by decide)) nq_icne_le, List.forall_mem_cons.mpr ⟨np_s_iconst hX dX8_enter_35 (by decide), List.forall_mem_cons.mpr ⟨np_s_goto hX dX8_enter_36 (by decide), List.forall_mem_cons.mpr ⟨np_s_iconst hX dX8_enter_39 (by decide), List.forall_mem_cons.mpr ⟨np_S.mono (op := np_ist 1 3) (np_s_istore_n hX dX8_enter_40 rfl (by decide)) nw_ist_le, List.forall_mem_cons.mpr ⟨np_s_iload_n hX dX8_enter_41 rfl, List.forall_mem_cons.mpr ⟨np_S.mono (op := np_if (fun x => x = 0) 54) (np_s_if_eq hX dX8_enter_42 (by decide)) nq_if_le, List.forall_mem_cons.mpr ⟨np_s_iload_n hX dX8_enter_45 rfl, List.forall_mem_cons.mpr ⟨np_s_iconst hX dX8_enter_46 (by decide), List.forall_mem_cons.mpr ⟨np_s_iconst hX dX8_enter_47 (by decide), List.forall_mem_cons.mpr ⟨np_S.mono (op := np_call 3 sp_X11_isBetween 3 0 0 0 0) (np_s_callSN hX C_X11_isBetween dX8_enter_48 gw589 gw63 gw769 gw588 ⟨by decide, by decide, by decide⟩ (by decide) (by decide)) nq_call_le, List.forall_mem_cons.mpr ⟨np_s_goto hX dX8_enter_51 (by decide), List.forall_mem_cons.mpr ⟨np_s_iload_n hX dX8_enter_54 rfl, List.forall_mem_cons.mpr ⟨np_s_aload_n hX dX8_enter_55 rfl, List.forall_mem_cons.mpr ⟨np_s_aload_n hX dX8_enter_56 rfl, List.forall_mem_cons.mpr ⟨np_S.mono (op := np_getf 8 2) (np_s_getf hX dX8_enter_57 (C := RX8) (T := TX8) (N := 9) rfl guX8 (by decide) gw149) nw_getf_le, List.forall_mem_cons.mpr ⟨np_S.mono (op := np_callV 2 2 sp_X2_c 2 0 0 0 0) (np_s_callV hX C_X2_c dX8_enter_60 (q := (RX2, TX2, 5)) rfl rfl gw690 gw64 gw770 gw688 gw689 ⟨by decide, by decide, by decide⟩ (by decide) (by decide)) nw_callV_le, List.forall_mem_cons.mpr ⟨np_S.mono (op := np_icne 70) (np_s_icmp_ne hX dX8_enter_63 (by decide)) nq_icne_le, List.forall_mem_cons.mpr ⟨np_s_iconst hX dX8_enter_66 (by decide), List.forall_mem_cons.mpr ⟨np_s_goto hX dX8_enter_67 (by decide), List.forall_mem_cons.mpr ⟨np_s_iconst hX dX8_enter_70 (by decide), List.forall_mem_cons.mpr ⟨np_S.mono (op := np_ist 2 4) (np_s_istore hX dX8_enter_71 (by decide)) nw_ist_le, List.forall_mem_cons.mpr ⟨np_s_iload hX dX8_enter_73, List.forall_mem_cons.mpr ⟨np_S.mono (op := np_if (fun x => x = 0) 100) (np_s_if_eq hX dX8_enter_75 (by decide)) nq_if_le, List.forall_mem_cons.mpr ⟨np_s_iload_n hX dX8_enter_78 rfl, List.forall_mem_cons.mpr ⟨np_S.mono (op := np_if (fun x => x = 0) 100) (np_s_if_eq hX dX8_enter_79 (by decide)) nq_if_le, List.forall_mem_cons.mpr ⟨np_s_aload_n hX dX8_enter_82 rfl, List.forall_mem_cons.mpr ⟨np_s_aload_n hX dX8_enter_83 rfl, List.forall_mem_cons.mpr ⟨np_S.mono (op := np_getf 8 2) (np_s_getf hX dX8_enter_84 (C := RX8) (T := TX8) (N := 9) rfl guX8 (by decide) gw149) nw_getf_le, List.forall_mem_cons.mpr ⟨np_S.mono (op := np_putf 8 3 (.int)) (np_s_putf hX dX8_enter_87 (C := RX8) (T := TX8) (N := 9) (ty0 := tyX8) rfl guX8 tyX8_ok nmX8 (by decide) gw153 rfl rfl) nw_putf_le, List.forall_mem_cons.mpr ⟨np_s_aload_n hX dX8_enter_90 rfl, List.forall_mem_cons.mpr ⟨np_s_iload_n hX dX8_enter_91 rfl, List.forall_mem_cons.mpr ⟨np_S.mono (op := np_putf 8 4 (.int)) (np_s_putf hX dX8_enter_92 (C := RX8) (T := TX8) (N := 9) (ty0 := tyX8) rfl guX8 tyX8_ok nmX8 (by decide) gw154 rfl rfl) nw_putf_le, List.forall_mem_cons.mpr ⟨np_s_aload_n hX dX8_enter_95 rfl, List.forall_mem_cons.mpr ⟨np_s_iconst hX dX8_enter_96 (by decide), List.forall_mem_cons.mpr ⟨np_S.mono (op := np_putf 8 5 (.int)) (np_s_putf hX dX8_enter_97 (C := RX8) (T := TX8) (N := 9) (ty0 := tyX8) rfl guX8 tyX8_ok nmX8 (by decide) gw155 rfl rfl) nw_putf_le, List.forall_mem_cons.mpr ⟨np_s_aload_n hX dX8_enter_100 rfl, List.forall_mem_cons.mpr ⟨np_S.mono (op := np_dup) (np_s_dup hX dX8_enter_101) nq_dup_le, List.forall_mem_cons.mpr ⟨np_S.mono (op := np_getf 8 2) (np_s_getf hX dX8_enter_102 (C := RX8) (T := TX8) (N := 9) rfl guX8 (by decide) gw149) nw_getf_le, List.forall_mem_cons.mpr ⟨np_s_iload hX dX8_enter_105, List.forall_mem_cons.mpr ⟨np_S.mono (op := np_if (fun x => x = 0) 114) (np_s_if_eq hX dX8_enter_107 (by decide)) nq_if_le, List.forall_mem_cons.mpr ⟨np_s_iconst hX dX8_enter_110 (by decide), List.forall_mem_cons.mpr ⟨np_s_goto hX dX8_enter_111 (by decide), List.forall_mem_cons.mpr ⟨np_s_iconst hX dX8_enter_114 (by decide), List.forall_mem_cons.mpr ⟨np_s_aload_n hX dX8_enter_115 rfl, List.forall_mem_cons.mpr ⟨np_s_aload_n hX dX8_enter_116 rfl, List.forall_mem_cons.mpr ⟨np_S.mono (op := np_getf 8 2) (np_s_getf hX dX8_enter_117 (C := RX8) (T := TX8) (N := 9) rfl guX8 (by decide) gw149) nw_getf_le, List.forall_mem_cons.mpr ⟨np_S.mono (op := np_callV 2 2 sp_X2_b 2 0 0 0 0) (np_s_callV hX C_X2_b dX8_enter_120 (q := (RX2, TX2, 5)) rfl rfl gw673 gw64 gw771 gw671 gw672 ⟨by decide, by decide, by decide⟩ (by decide) (by decide)) nw_callV_le, List.forall_mem_cons.mpr ⟨np_s_iadd hX dX8_enter_123, List.forall_mem_cons.mpr ⟨np_s_iadd hX dX8_enter_124, List.forall_mem_cons.mpr ⟨np_S.mono (op := np_putf 8 2 (.int)) (np_s_putf hX dX8_enter_125 (C := RX8) (T := TX8) (N := 9) (ty0 := tyX8) rfl guX8 tyX8_ok nmX8 (by decide) gw149 rfl rfl) nw_putf_le, List.forall_mem_cons.mpr ⟨np_S.mono (op := np_ret X.2.2.1) (np_s_ret hX dX8_enter_128) (nq_ret_le hR), fun _ h => nomatch h⟩⟩⟩⟩⟩⟩⟩⟩⟩⟩⟩⟩⟩⟩⟩⟩⟩⟩⟩⟩⟩⟩⟩⟩⟩⟩⟩⟩⟩⟩⟩⟩⟩⟩⟩⟩⟩⟩⟩⟩⟩⟩⟩⟩⟩⟩⟩⟩⟩⟩⟩⟩⟩⟩⟩⟩⟩⟩⟩⟩⟩⟩⟩⟩⟩⟩⟩⟩
noncomputable def m_X8_enter (S : pw_S) (i0 : Nat) (i1 : Nat) : pw_R Unit :=
 pw_b (m_X2_a S i1 (S 50 i0 2)) fun S1 r4 =>
 pw_b (m_X11_cellPlace S1 r4 0) fun S6 r9 =>
 pw_b (m_X11_at S6 0 i0 r9 (-2147483648)) fun S11 r14 =>
 pw_l (r14 : Int32) fun z16 =>
 pw_b (m_X2_kind S11 i1 (S11 50 i0 2)) fun S17 r20 =>
 if r20 = 7 then
 (pw_l (1 : Int32) fun z22 =>
 if z22 = 0 then
 (pw_b (m_X2_c S17 i1 (S17 50 i0 2)) fun S23 r26 =>
 if z16 = r26 then
 (pw_l (1 : Int32) fun z28 =>
 if z28 = 0 then
 (if z28 = 0 then
 (pw_b (m_X2_b S23 i1 (S23 50 i0 2)) fun S29 r32 =>
 pw_l (pw_up S29 50 i0 (upd (S29 50 i0) 2 ((S23 50 i0 2) + (1 + r32)))) fun S34 =>
 some (S34, ()))
 else
 (pw_l (pw_up S23 50 i0 (upd (S23 50 i0) 2 ((S23 50 i0 2) + 1))) fun S37 =>
 some (S37, ())))
 else
 (if z22 = 0 then
 (if z28 = 0 then
 (pw_b (m_X2_b S23 i1 (S23 50 i0 2)) fun S40 r43 =>
 pw_l (pw_up S40 50 i0 (upd (S40 50 i0) 2 ((S23 50 i0 2) + (1 + r43)))) fun S45 =>
 some (S45, ()))
 else
 (pw_l (pw_up S23 50 i0 (upd (S23 50 i0) 2 ((S23 50 i0 2) + 1))) fun S48 =>
 some (S48, ())))
 else
 (pw_l (pw_up S23 50 i0 (upd (S23 50 i0) 3 (S23 50 i0 2))) fun S51 =>
 pw_l (pw_up S51 50 i0 (upd (S51 50 i0) 4 z16)) fun S54 =>
 pw_l (pw_up S54 50 i0 (upd (S54 50 i0) 5 0)) fun S57 =>
 if z28 = 0 then
 (pw_b (m_X2_b S57 i1 (S57 50 i0 2)) fun S60 r63 =>
 pw_l (pw_up S60 50 i0 (upd (S60 50 i0) 2 ((S57 50 i0 2) + (1 + r63)))) fun S65 =>
 some (S65, ()))
 else
 (pw_l (pw_up S57 50 i0 (upd (S57 50 i0) 2 ((S57 50 i0 2) + 1))) fun S68 =>
 some (S68, ())))))
 else
 (pw_l (0 : Int32) fun z71 =>
 if z71 = 0 then
 (if z71 = 0 then
 (pw_b (m_X2_b S23 i1 (S23 50 i0 2)) fun S72 r75 =>
 pw_l (pw_up S72 50 i0 (upd (S72 50 i0) 2 ((S23 50 i0 2) + (1 + r75)))) fun S77 =>
 some (S77, ()))
 else
 (pw_l (pw_up S23 50 i0 (upd (S23 50 i0) 2 ((S23 50 i0 2) + 1))) fun S80 =>
 some (S80, ())))
 else
 (if z22 = 0 then
 (if z71 = 0 then
 (pw_b (m_X2_b S23 i1 (S23 50 i0 2)) fun S83 r86 =>
 pw_l (pw_up S83 50 i0 (upd (S83 50 i0) 2 ((S23 50 i0 2) + (1 + r86)))) fun S88 =>
 some (S88, ()))
 else
 (pw_l (pw_up S23 50 i0 (upd (S23 50 i0) 2 ((S23 50 i0 2) + 1))) fun S91 =>
 some (S91, ())))
 else
 (pw_l (pw_up S23 50 i0 (upd (S23 50 i0) 3 (S23 50 i0 2))) fun S94 =>
 pw_l (pw_up S94 50 i0 (upd (S94 50 i0) 4 z16)) fun S97 =>
 pw_l (pw_up S97 50 i0 (upd (S97 50 i0) 5 0)) fun S100 =>
 if z71 = 0 then
 (pw_b (m_X2_b S100 i1 (S100 50 i0 2)) fun S103 r106 =>
 pw_l (pw_up S103 50 i0 (upd (S103 50 i0) 2 ((S100 50 i0 2) + (1 + r106)))) fun S108 =>
 some (S108, ()))
 else
 (pw_l (pw_up S100 50 i0 (upd (S100 50 i0) 2 ((S100 50 i0 2) + 1))) fun S111 =>
 some (S111, ()))))))
 else
 (pw_b (m_X11_isBetween S17 z16 1 3) fun S114 r117 =>
 pw_l (r117 : Int32) fun z119 =>
 if z119 = 0 then
 (if z119 = 0 then
 (pw_b (m_X2_b S114 i1 (S114 50 i0 2)) fun S120 r123 =>
 pw_l (pw_up S120 50 i0 (upd (S120 50 i0) 2 ((S114 50 i0 2) + (1 + r123)))) fun S125 =>
 some (S125, ()))
 else
 (pw_l (pw_up S114 50 i0 (upd (S114 50 i0) 2 ((S114 50 i0 2) + 1))) fun S128 =>
 some (S128, ())))
 else
 (if z22 = 0 then
 (if z119 = 0 then
 (pw_b (m_X2_b S114 i1 (S114 50 i0 2)) fun S131 r134 =>
 pw_l (pw_up S131 50 i0 (upd (S131 50 i0) 2 ((S114 50 i0 2) + (1 + r134)))) fun S136 =>
 some (S136, ()))
 else
 (pw_l (pw_up S114 50 i0 (upd (S114 50 i0) 2 ((S114 50 i0 2) + 1))) fun S139 =>
 some (S139, ())))
 else
 (pw_l (pw_up S114 50 i0 (upd (S114 50 i0) 3 (S114 50 i0 2))) fun S142 =>
 pw_l (pw_up S142 50 i0 (upd (S142 50 i0) 4 z16)) fun S145 =>
 pw_l (pw_up S145 50 i0 (upd (S145 50 i0) 5 0)) fun S148 =>
 if z119 = 0 then
 (pw_b (m_X2_b S148 i1 (S148 50 i0 2)) fun S151 r154 =>
 pw_l (pw_up S151 50 i0 (upd (S151 50 i0) 2 ((S148 50 i0 2) + (1 + r154)))) fun S156 =>
 some (S156, ()))
 else
 (pw_l (pw_up S148 50 i0 (upd (S148 50 i0) 2 ((S148 50 i0 2) + 1))) fun S159 =>
 some (S159, ()))))))
 else
 (pw_l (0 : Int32) fun z162 =>
 if z162 = 0 then
 (pw_b (m_X2_c S17 i1 (S17 50 i0 2)) fun S163 r166 =>
 if z16 = r166 then
 (pw_l (1 : Int32) fun z168 =>
 if z168 = 0 then
 (if z168 = 0 then
 (pw_b (m_X2_b S163 i1 (S163 50 i0 2)) fun S169 r172 =>
 pw_l (pw_up S169 50 i0 (upd (S169 50 i0) 2 ((S163 50 i0 2) + (1 + r172)))) fun S174 =>
 some (S174, ()))
 else
 (pw_l (pw_up S163 50 i0 (upd (S163 50 i0) 2 ((S163 50 i0 2) + 1))) fun S177 =>
 some (S177, ())))
 else
 (if z162 = 0 then
 (if z168 = 0 then
 (pw_b (m_X2_b S163 i1 (S163 50 i0 2)) fun S180 r183 =>
 pw_l (pw_up S180 50 i0 (upd (S180 50 i0) 2 ((S163 50 i0 2) + (1 + r183)))) fun S185 =>
 some (S185, ()))
 else
 (pw_l (pw_up S163 50 i0 (upd (S163 50 i0) 2 ((S163 50 i0 2) + 1))) fun S188 =>
 some (S188, ())))
 else
 (pw_l (pw_up S163 50 i0 (upd (S163 50 i0) 3 (S163 50 i0 2))) fun S191 =>
 pw_l (pw_up S191 50 i0 (upd (S191 50 i0) 4 z16)) fun S194 =>
 pw_l (pw_up S194 50 i0 (upd (S194 50 i0) 5 0)) fun S197 =>
 if z168 = 0 then
 (pw_b (m_X2_b S197 i1 (S197 50 i0 2)) fun S200 r203 =>
 pw_l (pw_up S200 50 i0 (upd (S200 50 i0) 2 ((S197 50 i0 2) + (1 + r203)))) fun S205 =>
 some (S205, ()))
 else
 (pw_l (pw_up S197 50 i0 (upd (S197 50 i0) 2 ((S197 50 i0 2) + 1))) fun S208 =>
 some (S208, ())))))
 else
 (pw_l (0 : Int32) fun z211 =>
 if z211 = 0 then
 (if z211 = 0 then
 (pw_b (m_X2_b S163 i1 (S163 50 i0 2)) fun S212 r215 =>
 pw_l (pw_up S212 50 i0 (upd (S212 50 i0) 2 ((S163 50 i0 2) + (1 + r215)))) fun S217 =>
 some (S217, ()))
 else
 (pw_l (pw_up S163 50 i0 (upd (S163 50 i0) 2 ((S163 50 i0 2) + 1))) fun S220 =>
 some (S220, ())))
 else
 (if z162 = 0 then
 (if z211 = 0 then
 (pw_b (m_X2_b S163 i1 (S163 50 i0 2)) fun S223 r226 =>
 pw_l (pw_up S223 50 i0 (upd (S223 50 i0) 2 ((S163 50 i0 2) + (1 + r226)))) fun S228 =>
 some (S228, ()))
 else
 (pw_l (pw_up S163 50 i0 (upd (S163 50 i0) 2 ((S163 50 i0 2) + 1))) fun S231 =>
 some (S231, ())))
 else
 (pw_l (pw_up S163 50 i0 (upd (S163 50 i0) 3 (S163 50 i0 2))) fun S234 =>
 pw_l (pw_up S234 50 i0 (upd (S234 50 i0) 4 z16)) fun S237 =>
 pw_l (pw_up S237 50 i0 (upd (S237 50 i0) 5 0)) fun S240 =>
 if z211 = 0 then
 (pw_b (m_X2_b S240 i1 (S240 50 i0 2)) fun S243 r246 =>
 pw_l (pw_up S243 50 i0 (upd (S243 50 i0) 2 ((S240 50 i0 2) + (1 + r246)))) fun S248 =>
 some (S248, ()))
 else
 (pw_l (pw_up S240 50 i0 (upd (S240 50 i0) 2 ((S240 50 i0 2) + 1))) fun S251 =>
 some (S251, ()))))))
 else
 (pw_b (m_X11_isBetween S17 z16 1 3) fun S254 r257 =>
 pw_l (r257 : Int32) fun z259 =>
 if z259 = 0 then
 (if z259 = 0 then
 (pw_b (m_X2_b S254 i1 (S254 50 i0 2)) fun S260 r263 =>
 pw_l (pw_up S260 50 i0 (upd (S260 50 i0) 2 ((S254 50 i0 2) + (1 + r263)))) fun S265 =>
 some (S265, ()))
 else
 (pw_l (pw_up S254 50 i0 (upd (S254 50 i0) 2 ((S254 50 i0 2) + 1))) fun S268 =>
 some (S268, ())))
 else
 (if z162 = 0 then
 (if z259 = 0 then
 (pw_b (m_X2_b S254 i1 (S254 50 i0 2)) fun S271 r274 =>
 pw_l (pw_up S271 50 i0 (upd (S271 50 i0) 2 ((S254 50 i0 2) + (1 + r274)))) fun S276 =>
 some (S276, ()))
 else
 (pw_l (pw_up S254 50 i0 (upd (S254 50 i0) 2 ((S254 50 i0 2) + 1))) fun S279 =>
 some (S279, ())))
 else
 (pw_l (pw_up S254 50 i0 (upd (S254 50 i0) 3 (S254 50 i0 2))) fun S282 =>
 pw_l (pw_up S282 50 i0 (upd (S282 50 i0) 4 z16)) fun S285 =>
 pw_l (pw_up S285 50 i0 (upd (S285 50 i0) 5 0)) fun S288 =>
 if z259 = 0 then
 (pw_b (m_X2_b S288 i1 (S288 50 i0 2)) fun S291 r294 =>
 pw_l (pw_up S291 50 i0 (upd (S291 50 i0) 2 ((S288 50 i0 2) + (1 + r294)))) fun S296 =>
 some (S296, ()))
 else
 (pw_l (pw_up S288 50 i0 (upd (S288 50 i0) 2 ((S288 50 i0 2) + 1))) fun S299 =>
 some (S299, ()))))))
def sp_X8_enter : np_Sp := fun vs w Q => ∃ (q : Nat) (S : pw_S) (i0 : Nat) (i1 : Nat), vs = [.ref (pw_pl 50 i0), .ref (pw_pl 51 i1)] ∧ pw_ok q 50 i0 = true ∧ pw_ok q 51 i1 = true ∧ pw_W q w S ∧ pw_p (m_X8_enter S i0 i1) (fun S' r => ∀ f', pw_W q (w.1, f') S' → Q none (w.1, f'))
set_option maxRecDepth 100000 in
set_option maxHeartbeats 8000000 in
theorem C_X8_enter : np_C yX8_enter cX8_enter 5 none 2 43 0 0 sp_X8_enter := by
  refine np_of (by decide) ?_
  intro X vs w Q hsp hX hmn hRt hlt
  obtain ⟨q, S, i0, i1, rfl, hi0, hi1, hW, h⟩ := hsp
  obtain ⟨n, f⟩ := w
  unfold m_X8_enter at h
  have hR : ∀ st w ce sl, np_rt none 0 0 Q st w ce sl → X.2.2.1 st w ce sl := fun _ _ _ _ h => by rw [hRt]; exact h
  refine np_soundW (so_X8_enter hX hR) [] 400 0 _ _ _ _ _ ?_
  conv => whnf
  refine np_rd_i (hW.g hi0) ?_
  conv => whnf
  refine np_rd_i (hW.g hi0) ?_
  conv => whnf
  refine np_rd_i (hW.g hi1) ?_
  conv => whnf
  refine ⟨q, S, i1, (S 50 i0 2), rfl, hi1, hW, pw_bd h (fun S1 r4 h f2 hW3 => ?_)⟩
  conv => whnf
  refine ⟨q, S1, r4, 0, rfl, hW3, pw_bd h (fun S6 r9 h f7 hW8 => ?_)⟩
  conv => whnf
  refine ⟨q, S6, 0, i0, r9, (-2147483648), rfl, rfl, hi0, hW8, pw_bd h (fun S11 r14 h f12 hW13 => ?_)⟩
  conv => whnf
  refine pw_st h (fun z16 h => ?_)
  conv => whnf
  refine np_rd_i (hW13.g hi0) ?_
  conv => whnf
  refine np_rd_i (hW13.g hi1) ?_
  conv => whnf
  refine ⟨q, S11, i1, (S11 50 i0 2), rfl, hi1, hW13, pw_bd h (fun S17 r20 h f18 hW19 => ?_)⟩
  conv => whnf
  refine pw_br h (fun _ h => ?_) (fun _ h => ?_)
  · conv => whnf
    refine pw_st h (fun z22 h => ?_)
    conv => whnf
    refine pw_br h (fun _ h => ?_) (fun _ h => ?_)
    · conv => whnf
      refine np_rd_i (hW19.g hi0) ?_
      conv => whnf
      refine np_rd_i (hW19.g hi1) ?_
      conv => whnf
      refine ⟨q, S17, i1, (S17 50 i0 2), rfl, hi1, hW19, pw_bd h (fun S23 r26 h f24 hW25 => ?_)⟩
      conv => whnf
      refine pw_br h (fun _ h => ?_) (fun _ h => ?_)
      · conv => whnf
        refine pw_st h (fun z28 h => ?_)
        conv => whnf
        refine pw_br h (fun _ h => ?_) (fun _ h => ?_)
        · conv => whnf
          refine np_rd_i (hW25.g hi0) ?_
          conv => whnf
          refine pw_br h (fun _ h => ?_) (fun _ h => ?_)
          · conv => whnf
            refine np_rd_i (hW25.g hi0) ?_
            conv => whnf
            refine np_rd_i (hW25.g hi1) ?_
            conv => whnf
            refine ⟨q, S23, i1, (S23 50 i0 2), rfl, hi1, hW25, pw_bd h (fun S29 r32 h f30 hW31 => ?_)⟩
            conv => whnf
            refine np_rd_i (hW31.g hi0) ?_
            conv => whnf
            refine pw_wr (a := 50) (i := i0) (d := upd (S29 50 i0) 2 ((S23 50 i0 2) + (1 + r32))) hW31 hi0 rfl h (fun S34 f35 hW36 h => ?_)
            conv => whnf
            exact ⟨Nat.le_of_ble_eq_true rfl, Nat.le_of_ble_eq_true rfl, rfl, _, fun _ _ h9 => h9, pw_ps h _ hW36⟩
          · conv => whnf
            refine np_rd_i (hW25.g hi0) ?_
            conv => whnf
            refine pw_wr (a := 50) (i := i0) (d := upd (S23 50 i0) 2 ((S23 50 i0 2) + 1)) hW25 hi0 rfl h (fun S37 f38 hW39 h => ?_)
            conv => whnf
            exact ⟨Nat.le_of_ble_eq_true rfl, Nat.le_of_ble_eq_true rfl, rfl, _, fun _ _ h9 => h9, pw_ps h _ hW39⟩
        · conv => whnf
          refine pw_br h (fun _ h => ?_) (fun _ h => ?_)
          · conv => whnf
            refine np_rd_i (hW25.g hi0) ?_
            conv => whnf
            refine pw_br h (fun _ h => ?_) (fun _ h => ?_)
            · conv => whnf
              refine np_rd_i (hW25.g hi0) ?_
              conv => whnf
              refine np_rd_i (hW25.g hi1) ?_
              conv => whnf
              refine ⟨q, S23, i1, (S23 50 i0 2), rfl, hi1, hW25, pw_bd h (fun S40 r43 h f41 hW42 => ?_)⟩
              conv => whnf
              refine np_rd_i (hW42.g hi0) ?_
              conv => whnf
              refine pw_wr (a := 50) (i := i0) (d := upd (S40 50 i0) 2 ((S23 50 i0 2) + (1 + r43))) hW42 hi0 rfl h (fun S45 f46 hW47 h => ?_)
              conv => whnf
              exact ⟨Nat.le_of_ble_eq_true rfl, Nat.le_of_ble_eq_true rfl, rfl, _, fun _ _ h9 => h9, pw_ps h _ hW47⟩
            · conv => whnf
              refine np_rd_i (hW25.g hi0) ?_
              conv => whnf
              refine pw_wr (a := 50) (i := i0) (d := upd (S23 50 i0) 2 ((S23 50 i0 2) + 1)) hW25 hi0 rfl h (fun S48 f49 hW50 h => ?_)
              conv => whnf
              exact ⟨Nat.le_of_ble_eq_true rfl, Nat.le_of_ble_eq_true rfl, rfl, _, fun _ _ h9 => h9, pw_ps h _ hW50⟩
          · conv => whnf
            refine np_rd_i (hW25.g hi0) ?_
            conv => whnf
            refine np_rd_i (hW25.g hi0) ?_
            conv => whnf
            refine pw_wr (a := 50) (i := i0) (d := upd (S23 50 i0) 3 (S23 50 i0 2)) hW25 hi0 rfl h (fun S51 f52 hW53 h => ?_)
            conv => whnf
            refine np_rd_i (hW53.g hi0) ?_
            conv => whnf
            refine pw_wr (a := 50) (i := i0) (d := upd (S51 50 i0) 4 z16) hW53 hi0 rfl h (fun S54 f55 hW56 h => ?_)
            conv => whnf
            refine np_rd_i (hW56.g hi0) ?_
            conv => whnf
            refine pw_wr (a := 50) (i := i0) (d := upd (S54 50 i0) 5 0) hW56 hi0 rfl h (fun S57 f58 hW59 h => ?_)
            conv => whnf
            refine np_rd_i (hW59.g hi0) ?_
            conv => whnf
            refine pw_br h (fun _ h => ?_) (fun _ h => ?_)
            · conv => whnf
              refine np_rd_i (hW59.g hi0) ?_
              conv => whnf
              refine np_rd_i (hW59.g hi1) ?_
              conv => whnf
              refine ⟨q, S57, i1, (S57 50 i0 2), rfl, hi1, hW59, pw_bd h (fun S60 r63 h f61 hW62 => ?_)⟩
              conv => whnf
              refine np_rd_i (hW62.g hi0) ?_
              conv => whnf
              refine pw_wr (a := 50) (i := i0) (d := upd (S60 50 i0) 2 ((S57 50 i0 2) + (1 + r63))) hW62 hi0 rfl h (fun S65 f66 hW67 h => ?_)
              conv => whnf
              exact ⟨Nat.le_of_ble_eq_true rfl, Nat.le_of_ble_eq_true rfl, rfl, _, fun _ _ h9 => h9, pw_ps h _ hW67⟩
            · conv => whnf
              refine np_rd_i (hW59.g hi0) ?_
              conv => whnf
              refine pw_wr (a := 50) (i := i0) (d := upd (S57 50 i0) 2 ((S57 50 i0 2) + 1)) hW59 hi0 rfl h (fun S68 f69 hW70 h => ?_)
              conv => whnf
              exact ⟨Nat.le_of_ble_eq_true rfl, Nat.le_of_ble_eq_true rfl, rfl, _, fun _ _ h9 => h9, pw_ps h _ hW70⟩
      · conv => whnf
        refine pw_st h (fun z71 h => ?_)
        conv => whnf
        refine pw_br h (fun _ h => ?_) (fun _ h => ?_)
        · conv => whnf
          refine np_rd_i (hW25.g hi0) ?_
          conv => whnf
          refine pw_br h (fun _ h => ?_) (fun _ h => ?_)
          · conv => whnf
            refine np_rd_i (hW25.g hi0) ?_
            conv => whnf
            refine np_rd_i (hW25.g hi1) ?_
            conv => whnf
            refine ⟨q, S23, i1, (S23 50 i0 2), rfl, hi1, hW25, pw_bd h (fun S72 r75 h f73 hW74 => ?_)⟩
            conv => whnf
            refine np_rd_i (hW74.g hi0) ?_
            conv => whnf
            refine pw_wr (a := 50) (i := i0) (d := upd (S72 50 i0) 2 ((S23 50 i0 2) + (1 + r75))) hW74 hi0 rfl h (fun S77 f78 hW79 h => ?_)
            conv => whnf
            exact ⟨Nat.le_of_ble_eq_true rfl, Nat.le_of_ble_eq_true rfl, rfl, _, fun _ _ h9 => h9, pw_ps h _ hW79⟩
          · conv => whnf
            refine np_rd_i (hW25.g hi0) ?_
            conv => whnf
            refine pw_wr (a := 50) (i := i0) (d := upd (S23 50 i0) 2 ((S23 50 i0 2) + 1)) hW25 hi0 rfl h (fun S80 f81 hW82 h => ?_)
            conv => whnf
            exact ⟨Nat.le_of_ble_eq_true rfl, Nat.le_of_ble_eq_true rfl, rfl, _, fun _ _ h9 => h9, pw_ps h _ hW82⟩
        · conv => whnf
          refine pw_br h (fun _ h => ?_) (fun _ h => ?_)
          · conv => whnf
            refine np_rd_i (hW25.g hi0) ?_
            conv => whnf
            refine pw_br h (fun _ h => ?_) (fun _ h => ?_)
            · conv => whnf
              refine np_rd_i (hW25.g hi0) ?_
              conv => whnf
              refine np_rd_i (hW25.g hi1) ?_
              conv => whnf
              refine ⟨q, S23, i1, (S23 50 i0 2), rfl, hi1, hW25, pw_bd h (fun S83 r86 h f84 hW85 => ?_)⟩
              conv => whnf
              refine np_rd_i (hW85.g hi0) ?_
              conv => whnf
              refine pw_wr (a := 50) (i := i0) (d := upd (S83 50 i0) 2 ((S23 50 i0 2) + (1 + r86))) hW85 hi0 rfl h (fun S88 f89 hW90 h => ?_)
              conv => whnf
              exact ⟨Nat.le_of_ble_eq_true rfl, Nat.le_of_ble_eq_true rfl, rfl, _, fun _ _ h9 => h9, pw_ps h _ hW90⟩
            · conv => whnf
              refine np_rd_i (hW25.g hi0) ?_
              conv => whnf
              refine pw_wr (a := 50) (i := i0) (d := upd (S23 50 i0) 2 ((S23 50 i0 2) + 1)) hW25 hi0 rfl h (fun S91 f92 hW93 h => ?_)
              conv => whnf
              exact ⟨Nat.le_of_ble_eq_true rfl, Nat.le_of_ble_eq_true rfl, rfl, _, fun _ _ h9 => h9, pw_ps h _ hW93⟩
          · conv => whnf
            refine np_rd_i (hW25.g hi0) ?_
            conv => whnf
            refine np_rd_i (hW25.g hi0) ?_
            conv => whnf
            refine pw_wr (a := 50) (i := i0) (d := upd (S23 50 i0) 3 (S23 50 i0 2)) hW25 hi0 rfl h (fun S94 f95 hW96 h => ?_)
            conv => whnf
            refine np_rd_i (hW96.g hi0) ?_
            conv => whnf
            refine pw_wr (a := 50) (i := i0) (d := upd (S94 50 i0) 4 z16) hW96 hi0 rfl h (fun S97 f98 hW99 h => ?_)
            conv => whnf
            refine np_rd_i (hW99.g hi0) ?_
            conv => whnf
            refine pw_wr (a := 50) (i := i0) (d := upd (S97 50 i0) 5 0) hW99 hi0 rfl h (fun S100 f101 hW102 h => ?_)
            conv => whnf
            refine np_rd_i (hW102.g hi0) ?_
            conv => whnf
            refine pw_br h (fun _ h => ?_) (fun _ h => ?_)
            · conv => whnf
              refine np_rd_i (hW102.g hi0) ?_
              conv => whnf
              refine np_rd_i (hW102.g hi1) ?_
              conv => whnf
              refine ⟨q, S100, i1, (S100 50 i0 2), rfl, hi1, hW102, pw_bd h (fun S103 r106 h f104 hW105 => ?_)⟩
              conv => whnf
              refine np_rd_i (hW105.g hi0) ?_
              conv => whnf
              refine pw_wr (a := 50) (i := i0) (d := upd (S103 50 i0) 2 ((S100 50 i0 2) + (1 + r106))) hW105 hi0 rfl h (fun S108 f109 hW110 h => ?_)
              conv => whnf
              exact ⟨Nat.le_of_ble_eq_true rfl, Nat.le_of_ble_eq_true rfl, rfl, _, fun _ _ h9 => h9, pw_ps h _ hW110⟩
            · conv => whnf
              refine np_rd_i (hW102.g hi0) ?_
              conv => whnf
              refine pw_wr (a := 50) (i := i0) (d := upd (S100 50 i0) 2 ((S100 50 i0 2) + 1)) hW102 hi0 rfl h (fun S111 f112 hW113 h => ?_)
              conv => whnf
              exact ⟨Nat.le_of_ble_eq_true rfl, Nat.le_of_ble_eq_true rfl, rfl, _, fun _ _ h9 => h9, pw_ps h _ hW113⟩
    · conv => whnf
      refine ⟨q, S17, z16, 1, 3, rfl, hW19, pw_bd h (fun S114 r117 h f115 hW116 => ?_)⟩
      conv => whnf
      refine pw_st h (fun z119 h => ?_)
      conv => whnf
      refine pw_br h (fun _ h => ?_) (fun _ h => ?_)
      · conv => whnf
        refine np_rd_i (hW116.g hi0) ?_
        conv => whnf
        refine pw_br h (fun _ h => ?_) (fun _ h => ?_)
        · conv => whnf
          refine np_rd_i (hW116.g hi0) ?_
          conv => whnf
          refine np_rd_i (hW116.g hi1) ?_
          conv => whnf
          refine ⟨q, S114, i1, (S114 50 i0 2), rfl, hi1, hW116, pw_bd h (fun S120 r123 h f121 hW122 => ?_)⟩
          conv => whnf
          refine np_rd_i (hW122.g hi0) ?_
          conv => whnf
          refine pw_wr (a := 50) (i := i0) (d := upd (S120 50 i0) 2 ((S114 50 i0 2) + (1 + r123))) hW122 hi0 rfl h (fun S125 f126 hW127 h => ?_)
          conv => whnf
          exact ⟨Nat.le_of_ble_eq_true rfl, Nat.le_of_ble_eq_true rfl, rfl, _, fun _ _ h9 => h9, pw_ps h _ hW127⟩
        · conv => whnf
          refine np_rd_i (hW116.g hi0) ?_
          conv => whnf
          refine pw_wr (a := 50) (i := i0) (d := upd (S114 50 i0) 2 ((S114 50 i0 2) + 1)) hW116 hi0 rfl h (fun S128 f129 hW130 h => ?_)
          conv => whnf
          exact ⟨Nat.le_of_ble_eq_true rfl, Nat.le_of_ble_eq_true rfl, rfl, _, fun _ _ h9 => h9, pw_ps h _ hW130⟩
      · conv => whnf
        refine pw_br h (fun _ h => ?_) (fun _ h => ?_)
        · conv => whnf
          refine np_rd_i (hW116.g hi0) ?_
          conv => whnf
          refine pw_br h (fun _ h => ?_) (fun _ h => ?_)
          · conv => whnf
            refine np_rd_i (hW116.g hi0) ?_
            conv => whnf
            refine np_rd_i (hW116.g hi1) ?_
            conv => whnf
            refine ⟨q, S114, i1, (S114 50 i0 2), rfl, hi1, hW116, pw_bd h (fun S131 r134 h f132 hW133 => ?_)⟩
            conv => whnf
            refine np_rd_i (hW133.g hi0) ?_
            conv => whnf
            refine pw_wr (a := 50) (i := i0) (d := upd (S131 50 i0) 2 ((S114 50 i0 2) + (1 + r134))) hW133 hi0 rfl h (fun S136 f137 hW138 h => ?_)
            conv => whnf
            exact ⟨Nat.le_of_ble_eq_true rfl, Nat.le_of_ble_eq_true rfl, rfl, _, fun _ _ h9 => h9, pw_ps h _ hW138⟩
          · conv => whnf
            refine np_rd_i (hW116.g hi0) ?_
            conv => whnf
            refine pw_wr (a := 50) (i := i0) (d := upd (S114 50 i0) 2 ((S114 50 i0 2) + 1)) hW116 hi0 rfl h (fun S139 f140 hW141 h => ?_)
            conv => whnf
            exact ⟨Nat.le_of_ble_eq_true rfl, Nat.le_of_ble_eq_true rfl, rfl, _, fun _ _ h9 => h9, pw_ps h _ hW141⟩
        · conv => whnf
          refine np_rd_i (hW116.g hi0) ?_
          conv => whnf
          refine np_rd_i (hW116.g hi0) ?_
          conv => whnf
          refine pw_wr (a := 50) (i := i0) (d := upd (S114 50 i0) 3 (S114 50 i0 2)) hW116 hi0 rfl h (fun S142 f143 hW144 h => ?_)
          conv => whnf
          refine np_rd_i (hW144.g hi0) ?_
          conv => whnf
          refine pw_wr (a := 50) (i := i0) (d := upd (S142 50 i0) 4 z16) hW144 hi0 rfl h (fun S145 f146 hW147 h => ?_)
          conv => whnf
          refine np_rd_i (hW147.g hi0) ?_
          conv => whnf
          refine pw_wr (a := 50) (i := i0) (d := upd (S145 50 i0) 5 0) hW147 hi0 rfl h (fun S148 f149 hW150 h => ?_)
          conv => whnf
          refine np_rd_i (hW150.g hi0) ?_
          conv => whnf
          refine pw_br h (fun _ h => ?_) (fun _ h => ?_)
          · conv => whnf
            refine np_rd_i (hW150.g hi0) ?_
            conv => whnf
            refine np_rd_i (hW150.g hi1) ?_
            conv => whnf
            refine ⟨q, S148, i1, (S148 50 i0 2), rfl, hi1, hW150, pw_bd h (fun S151 r154 h f152 hW153 => ?_)⟩
            conv => whnf
            refine np_rd_i (hW153.g hi0) ?_
            conv => whnf
            refine pw_wr (a := 50) (i := i0) (d := upd (S151 50 i0) 2 ((S148 50 i0 2) + (1 + r154))) hW153 hi0 rfl h (fun S156 f157 hW158 h => ?_)
            conv => whnf
            exact ⟨Nat.le_of_ble_eq_true rfl, Nat.le_of_ble_eq_true rfl, rfl, _, fun _ _ h9 => h9, pw_ps h _ hW158⟩
          · conv => whnf
            refine np_rd_i (hW150.g hi0) ?_
            conv => whnf
            refine pw_wr (a := 50) (i := i0) (d := upd (S148 50 i0) 2 ((S148 50 i0 2) + 1)) hW150 hi0 rfl h (fun S159 f160 hW161 h => ?_)
            conv => whnf
            exact ⟨Nat.le_of_ble_eq_true rfl, Nat.le_of_ble_eq_true rfl, rfl, _, fun _ _ h9 => h9, pw_ps h _ hW161⟩
  · conv => whnf
    refine pw_st h (fun z162 h => ?_)
    conv => whnf
    refine pw_br h (fun _ h => ?_) (fun _ h => ?_)
    · conv => whnf
      refine np_rd_i (hW19.g hi0) ?_
      conv => whnf
      refine np_rd_i (hW19.g hi1) ?_
      conv => whnf
      refine ⟨q, S17, i1, (S17 50 i0 2), rfl, hi1, hW19, pw_bd h (fun S163 r166 h f164 hW165 => ?_)⟩
      conv => whnf
      refine pw_br h (fun _ h => ?_) (fun _ h => ?_)
      · conv => whnf
        refine pw_st h (fun z168 h => ?_)
        conv => whnf
        refine pw_br h (fun _ h => ?_) (fun _ h => ?_)
        · conv => whnf
          refine np_rd_i (hW165.g hi0) ?_
          conv => whnf
          refine pw_br h (fun _ h => ?_) (fun _ h => ?_)
          · conv => whnf
            refine np_rd_i (hW165.g hi0) ?_
            conv => whnf
            refine np_rd_i (hW165.g hi1) ?_
            conv => whnf
            refine ⟨q, S163, i1, (S163 50 i0 2), rfl, hi1, hW165, pw_bd h (fun S169 r172 h f170 hW171 => ?_)⟩
            conv => whnf
            refine np_rd_i (hW171.g hi0) ?_
            conv => whnf
            refine pw_wr (a := 50) (i := i0) (d := upd (S169 50 i0) 2 ((S163 50 i0 2) + (1 + r172))) hW171 hi0 rfl h (fun S174 f175 hW176 h => ?_)
            conv => whnf
            exact ⟨Nat.le_of_ble_eq_true rfl, Nat.le_of_ble_eq_true rfl, rfl, _, fun _ _ h9 => h9, pw_ps h _ hW176⟩
          · conv => whnf
            refine np_rd_i (hW165.g hi0) ?_
            conv => whnf
            refine pw_wr (a := 50) (i := i0) (d := upd (S163 50 i0) 2 ((S163 50 i0 2) + 1)) hW165 hi0 rfl h (fun S177 f178 hW179 h => ?_)
            conv => whnf
            exact ⟨Nat.le_of_ble_eq_true rfl, Nat.le_of_ble_eq_true rfl, rfl, _, fun _ _ h9 => h9, pw_ps h _ hW179⟩
        · conv => whnf
          refine pw_br h (fun _ h => ?_) (fun _ h => ?_)
          · conv => whnf
            refine np_rd_i (hW165.g hi0) ?_
            conv => whnf
            refine pw_br h (fun _ h => ?_) (fun _ h => ?_)
            · conv => whnf
              refine np_rd_i (hW165.g hi0) ?_
              conv => whnf
              refine np_rd_i (hW165.g hi1) ?_
              conv => whnf
              refine ⟨q, S163, i1, (S163 50 i0 2), rfl, hi1, hW165, pw_bd h (fun S180 r183 h f181 hW182 => ?_)⟩
              conv => whnf
              refine np_rd_i (hW182.g hi0) ?_
              conv => whnf
              refine pw_wr (a := 50) (i := i0) (d := upd (S180 50 i0) 2 ((S163 50 i0 2) + (1 + r183))) hW182 hi0 rfl h (fun S185 f186 hW187 h => ?_)
              conv => whnf
              exact ⟨Nat.le_of_ble_eq_true rfl, Nat.le_of_ble_eq_true rfl, rfl, _, fun _ _ h9 => h9, pw_ps h _ hW187⟩
            · conv => whnf
              refine np_rd_i (hW165.g hi0) ?_
              conv => whnf
              refine pw_wr (a := 50) (i := i0) (d := upd (S163 50 i0) 2 ((S163 50 i0 2) + 1)) hW165 hi0 rfl h (fun S188 f189 hW190 h => ?_)
              conv => whnf
              exact ⟨Nat.le_of_ble_eq_true rfl, Nat.le_of_ble_eq_true rfl, rfl, _, fun _ _ h9 => h9, pw_ps h _ hW190⟩
          · conv => whnf
            refine np_rd_i (hW165.g hi0) ?_
            conv => whnf
            refine np_rd_i (hW165.g hi0) ?_
            conv => whnf
            refine pw_wr (a := 50) (i := i0) (d := upd (S163 50 i0) 3 (S163 50 i0 2)) hW165 hi0 rfl h (fun S191 f192 hW193 h => ?_)
            conv => whnf
            refine np_rd_i (hW193.g hi0) ?_
            conv => whnf
            refine pw_wr (a := 50) (i := i0) (d := upd (S191 50 i0) 4 z16) hW193 hi0 rfl h (fun S194 f195 hW196 h => ?_)
            conv => whnf
            refine np_rd_i (hW196.g hi0) ?_
            conv => whnf
            refine pw_wr (a := 50) (i := i0) (d := upd (S194 50 i0) 5 0) hW196 hi0 rfl h (fun S197 f198 hW199 h => ?_)
            conv => whnf
            refine np_rd_i (hW199.g hi0) ?_
            conv => whnf
            refine pw_br h (fun _ h => ?_) (fun _ h => ?_)
            · conv => whnf
              refine np_rd_i (hW199.g hi0) ?_
              conv => whnf
              refine np_rd_i (hW199.g hi1) ?_
              conv => whnf
              refine ⟨q, S197, i1, (S197 50 i0 2), rfl, hi1, hW199, pw_bd h (fun S200 r203 h f201 hW202 => ?_)⟩
              conv => whnf
              refine np_rd_i (hW202.g hi0) ?_
              conv => whnf
              refine pw_wr (a := 50) (i := i0) (d := upd (S200 50 i0) 2 ((S197 50 i0 2) + (1 + r203))) hW202 hi0 rfl h (fun S205 f206 hW207 h => ?_)
              conv => whnf
              exact ⟨Nat.le_of_ble_eq_true rfl, Nat.le_of_ble_eq_true rfl, rfl, _, fun _ _ h9 => h9, pw_ps h _ hW207⟩
            · conv => whnf
              refine np_rd_i (hW199.g hi0) ?_
              conv => whnf
              refine pw_wr (a := 50) (i := i0) (d := upd (S197 50 i0) 2 ((S197 50 i0 2) + 1)) hW199 hi0 rfl h (fun S208 f209 hW210 h => ?_)
              conv => whnf
              exact ⟨Nat.le_of_ble_eq_true rfl, Nat.le_of_ble_eq_true rfl, rfl, _, fun _ _ h9 => h9, pw_ps h _ hW210⟩
      · conv => whnf
        refine pw_st h (fun z211 h => ?_)
        conv => whnf
        refine pw_br h (fun _ h => ?_) (fun _ h => ?_)
        · conv => whnf
          refine np_rd_i (hW165.g hi0) ?_
          conv => whnf
          refine pw_br h (fun _ h => ?_) (fun _ h => ?_)
          · conv => whnf
            refine np_rd_i (hW165.g hi0) ?_
            conv => whnf
            refine np_rd_i (hW165.g hi1) ?_
            conv => whnf
            refine ⟨q, S163, i1, (S163 50 i0 2), rfl, hi1, hW165, pw_bd h (fun S212 r215 h f213 hW214 => ?_)⟩
            conv => whnf
            refine np_rd_i (hW214.g hi0) ?_
            conv => whnf
            refine pw_wr (a := 50) (i := i0) (d := upd (S212 50 i0) 2 ((S163 50 i0 2) + (1 + r215))) hW214 hi0 rfl h (fun S217 f218 hW219 h => ?_)
            conv => whnf
            exact ⟨Nat.le_of_ble_eq_true rfl, Nat.le_of_ble_eq_true rfl, rfl, _, fun _ _ h9 => h9, pw_ps h _ hW219⟩
          · conv => whnf
            refine np_rd_i (hW165.g hi0) ?_
            conv => whnf
            refine pw_wr (a := 50) (i := i0) (d := upd (S163 50 i0) 2 ((S163 50 i0 2) + 1)) hW165 hi0 rfl h (fun S220 f221 hW222 h => ?_)
            conv => whnf
            exact ⟨Nat.le_of_ble_eq_true rfl, Nat.le_of_ble_eq_true rfl, rfl, _, fun _ _ h9 => h9, pw_ps h _ hW222⟩
        · conv => whnf
          refine pw_br h (fun _ h => ?_) (fun _ h => ?_)
          · conv => whnf
            refine np_rd_i (hW165.g hi0) ?_
            conv => whnf
            refine pw_br h (fun _ h => ?_) (fun _ h => ?_)
            · conv => whnf
              refine np_rd_i (hW165.g hi0) ?_
              conv => whnf
              refine np_rd_i (hW165.g hi1) ?_
              conv => whnf
              refine ⟨q, S163, i1, (S163 50 i0 2), rfl, hi1, hW165, pw_bd h (fun S223 r226 h f224 hW225 => ?_)⟩
              conv => whnf
              refine np_rd_i (hW225.g hi0) ?_
              conv => whnf
              refine pw_wr (a := 50) (i := i0) (d := upd (S223 50 i0) 2 ((S163 50 i0 2) + (1 + r226))) hW225 hi0 rfl h (fun S228 f229 hW230 h => ?_)
              conv => whnf
              exact ⟨Nat.le_of_ble_eq_true rfl, Nat.le_of_ble_eq_true rfl, rfl, _, fun _ _ h9 => h9, pw_ps h _ hW230⟩
            · conv => whnf
              refine np_rd_i (hW165.g hi0) ?_
              conv => whnf
              refine pw_wr (a := 50) (i := i0) (d := upd (S163 50 i0) 2 ((S163 50 i0 2) + 1)) hW165 hi0 rfl h (fun S231 f232 hW233 h => ?_)
              conv => whnf
              exact ⟨Nat.le_of_ble_eq_true rfl, Nat.le_of_ble_eq_true rfl, rfl, _, fun _ _ h9 => h9, pw_ps h _ hW233⟩
          · conv => whnf
            refine np_rd_i (hW165.g hi0) ?_
            conv => whnf
            refine np_rd_i (hW165.g hi0) ?_
            conv => whnf
            refine pw_wr (a := 50) (i := i0) (d := upd (S163 50 i0) 3 (S163 50 i0 2)) hW165 hi0 rfl h (fun S234 f235 hW236 h => ?_)
            conv => whnf
            refine np_rd_i (hW236.g hi0) ?_
            conv => whnf
            refine pw_wr (a := 50) (i := i0) (d := upd (S234 50 i0) 4 z16) hW236 hi0 rfl h (fun S237 f238 hW239 h => ?_)
            conv => whnf
            refine np_rd_i (hW239.g hi0) ?_
            conv => whnf
            refine pw_wr (a := 50) (i := i0) (d := upd (S237 50 i0) 5 0) hW239 hi0 rfl h (fun S240 f241 hW242 h => ?_)
            conv => whnf
            refine np_rd_i (hW242.g hi0) ?_
            conv => whnf
            refine pw_br h (fun _ h => ?_) (fun _ h => ?_)
            · conv => whnf
              refine np_rd_i (hW242.g hi0) ?_
              conv => whnf
              refine np_rd_i (hW242.g hi1) ?_
              conv => whnf
              refine ⟨q, S240, i1, (S240 50 i0 2), rfl, hi1, hW242, pw_bd h (fun S243 r246 h f244 hW245 => ?_)⟩
              conv => whnf
              refine np_rd_i (hW245.g hi0) ?_
              conv => whnf
              refine pw_wr (a := 50) (i := i0) (d := upd (S243 50 i0) 2 ((S240 50 i0 2) + (1 + r246))) hW245 hi0 rfl h (fun S248 f249 hW250 h => ?_)
              conv => whnf
              exact ⟨Nat.le_of_ble_eq_true rfl, Nat.le_of_ble_eq_true rfl, rfl, _, fun _ _ h9 => h9, pw_ps h _ hW250⟩
            · conv => whnf
              refine np_rd_i (hW242.g hi0) ?_
              conv => whnf
              refine pw_wr (a := 50) (i := i0) (d := upd (S240 50 i0) 2 ((S240 50 i0 2) + 1)) hW242 hi0 rfl h (fun S251 f252 hW253 h => ?_)
              conv => whnf
              exact ⟨Nat.le_of_ble_eq_true rfl, Nat.le_of_ble_eq_true rfl, rfl, _, fun _ _ h9 => h9, pw_ps h _ hW253⟩
    · conv => whnf
      refine ⟨q, S17, z16, 1, 3, rfl, hW19, pw_bd h (fun S254 r257 h f255 hW256 => ?_)⟩
      conv => whnf
      refine pw_st h (fun z259 h => ?_)
      conv => whnf
      refine pw_br h (fun _ h => ?_) (fun _ h => ?_)
      · conv => whnf
        refine np_rd_i (hW256.g hi0) ?_
        conv => whnf
        refine pw_br h (fun _ h => ?_) (fun _ h => ?_)
        · conv => whnf
          refine np_rd_i (hW256.g hi0) ?_
          conv => whnf
          refine np_rd_i (hW256.g hi1) ?_
          conv => whnf
          refine ⟨q, S254, i1, (S254 50 i0 2), rfl, hi1, hW256, pw_bd h (fun S260 r263 h f261 hW262 => ?_)⟩
          conv => whnf
          refine np_rd_i (hW262.g hi0) ?_
          conv => whnf
          refine pw_wr (a := 50) (i := i0) (d := upd (S260 50 i0) 2 ((S254 50 i0 2) + (1 + r263))) hW262 hi0 rfl h (fun S265 f266 hW267 h => ?_)
          conv => whnf
          exact ⟨Nat.le_of_ble_eq_true rfl, Nat.le_of_ble_eq_true rfl, rfl, _, fun _ _ h9 => h9, pw_ps h _ hW267⟩
        · conv => whnf
          refine np_rd_i (hW256.g hi0) ?_
          conv => whnf
          refine pw_wr (a := 50) (i := i0) (d := upd (S254 50 i0) 2 ((S254 50 i0 2) + 1)) hW256 hi0 rfl h (fun S268 f269 hW270 h => ?_)
          conv => whnf
          exact ⟨Nat.le_of_ble_eq_true rfl, Nat.le_of_ble_eq_true rfl, rfl, _, fun _ _ h9 => h9, pw_ps h _ hW270⟩
      · conv => whnf
        refine pw_br h (fun _ h => ?_) (fun _ h => ?_)
        · conv => whnf
          refine np_rd_i (hW256.g hi0) ?_
          conv => whnf
          refine pw_br h (fun _ h => ?_) (fun _ h => ?_)
          · conv => whnf
            refine np_rd_i (hW256.g hi0) ?_
            conv => whnf
            refine np_rd_i (hW256.g hi1) ?_
            conv => whnf
            refine ⟨q, S254, i1, (S254 50 i0 2), rfl, hi1, hW256, pw_bd h (fun S271 r274 h f272 hW273 => ?_)⟩
            conv => whnf
            refine np_rd_i (hW273.g hi0) ?_
            conv => whnf
            refine pw_wr (a := 50) (i := i0) (d := upd (S271 50 i0) 2 ((S254 50 i0 2) + (1 + r274))) hW273 hi0 rfl h (fun S276 f277 hW278 h => ?_)
            conv => whnf
            exact ⟨Nat.le_of_ble_eq_true rfl, Nat.le_of_ble_eq_true rfl, rfl, _, fun _ _ h9 => h9, pw_ps h _ hW278⟩
          · conv => whnf
            refine np_rd_i (hW256.g hi0) ?_
            conv => whnf
            refine pw_wr (a := 50) (i := i0) (d := upd (S254 50 i0) 2 ((S254 50 i0 2) + 1)) hW256 hi0 rfl h (fun S279 f280 hW281 h => ?_)
            conv => whnf
            exact ⟨Nat.le_of_ble_eq_true rfl, Nat.le_of_ble_eq_true rfl, rfl, _, fun _ _ h9 => h9, pw_ps h _ hW281⟩
        · conv => whnf
          refine np_rd_i (hW256.g hi0) ?_
          conv => whnf
          refine np_rd_i (hW256.g hi0) ?_
          conv => whnf
          refine pw_wr (a := 50) (i := i0) (d := upd (S254 50 i0) 3 (S254 50 i0 2)) hW256 hi0 rfl h (fun S282 f283 hW284 h => ?_)
          conv => whnf
          refine np_rd_i (hW284.g hi0) ?_
          conv => whnf
          refine pw_wr (a := 50) (i := i0) (d := upd (S282 50 i0) 4 z16) hW284 hi0 rfl h (fun S285 f286 hW287 h => ?_)
          conv => whnf
          refine np_rd_i (hW287.g hi0) ?_
          conv => whnf
          refine pw_wr (a := 50) (i := i0) (d := upd (S285 50 i0) 5 0) hW287 hi0 rfl h (fun S288 f289 hW290 h => ?_)
          conv => whnf
          refine np_rd_i (hW290.g hi0) ?_
          conv => whnf
          refine pw_br h (fun _ h => ?_) (fun _ h => ?_)
          · conv => whnf
            refine np_rd_i (hW290.g hi0) ?_
            conv => whnf
            refine np_rd_i (hW290.g hi1) ?_
            conv => whnf
            refine ⟨q, S288, i1, (S288 50 i0 2), rfl, hi1, hW290, pw_bd h (fun S291 r294 h f292 hW293 => ?_)⟩
            conv => whnf
            refine np_rd_i (hW293.g hi0) ?_
            conv => whnf
            refine pw_wr (a := 50) (i := i0) (d := upd (S291 50 i0) 2 ((S288 50 i0 2) + (1 + r294))) hW293 hi0 rfl h (fun S296 f297 hW298 h => ?_)
            conv => whnf
            exact ⟨Nat.le_of_ble_eq_true rfl, Nat.le_of_ble_eq_true rfl, rfl, _, fun _ _ h9 => h9, pw_ps h _ hW298⟩
          · conv => whnf
            refine np_rd_i (hW290.g hi0) ?_
            conv => whnf
            refine pw_wr (a := 50) (i := i0) (d := upd (S288 50 i0) 2 ((S288 50 i0 2) + 1)) hW290 hi0 rfl h (fun S299 f300 hW301 h => ?_)
            conv => whnf
            exact ⟨Nat.le_of_ble_eq_true rfl, Nat.le_of_ble_eq_true rfl, rfl, _, fun _ _ h9 => h9, pw_ps h _ hW301⟩
theorem dX8_startOf_0 : decode cX8_startOf 0 = .ok (.aload_n 0, 1) := by decide +kernel
theorem dX8_startOf_1 : decode cX8_startOf 1 = .ok (.getfield 19, 3) := by decide +kernel
theorem dX8_startOf_4 : decode cX8_startOf 4 = .ok (.iload_n 1, 1) := by decide +kernel
theorem dX8_startOf_5 : decode cX8_startOf 5 = .ok (.iconst (-1), 1) := by decide +kernel
theorem dX8_startOf_6 : decode cX8_startOf 6 = .ok (.invokestatic 77, 3) := by decide +kernel
theorem dX8_startOf_9 : decode cX8_startOf 9 = .ok (.ireturn, 1) := by decide +kernel
def is_X8_startOf (Rt : np_Rt) : List (Nat × np_Op) := [(0, np_ald 1 0), (1, nw_getf 8 1), (4, np_ild 1 1), (5, np_push 1 (.int (-1))), (6, nq_call 3 sp_X11_at 3 0 0 0 0), (9, np_ret Rt)]
set_option maxRecDepth 20000 in
theorem so_X8_startOf {X : np_Ctx} {Rt : np_Rt} (hX : np_ok RX8 cX8_startOf 2 1 22 0 0 .ireturn X) (hR : ∀ st w ce sl, Rt st w ce sl → X.2.2.1 st w ce sl) : ∀ q ∈ is_X8_startOf Rt, np_S X q.1 q.2 :=
  List.forall_mem_cons.mpr ⟨np_s_aload_n hX dX8_startOf_0 rfl, List.forall_mem_cons.mpr ⟨np_S.mono (op := np_getf 8 1) (np_s_getf hX dX8_startOf_1 (C := RX8) (T := TX8) (N := 9) rfl guX8 (by decide) gw148) nw_getf_le, List.forall_mem_cons.mpr ⟨np_s_iload_n hX dX8_startOf_4 rfl, List.forall_mem_cons.mpr ⟨np_s_iconst hX dX8_startOf_5 (by decide), List.forall_mem_cons.mpr ⟨np_S.mono (op := np_call 3 sp_X11_at 3 0 0 0 0) (np_s_callSN hX C_X11_at dX8_startOf_6 gw653 gw63 gw767 gw652 ⟨by decide, by decide, by decide⟩ (by decide) (by decide)) nq_call_le, List.forall_mem_cons.mpr ⟨np_S.mono (op := np_ret X.2.2.1) (np_s_ret hX dX8_startOf_9) (nq_ret_le hR), fun _ h => nomatch h⟩⟩⟩⟩⟩⟩
noncomputable def m_X8_startOf (S : pw_S) (i0 : Nat) (x1 : Int32) : pw_R Int32 :=
 pw_b (m_X11_at S 1 i0 x1 (-1)) fun S1 r4 =>
 some (S1, r4)
def sp_X8_startOf : np_Sp := fun vs w Q => ∃ (q : Nat) (S : pw_S) (i0 : Nat) (x1 : Int32), vs = [.ref (pw_pl 50 i0), .int x1] ∧ pw_ok q 50 i0 = true ∧ pw_W q w S ∧ pw_p (m_X8_startOf S i0 x1) (fun S' r => ∀ f', pw_W q (w.1, f') S' → Q (some (.int r)) (w.1, f'))
set_option maxRecDepth 100000 in
set_option maxHeartbeats 8000000 in
theorem C_X8_startOf : np_C yX8_startOf cX8_startOf 2 (some .int) 1 22 0 0 sp_X8_startOf := by
  refine np_of (by decide) ?_
  intro X vs w Q hsp hX hmn hRt hlt
  obtain ⟨q, S, i0, x1, rfl, hi0, hW, h⟩ := hsp
  obtain ⟨n, f⟩ := w
  unfold m_X8_startOf at h
  have hR : ∀ st w ce sl, np_rt (some .int) 0 0 Q st w ce sl → X.2.2.1 st w ce sl := fun _ _ _ _ h => by rw [hRt]; exact h
  refine np_soundW (so_X8_startOf hX hR) [] 400 0 _ _ _ _ _ ?_
  conv => whnf
  refine np_rd_i (hW.g hi0) ?_
  conv => whnf
  refine ⟨q, S, 1, i0, x1, (-1), rfl, rfl, hi0, hW, pw_bd h (fun S1 r4 h f2 hW3 => ?_)⟩
  conv => whnf
  exact ⟨Nat.le_of_ble_eq_true rfl, Nat.le_of_ble_eq_true rfl, ⟨_, rfl⟩, _, fun _ _ h9 => h9, pw_ps h _ hW3⟩
theorem dX8_begin_0 : decode cX8_begin 0 = .ok (.aload_n 0, 1) := by decide +kernel
theorem dX8_begin_1 : decode cX8_begin 1 = .ok (.iload_n 1, 1) := by decide +kernel
theorem dX8_begin_2 : decode cX8_begin 2 = .ok (.invokevirtual 73, 3) := by decide +kernel
theorem dX8_begin_5 : decode cX8_begin 5 = .ok (.ifCond .ge 15, 3) := by decide +kernel
theorem dX8_begin_8 : decode cX8_begin 8 = .ok (.aload_n 0, 1) := by decide +kernel
theorem dX8_begin_9 : decode cX8_begin 9 = .ok (.getfield 19, 3) := by decide +kernel
theorem dX8_begin_12 : decode cX8_begin 12 = .ok (.iload_n 1, 1) := by decide +kernel
theorem dX8_begin_13 : decode cX8_begin 13 = .ok (.aload_n 0, 1) := by decide +kernel
theorem dX8_begin_14 : decode cX8_begin 14 = .ok (.getfield 34, 3) := by decide +kernel
theorem dX8_begin_17 : decode cX8_begin 17 = .ok (.invokestatic 69, 3) := by decide +kernel
theorem dX8_begin_20 : decode cX8_begin 20 = .ok (.return_, 1) := by decide +kernel
def is_X8_begin (Rt : np_Rt) : List (Nat × np_Op) := [(0, np_ald 1 0), (1, np_ild 1 1), (2, nw_callV 8 2 sp_X8_startOf 2 0 0 0 0), (5, nq_if (fun x => 0 ≤ x) 20), (8, np_ald 1 0), (9, nw_getf 8 1), (12, np_ild 1 1), (13, np_ald 1 0), (14, nw_getf 8 6), (17, nq_call 3 sp_X11_put 3 0 0 0 0), (20, np_ret Rt)]
set_option maxRecDepth 20000 in
theorem so_X8_begin {X : np_Ctx} {Rt : np_Rt} (hX : np_ok RX8 cX8_begin 2 2 43 0 0 .return_ X) (hR : ∀ st w ce sl, Rt st w ce sl → X.2.2.1 st w ce sl) : ∀ q ∈ is_X8_begin Rt, np_S X q.1 q.2 :=
  List.forall_mem_cons.mpr ⟨np_s_aload_n hX dX8_begin_0 rfl, List.forall_mem_cons.mpr ⟨np_s_iload_n hX dX8_begin_1 rfl, List.forall_mem_cons.mpr ⟨np_S.mono (op := np_callV 8 2 sp_X8_startOf 2 0 0 0 0) (np_s_callV hX C_X8_startOf dX8_begin_2 (q := (RX8, TX8, 9)) rfl rfl gw813 gw66 gw810 gw811 gw812 ⟨by decide, by decide, by decide⟩ (by decide) (by decide)) nw_callV_le, List.forall_mem_cons.mpr ⟨np_S.mono (op := np_if (fun x => 0 ≤ x) 20) (np_s_if_ge hX dX8_begin_5 (by decide)) nq_if_le, List.forall_mem_cons.mpr ⟨np_s_aload_n hX dX8_begin_8 rfl, List.forall_mem_cons.mpr ⟨np_S.mono (op := np_getf 8 1) (np_s_getf hX dX8_begin_9 (C := RX8) (T := TX8) (N := 9) rfl guX8 (by decide) gw148) nw_getf_le, List.forall_mem_cons.mpr ⟨np_s_iload_n hX dX8_begin_12 rfl, List.forall_mem_cons.mpr ⟨np_s_aload_n hX dX8_begin_13 rfl, List.forall_mem_cons.mpr ⟨np_S.mono (op := np_getf 8 6) (np_s_getf hX dX8_begin_14 (C := RX8) (T := TX8) (N := 9) rfl guX8 (by decide) gw158) nw_getf_le, List.forall_mem_cons.mpr ⟨np_S.mono (op := np_call 3 sp_X11_put 3 0 0 0 0) (np_s_callSN hX C_X11_put dX8_begin_17 gw632 gw63 gw814 gw631 ⟨by decide, by decide, by decide⟩ (by decide) (by decide)) nq_call_le, List.forall_mem_cons.mpr ⟨np_S.mono (op := np_ret X.2.2.1) (np_s_ret hX dX8_begin_20) (nq_ret_le hR), fun _ h => nomatch h⟩⟩⟩⟩⟩⟩⟩⟩⟩⟩⟩
noncomputable def m_X8_begin (S : pw_S) (i0 : Nat) (x1 : Int32) : pw_R Unit :=
 pw_b (m_X8_startOf S i0 x1) fun S1 r4 =>
 if 0 ≤ r4 then
 (some (S1, ()))
 else
 (pw_b (m_X11_put S1 1 i0 x1 (S1 50 i0 6)) fun S6 r9 =>
 some (S6, ()))
def sp_X8_begin : np_Sp := fun vs w Q => ∃ (q : Nat) (S : pw_S) (i0 : Nat) (x1 : Int32), vs = [.ref (pw_pl 50 i0), .int x1] ∧ pw_ok q 50 i0 = true ∧ pw_W q w S ∧ pw_p (m_X8_begin S i0 x1) (fun S' r => ∀ f', pw_W q (w.1, f') S' → Q none (w.1, f'))
set_option maxRecDepth 100000 in
set_option maxHeartbeats 8000000 in
theorem C_X8_begin : np_C yX8_begin cX8_begin 2 none 2 43 0 0 sp_X8_begin := by
  refine np_of (by decide) ?_
  intro X vs w Q hsp hX hmn hRt hlt
  obtain ⟨q, S, i0, x1, rfl, hi0, hW, h⟩ := hsp
  obtain ⟨n, f⟩ := w
  unfold m_X8_begin at h
  have hR : ∀ st w ce sl, np_rt none 0 0 Q st w ce sl → X.2.2.1 st w ce sl := fun _ _ _ _ h => by rw [hRt]; exact h
  refine np_soundW (so_X8_begin hX hR) [] 400 0 _ _ _ _ _ ?_
  conv => whnf
  refine np_rd_i (hW.g hi0) ?_
  conv => whnf
  refine ⟨q, S, i0, x1, rfl, hi0, hW, pw_bd h (fun S1 r4 h f2 hW3 => ?_)⟩
  conv => whnf
  refine pw_br h (fun _ h => ?_) (fun _ h => ?_)
  · conv => whnf
    exact ⟨Nat.le_of_ble_eq_true rfl, Nat.le_of_ble_eq_true rfl, rfl, _, fun _ _ h9 => h9, pw_ps h _ hW3⟩
  · conv => whnf
    refine np_rd_i (hW3.g hi0) ?_
    conv => whnf
    refine np_rd_i (hW3.g hi0) ?_
    conv => whnf
    refine ⟨q, S1, 1, i0, x1, (S1 50 i0 6), rfl, rfl, hi0, hW3, pw_bd h (fun S6 r9 h f7 hW8 => ?_)⟩
    conv => whnf
    exact ⟨Nat.le_of_ble_eq_true rfl, Nat.le_of_ble_eq_true rfl, rfl, _, fun _ _ h9 => h9, pw_ps h _ hW8⟩
theorem dX11_isCell_0 : decode cX11_isCell 0 = .ok (.iload_n 0, 1) := by decide +kernel
theorem dX11_isCell_1 : decode cX11_isCell 1 = .ok (.invokestatic 93, 3) := by decide +kernel
theorem dX11_isCell_4 : decode cX11_isCell 4 = .ok (.ifCond .eq 16, 3) := by decide +kernel
theorem dX11_isCell_7 : decode cX11_isCell 7 = .ok (.iload_n 1, 1) := by decide +kernel
theorem dX11_isCell_8 : decode cX11_isCell 8 = .ok (.ifCond .lt 12, 3) := by decide +kernel
theorem dX11_isCell_11 : decode cX11_isCell 11 = .ok (.iload_n 1, 1) := by decide +kernel
theorem dX11_isCell_12 : decode cX11_isCell 12 = .ok (.iconst 3, 1) := by decide +kernel
theorem dX11_isCell_13 : decode cX11_isCell 13 = .ok (.if_icmp .ge 7, 3) := by decide +kernel
theorem dX11_isCell_16 : decode cX11_isCell 16 = .ok (.iconst 1, 1) := by decide +kernel
theorem dX11_isCell_17 : decode cX11_isCell 17 = .ok (.goto 4, 3) := by decide +kernel
theorem dX11_isCell_20 : decode cX11_isCell 20 = .ok (.iconst 0, 1) := by decide +kernel
theorem dX11_isCell_21 : decode cX11_isCell 21 = .ok (.ireturn, 1) := by decide +kernel
def is_X11_isCell (Rt : np_Rt) : List (Nat × np_Op) := [(0, np_ild 1 0), (1, nq_call 1 sp_X11_isSlot 1 0 0 0 0), (4, nq_if (fun x => x = 0) 20), (7, np_ild 1 1), (8, nq_if (fun x => x < 0) 20), (11, np_ild 1 1), (12, np_push 1 (.int 3)), (13, nq_ic (fun x y => y ≤ x) 20), (16, np_push 1 (.int 1)), (17, np_goto 21), (20, np_push 1 (.int 0)), (21, np_ret Rt)]
set_option maxRecDepth 20000 in
theorem so_X11_isCell {X : np_Ctx} {Rt : np_Rt} (hX : np_ok RX11 cX11_isCell 2 1 20 0 0 .ireturn X) (hR : ∀ st w ce sl, Rt st w ce sl → X.2.2.1 st w ce sl) : ∀ q ∈ is_X11_isCell Rt, np_S X q.1 q.2 :=
  List.forall_mem_cons.mpr ⟨np_s_iload_n hX dX11_isCell_0 rfl, List.forall_mem_cons.mpr ⟨np_S.mono (op := np_call 1 sp_X11_isSlot 1 0 0 0 0) (np_s_callS hX C_X11_isSlot dX11_isCell_1 gw515 gw63 gw513 gw514 ⟨by decide, by decide, by decide⟩ (by decide) (by decide)) nq_call_le, List.forall_mem_cons.mpr ⟨np_S.mono (op := np_if (fun x => x = 0) 20) (np_s_if_eq hX dX11_isCell_4 (by decide)) nq_if_le, List.forall_mem_cons.mpr ⟨np_s_iload_n hX dX11_isCell_7 rfl, List.forall_mem_cons.mpr ⟨np_S.mono (op := np_if (fun x => x < 0) 20) (np_s_if_lt hX dX11_isCell_8 (by decide)) nq_if_le, List.forall_mem_cons.mpr ⟨np_s_iload_n hX dX11_isCell_11 rfl, List.forall_mem_cons.mpr ⟨np_s_iconst hX dX11_isCell_12 (by decide), List.forall_mem_cons.mpr ⟨np_S.mono (op := np_ic (fun x y => y ≤ x) 20) (np_s_icmp_ge hX dX11_isCell_13 (by decide)) nq_ic_le, List.forall_mem_cons.mpr ⟨np_s_iconst hX dX11_isCell_16 (by decide), List.forall_mem_cons.mpr ⟨np_s_goto hX dX11_isCell_17 (by decide), List.forall_mem_cons.mpr ⟨np_s_iconst hX dX11_isCell_20 (by decide), List.forall_mem_cons.mpr ⟨np_S.mono (op := np_ret X.2.2.1) (np_s_ret hX dX11_isCell_21) (nq_ret_le hR), fun _ h => nomatch h⟩⟩⟩⟩⟩⟩⟩⟩⟩⟩⟩⟩
noncomputable def m_X11_isCell (S : pw_S) (x0 : Int32) (x1 : Int32) : pw_R Int32 :=
 pw_b (m_X11_isSlot S x0) fun S1 r4 =>
 if r4 = 0 then
 (some (S1, 0))
 else
 (if x1 < 0 then
 (some (S1, 0))
 else
 (if 3 ≤ x1 then
 (some (S1, 0))
 else
 (some (S1, 1))))
def sp_X11_isCell : np_Sp := fun vs w Q => ∃ (q : Nat) (S : pw_S) (x0 : Int32) (x1 : Int32), vs = [.int x0, .int x1] ∧ pw_W q w S ∧ pw_p (m_X11_isCell S x0 x1) (fun S' r => ∀ f', pw_W q (w.1, f') S' → Q (some (.int r)) (w.1, f'))
set_option maxRecDepth 100000 in
set_option maxHeartbeats 8000000 in
theorem C_X11_isCell : np_C yX11_isCell cX11_isCell 2 (some .boolean) 1 20 0 0 sp_X11_isCell := by
  refine np_of (by decide) ?_
  intro X vs w Q hsp hX hmn hRt hlt
  obtain ⟨q, S, x0, x1, rfl, hW, h⟩ := hsp
  obtain ⟨n, f⟩ := w
  unfold m_X11_isCell at h
  have hR : ∀ st w ce sl, np_rt (some .boolean) 0 0 Q st w ce sl → X.2.2.1 st w ce sl := fun _ _ _ _ h => by rw [hRt]; exact h
  refine np_soundW (so_X11_isCell hX hR) [] 400 0 _ _ _ _ _ ?_
  conv => whnf
  refine ⟨q, S, x0, rfl, hW, pw_bd h (fun S1 r4 h f2 hW3 => ?_)⟩
  conv => whnf
  refine pw_br h (fun _ h => ?_) (fun _ h => ?_)
  · conv => whnf
    exact ⟨Nat.le_of_ble_eq_true rfl, Nat.le_of_ble_eq_true rfl, ⟨_, rfl, by decide⟩, _, fun _ _ h9 => h9, pw_ps h _ hW3⟩
  · conv => whnf
    refine pw_br h (fun _ h => ?_) (fun _ h => ?_)
    · conv => whnf
      exact ⟨Nat.le_of_ble_eq_true rfl, Nat.le_of_ble_eq_true rfl, ⟨_, rfl, by decide⟩, _, fun _ _ h9 => h9, pw_ps h _ hW3⟩
    · conv => whnf
      refine pw_br h (fun _ h => ?_) (fun _ h => ?_)
      · conv => whnf
        exact ⟨Nat.le_of_ble_eq_true rfl, Nat.le_of_ble_eq_true rfl, ⟨_, rfl, by decide⟩, _, fun _ _ h9 => h9, pw_ps h _ hW3⟩
      · conv => whnf
        exact ⟨Nat.le_of_ble_eq_true rfl, Nat.le_of_ble_eq_true rfl, ⟨_, rfl, by decide⟩, _, fun _ _ h9 => h9, pw_ps h _ hW3⟩
theorem dX8_keep_0 : decode cX8_keep 0 = .ok (.iload_n 1, 1) := by decide +kernel
theorem dX8_keep_1 : decode cX8_keep 1 = .ok (.aload_n 0, 1) := by decide +kernel
theorem dX8_keep_2 : decode cX8_keep 2 = .ok (.getfield 53, 3) := by decide +kernel
theorem dX8_keep_5 : decode cX8_keep 5 = .ok (.invokestatic 61, 3) := by decide +kernel
theorem dX8_keep_8 : decode cX8_keep 8 = .ok (.ifCond .eq 19, 3) := by decide +kernel
theorem dX8_keep_11 : decode cX8_keep 11 = .ok (.aload_n 0, 1) := by decide +kernel
theorem dX8_keep_12 : decode cX8_keep 12 = .ok (.getfield 13, 3) := by decide +kernel
theorem dX8_keep_15 : decode cX8_keep 15 = .ok (.iload_n 1, 1) := by decide +kernel
theorem dX8_keep_16 : decode cX8_keep 16 = .ok (.aload_n 0, 1) := by decide +kernel
theorem dX8_keep_17 : decode cX8_keep 17 = .ok (.getfield 53, 3) := by decide +kernel
theorem dX8_keep_20 : decode cX8_keep 20 = .ok (.invokestatic 65, 3) := by decide +kernel
theorem dX8_keep_23 : decode cX8_keep 23 = .ok (.iload_n 2, 1) := by decide +kernel
theorem dX8_keep_24 : decode cX8_keep 24 = .ok (.invokestatic 69, 3) := by decide +kernel
theorem dX8_keep_27 : decode cX8_keep 27 = .ok (.return_, 1) := by decide +kernel
def is_X8_keep (Rt : np_Rt) : List (Nat × np_Op) := [(0, np_ild 1 1), (1, np_ald 1 0), (2, nw_getf 8 5), (5, nq_call 2 sp_X11_isCell 2 0 0 0 0), (8, nq_if (fun x => x = 0) 27), (11, np_ald 1 0), (12, nw_getf 8 0), (15, np_ild 1 1), (16, np_ald 1 0), (17, nw_getf 8 5), (20, nq_call 2 sp_X11_cellPlace 2 0 0 0 0), (23, np_ild 1 2), (24, nq_call 3 sp_X11_put 3 0 0 0 0), (27, np_ret Rt)]
set_option maxRecDepth 20000 in
theorem so_X8_keep {X : np_Ctx} {Rt : np_Rt} (hX : np_ok RX8 cX8_keep 3 2 41 0 0 .return_ X) (hR : ∀ st w ce sl, Rt st w ce sl → X.2.2.1 st w ce sl) : ∀ q ∈ is_X8_keep Rt, np_S X q.1 q.2 :=
  List.forall_mem_cons.mpr ⟨np_s_iload_n hX dX8_keep_0 rfl, List.forall_mem_cons.mpr ⟨np_s_aload_n hX dX8_keep_1 rfl, List.forall_mem_cons.mpr ⟨np_S.mono (op := np_getf 8 5) (np_s_getf hX dX8_keep_2 (C := RX8) (T := TX8) (N := 9) rfl guX8 (by decide) gw155) nw_getf_le, List.forall_mem_cons.mpr ⟨np_S.mono (op := np_call 2 sp_X11_isCell 2 0 0 0 0) (np_s_callSN hX C_X11_isCell dX8_keep_5 gw721 gw63 gw819 gw720 ⟨by decide, by decide, by decide⟩ (by decide) (by decide)) nq_call_le, List.forall_mem_cons.mpr ⟨np_S.mono (op := np_if (fun x => x = 0) 27) (np_s_if_eq hX dX8_keep_8 (by decide)) nq_if_le, List.forall_mem_cons.mpr ⟨np_s_aload_n hX dX8_keep_11 rfl, List.forall_mem_cons.mpr ⟨np_S.mono (op := np_getf 8 0) (np_s_getf hX dX8_keep_12 (C := RX8) (T := TX8) (N := 9) rfl guX8 (by decide) gw145) nw_getf_le, List.forall_mem_cons.mpr ⟨np_s_iload_n hX dX8_keep_15 rfl, List.forall_mem_cons.mpr ⟨np_s_aload_n hX dX8_keep_16 rfl, List.forall_mem_cons.mpr ⟨np_S.mono (op := np_getf 8 5) (np_s_getf hX dX8_keep_17 (C := RX8) (T := TX8) (N := 9) rfl guX8 (by decide) gw155) nw_getf_le, List.forall_mem_cons.mpr ⟨np_S.mono (op := np_call 2 sp_X11_cellPlace 2 0 0 0 0) (np_s_callSN hX C_X11_cellPlace dX8_keep_20 gw725 gw63 gw766 gw724 ⟨by decide, by decide, by decide⟩ (by decide) (by decide)) nq_call_le, List.forall_mem_cons.mpr ⟨np_s_iload_n hX dX8_keep_23 rfl, List.forall_mem_cons.mpr ⟨np_S.mono (op := np_call 3 sp_X11_put 3 0 0 0 0) (np_s_callSN hX C_X11_put dX8_keep_24 gw632 gw63 gw814 gw631 ⟨by decide, by decide, by decide⟩ (by decide) (by decide)) nq_call_le, List.forall_mem_cons.mpr ⟨np_S.mono (op := np_ret X.2.2.1) (np_s_ret hX dX8_keep_27) (nq_ret_le hR), fun _ h => nomatch h⟩⟩⟩⟩⟩⟩⟩⟩⟩⟩⟩⟩⟩⟩
noncomputable def m_X8_keep (S : pw_S) (i0 : Nat) (x1 : Int32) (x2 : Int32) : pw_R Unit :=
 pw_b (m_X11_isCell S x1 (S 50 i0 5)) fun S1 r4 =>
 if r4 = 0 then
 (some (S1, ()))
 else
 (pw_b (m_X11_cellPlace S1 x1 (S1 50 i0 5)) fun S6 r9 =>
 pw_b (m_X11_put S6 0 i0 r9 x2) fun S11 r14 =>
 some (S11, ()))
def sp_X8_keep : np_Sp := fun vs w Q => ∃ (q : Nat) (S : pw_S) (i0 : Nat) (x1 : Int32) (x2 : Int32), vs = [.ref (pw_pl 50 i0), .int x1, .int x2] ∧ pw_ok q 50 i0 = true ∧ pw_W q w S ∧ pw_p (m_X8_keep S i0 x1 x2) (fun S' r => ∀ f', pw_W q (w.1, f') S' → Q none (w.1, f'))
set_option maxRecDepth 100000 in
set_option maxHeartbeats 8000000 in
theorem C_X8_keep : np_C yX8_keep cX8_keep 3 none 2 41 0 0 sp_X8_keep := by
  refine np_of (by decide) ?_
  intro X vs w Q hsp hX hmn hRt hlt
  obtain ⟨q, S, i0, x1, x2, rfl, hi0, hW, h⟩ := hsp
  obtain ⟨n, f⟩ := w
  unfold m_X8_keep at h
  have hR : ∀ st w ce sl, np_rt none 0 0 Q st w ce sl → X.2.2.1 st w ce sl := fun _ _ _ _ h => by rw [hRt]; exact h
  refine np_soundW (so_X8_keep hX hR) [] 400 0 _ _ _ _ _ ?_
  conv => whnf
  refine np_rd_i (hW.g hi0) ?_
  conv => whnf
  refine ⟨q, S, x1, (S 50 i0 5), rfl, hW, pw_bd h (fun S1 r4 h f2 hW3 => ?_)⟩
  conv => whnf
  refine pw_br h (fun _ h => ?_) (fun _ h => ?_)
  · conv => whnf
    exact ⟨Nat.le_of_ble_eq_true rfl, Nat.le_of_ble_eq_true rfl, rfl, _, fun _ _ h9 => h9, pw_ps h _ hW3⟩
  · conv => whnf
    refine np_rd_i (hW3.g hi0) ?_
    conv => whnf
    refine np_rd_i (hW3.g hi0) ?_
    conv => whnf
    refine ⟨q, S1, x1, (S1 50 i0 5), rfl, hW3, pw_bd h (fun S6 r9 h f7 hW8 => ?_)⟩
    conv => whnf
    refine ⟨q, S6, 0, i0, r9, x2, rfl, rfl, hi0, hW8, pw_bd h (fun S11 r14 h f12 hW13 => ?_)⟩
    conv => whnf
    exact ⟨Nat.le_of_ble_eq_true rfl, Nat.le_of_ble_eq_true rfl, rfl, _, fun _ _ h9 => h9, pw_ps h _ hW13⟩
theorem dX11_fillOfNumber_0 : decode cX11_fillOfNumber 0 = .ok (.iload_n 0, 1) := by decide +kernel
theorem dX11_fillOfNumber_1 : decode cX11_fillOfNumber 1 = .ok (.iconst 3, 1) := by decide +kernel
theorem dX11_fillOfNumber_2 : decode cX11_fillOfNumber 2 = .ok (.irem, 1) := by decide +kernel
theorem dX11_fillOfNumber_3 : decode cX11_fillOfNumber 3 = .ok (.ifCond .ne 8, 3) := by decide +kernel
theorem dX11_fillOfNumber_6 : decode cX11_fillOfNumber 6 = .ok (.bipush 32, 2) := by decide +kernel
theorem dX11_fillOfNumber_8 : decode cX11_fillOfNumber 8 = .ok (.goto 17, 3) := by decide +kernel
theorem dX11_fillOfNumber_11 : decode cX11_fillOfNumber 11 = .ok (.iload_n 0, 1) := by decide +kernel
theorem dX11_fillOfNumber_12 : decode cX11_fillOfNumber 12 = .ok (.iconst 3, 1) := by decide +kernel
theorem dX11_fillOfNumber_13 : decode cX11_fillOfNumber 13 = .ok (.irem, 1) := by decide +kernel
theorem dX11_fillOfNumber_14 : decode cX11_fillOfNumber 14 = .ok (.iconst 1, 1) := by decide +kernel
theorem dX11_fillOfNumber_15 : decode cX11_fillOfNumber 15 = .ok (.if_icmp .ne 8, 3) := by decide +kernel
theorem dX11_fillOfNumber_18 : decode cX11_fillOfNumber 18 = .ok (.bipush 48, 2) := by decide +kernel
theorem dX11_fillOfNumber_20 : decode cX11_fillOfNumber 20 = .ok (.goto 5, 3) := by decide +kernel
theorem dX11_fillOfNumber_23 : decode cX11_fillOfNumber 23 = .ok (.bipush 42, 2) := by decide +kernel
theorem dX11_fillOfNumber_25 : decode cX11_fillOfNumber 25 = .ok (.ireturn, 1) := by decide +kernel
def is_X11_fillOfNumber (Rt : np_Rt) : List (Nat × np_Op) := [(0, np_ild 1 0), (1, np_push 1 (.int 3)), (2, nq_ibn (fun x y => x - x / y * y)), (3, nq_ifne 11), (6, np_push 2 (.int 32)), (8, np_goto 25), (11, np_ild 1 0), (12, np_push 1 (.int 3)), (13, nq_ibn (fun x y => x - x / y * y)), (14, np_push 1 (.int 1)), (15, nq_icne 23), (18, np_push 2 (.int 48)), (20, np_goto 25), (23, np_push 2 (.int 42)), (25, np_ret Rt)]
set_option maxRecDepth 20000 in
theorem so_X11_fillOfNumber {X : np_Ctx} {Rt : np_Rt} (hX : np_ok RX11 cX11_fillOfNumber 1 0 0 0 0 .ireturn X) (hR : ∀ st w ce sl, Rt st w ce sl → X.2.2.1 st w ce sl) : ∀ q ∈ is_X11_fillOfNumber Rt, np_S X q.1 q.2 :=
  List.forall_mem_cons.mpr ⟨np_s_iload_n hX dX11_fillOfNumber_0 rfl, List.forall_mem_cons.mpr ⟨np_s_iconst hX dX11_fillOfNumber_1 (by decide), List.forall_mem_cons.mpr ⟨np_S.mono (op := np_ibn (fun x y => x - x / y * y)) (np_s_irem hX dX11_fillOfNumber_2) nq_ibn_le, List.forall_mem_cons.mpr ⟨np_S.mono (op := np_ifne 11) (np_s_if_ne hX dX11_fillOfNumber_3 (by decide)) nq_ifne_le, List.forall_mem_cons.mpr ⟨np_s_bipush hX dX11_fillOfNumber_6 (by decide), List.forall_mem_cons.mpr ⟨np_s_goto hX dX11_fillOfNumber_8 (by decide), List.forall_mem_cons.mpr ⟨np_s_iload_n hX dX11_fillOfNumber_11 rfl, List.forall_mem_cons.mpr ⟨np_s_iconst hX dX11_fillOfNumber_12 (by decide), List.forall_mem_cons.mpr ⟨np_S.mono (op := np_ibn (fun x y => x - x / y * y)) (np_s_irem hX dX11_fillOfNumber_13) nq_ibn_le, List.forall_mem_cons.mpr ⟨np_s_iconst hX dX11_fillOfNumber_14 (by decide), List.forall_mem_cons.mpr ⟨np_S.mono (op := np_icne 23) (np_s_icmp_ne hX dX11_fillOfNumber_15 (by decide)) nq_icne_le, List.forall_mem_cons.mpr ⟨np_s_bipush hX dX11_fillOfNumber_18 (by decide), List.forall_mem_cons.mpr ⟨np_s_goto hX dX11_fillOfNumber_20 (by decide), List.forall_mem_cons.mpr ⟨np_s_bipush hX dX11_fillOfNumber_23 (by decide), List.forall_mem_cons.mpr ⟨np_S.mono (op := np_ret X.2.2.1) (np_s_ret hX dX11_fillOfNumber_25) (nq_ret_le hR), fun _ h => nomatch h⟩⟩⟩⟩⟩⟩⟩⟩⟩⟩⟩⟩⟩⟩⟩
noncomputable def m_X11_fillOfNumber (S : pw_S) (x0 : Int32) : pw_R Int32 :=
 if (x0 - x0 / 3 * 3) = 0 then
 (some (S, 32))
 else
 (if (x0 - x0 / 3 * 3) = 1 then
 (some (S, 48))
 else
 (some (S, 42)))
def sp_X11_fillOfNumber : np_Sp := fun vs w Q => ∃ (q : Nat) (S : pw_S) (x0 : Int32), vs = [.int x0] ∧ pw_W q w S ∧ pw_p (m_X11_fillOfNumber S x0) (fun S' r => ∀ f', pw_W q (w.1, f') S' → Q (some (.int r)) (w.1, f'))
set_option maxRecDepth 100000 in
set_option maxHeartbeats 8000000 in
theorem C_X11_fillOfNumber : np_C yX11_fillOfNumber cX11_fillOfNumber 1 (some .int) 0 0 0 0 sp_X11_fillOfNumber := by
  refine np_of (by decide) ?_
  intro X vs w Q hsp hX hmn hRt hlt
  obtain ⟨q, S, x0, rfl, hW, h⟩ := hsp
  obtain ⟨n, f⟩ := w
  unfold m_X11_fillOfNumber at h
  have hR : ∀ st w ce sl, np_rt (some .int) 0 0 Q st w ce sl → X.2.2.1 st w ce sl := fun _ _ _ _ h => by rw [hRt]; exact h
  refine np_soundW (so_X11_fillOfNumber hX hR) [] 400 0 _ _ _ _ _ ?_
  conv => whnf
  refine pw_br h (fun _ h => ?_) (fun _ h => ?_)
  · conv => whnf
    exact ⟨Nat.le_of_ble_eq_true rfl, Nat.le_of_ble_eq_true rfl, ⟨_, rfl⟩, _, fun _ _ h9 => h9, pw_ps h _ hW⟩
  · conv => whnf
    refine pw_br h (fun _ h => ?_) (fun _ h => ?_)
    · conv => whnf
      exact ⟨Nat.le_of_ble_eq_true rfl, Nat.le_of_ble_eq_true rfl, ⟨_, rfl⟩, _, fun _ _ h9 => h9, pw_ps h _ hW⟩
    · conv => whnf
      exact ⟨Nat.le_of_ble_eq_true rfl, Nat.le_of_ble_eq_true rfl, ⟨_, rfl⟩, _, fun _ _ h9 => h9, pw_ps h _ hW⟩
