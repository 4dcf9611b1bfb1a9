theorem gw16 : (Jvm.Cond.selects "NotationPress$Description" ({ cls := "NotationPress$Description", name := "holds", desc := "(I[I)Z" } : Jvm.MethodName) ({ cls := "NotationPress$Description", name := "holds", desc := "(I[I)Z" } : Jvm.MethodName)) ∈ np_gw := np_gwi 16 (by decide +kernel) rfl
theorem gw64 : (Jvm.Cond.initialized "NotationPress$Items") ∈ np_gw := np_gwi 64 (by decide +kernel) rfl
theorem gw71 : (Jvm.Cond.initialized "NotationPress$Description") ∈ np_gw := np_gwi 71 (by decide +kernel) rfl
theorem gw100 : (Jvm.Cond.fieldLink "NotationPress$Items" (9 : Nat) "NotationPress$Items" "kinds" "[I") ∈ np_gw := np_gwi 100 (by decide +kernel) rfl
theorem gw101 : (Jvm.Cond.fieldLink "NotationPress$Items" (15 : Nat) "NotationPress$Items" "firsts" "[I") ∈ np_gw := np_gwi 101 (by decide +kernel) rfl
theorem gw102 : (Jvm.Cond.fieldLink "NotationPress$Items" (18 : Nat) "NotationPress$Items" "seconds" "[I") ∈ np_gw := np_gwi 102 (by decide +kernel) rfl
theorem gw105 : (Jvm.Cond.fieldLink "NotationPress$Items" (28 : Nat) "NotationPress$Items" "count" "I") ∈ np_gw := np_gwi 105 (by decide +kernel) rfl
theorem gw107 : (Jvm.Cond.laysFinal "NotationPress$Items" "NotationPress$Items" "kinds" "[I") ∈ np_gw := np_gwi 107 (by decide +kernel) rfl
theorem gw109 : (Jvm.Cond.laysFinal "NotationPress$Items" "NotationPress$Items" "firsts" "[I") ∈ np_gw := np_gwi 109 (by decide +kernel) rfl
theorem gw111 : (Jvm.Cond.laysFinal "NotationPress$Items" "NotationPress$Items" "seconds" "[I") ∈ np_gw := np_gwi 111 (by decide +kernel) rfl
theorem gw113 : (Jvm.Cond.laysFinal "NotationPress$Items" "NotationPress$Items" "thirds" "[I") ∈ np_gw := np_gwi 113 (by decide +kernel) rfl
theorem gw115 : (Jvm.Cond.lays "NotationPress$Items" "NotationPress$Items" "count" "I") ∈ np_gw := np_gwi 115 (by decide +kernel) rfl
theorem gw313 : (Jvm.Cond.fieldLink "NotationPress$Description" (12 : Nat) "NotationPress$Description" "items" "LNotationPress$Items;") ∈ np_gw := np_gwi 313 (by decide +kernel) rfl
theorem gw316 : (Jvm.Cond.fieldLink "NotationPress$Description" (18 : Nat) "NotationPress$Description" "kinds" "[I") ∈ np_gw := np_gwi 316 (by decide +kernel) rfl
theorem gw317 : (Jvm.Cond.fieldLink "NotationPress$Description" (22 : Nat) "NotationPress$Description" "firsts" "[I") ∈ np_gw := np_gwi 317 (by decide +kernel) rfl
theorem gw318 : (Jvm.Cond.fieldLink "NotationPress$Description" (25 : Nat) "NotationPress$Description" "seconds" "[I") ∈ np_gw := np_gwi 318 (by decide +kernel) rfl
theorem gw319 : (Jvm.Cond.fieldLink "NotationPress$Description" (28 : Nat) "NotationPress$Description" "thirds" "[I") ∈ np_gw := np_gwi 319 (by decide +kernel) rfl
theorem gw320 : (Jvm.Cond.fieldLink "NotationPress$Description" (31 : Nat) "NotationPress$Description" "messages" "[I") ∈ np_gw := np_gwi 320 (by decide +kernel) rfl
theorem gw321 : (Jvm.Cond.fieldLink "NotationPress$Description" (45 : Nat) "NotationPress$Description" "count" "I") ∈ np_gw := np_gwi 321 (by decide +kernel) rfl
theorem gw323 : (Jvm.Cond.laysFinal "NotationPress$Description" "NotationPress$Description" "items" "LNotationPress$Items;") ∈ np_gw := np_gwi 323 (by decide +kernel) rfl
theorem gw325 : (Jvm.Cond.laysFinal "NotationPress$Description" "NotationPress$Description" "kinds" "[I") ∈ np_gw := np_gwi 325 (by decide +kernel) rfl
theorem gw327 : (Jvm.Cond.laysFinal "NotationPress$Description" "NotationPress$Description" "firsts" "[I") ∈ np_gw := np_gwi 327 (by decide +kernel) rfl
theorem gw329 : (Jvm.Cond.laysFinal "NotationPress$Description" "NotationPress$Description" "seconds" "[I") ∈ np_gw := np_gwi 329 (by decide +kernel) rfl
theorem gw331 : (Jvm.Cond.laysFinal "NotationPress$Description" "NotationPress$Description" "thirds" "[I") ∈ np_gw := np_gwi 331 (by decide +kernel) rfl
theorem gw333 : (Jvm.Cond.laysFinal "NotationPress$Description" "NotationPress$Description" "messages" "[I") ∈ np_gw := np_gwi 333 (by decide +kernel) rfl
theorem gw335 : (Jvm.Cond.lays "NotationPress$Description" "NotationPress$Description" "count" "I") ∈ np_gw := np_gwi 335 (by decide +kernel) rfl
theorem gw514 : (Jvm.Cond.static ({ cls := "NotationPress", name := "isSlot", desc := "(I)Z" } : Jvm.MethodName)) ∈ np_gw := np_gwi 514 (by decide +kernel) rfl
theorem gw515 : (Jvm.Cond.code ({ cls := "NotationPress", name := "isSlot", desc := "(I)Z" } : Jvm.MethodName) prog_1_method_47_code (1 : Nat) (Option.some Jvm.ClassFile.FieldType.boolean)) ∈ np_gw := np_gwi 515 (by decide +kernel) rfl
theorem gw587 : (Jvm.Cond.methodLinkNest "NotationPress$Items" (24 : Nat) ({ cls := "NotationPress", name := "isBetween", desc := "(III)Z" } : Jvm.MethodName) "NotationPress") ∈ np_nw := np_nwi 587 (by decide +kernel) rfl
theorem gw588 : (Jvm.Cond.static ({ cls := "NotationPress", name := "isBetween", desc := "(III)Z" } : Jvm.MethodName)) ∈ np_gw := np_gwi 588 (by decide +kernel) rfl
theorem gw589 : (Jvm.Cond.code ({ cls := "NotationPress", name := "isBetween", desc := "(III)Z" } : Jvm.MethodName) prog_1_method_50_code (3 : Nat) (Option.some Jvm.ClassFile.FieldType.boolean)) ∈ np_gw := np_gwi 589 (by decide +kernel) rfl
theorem gw631 : (Jvm.Cond.static ({ cls := "NotationPress", name := "put", desc := "([III)V" } : Jvm.MethodName)) ∈ np_gw := np_gwi 631 (by decide +kernel) rfl
theorem gw632 : (Jvm.Cond.code ({ cls := "NotationPress", name := "put", desc := "([III)V" } : Jvm.MethodName) prog_1_method_43_code (3 : Nat) (Option.none : Option Jvm.ClassFile.FieldType)) ∈ np_gw := np_gwi 632 (by decide +kernel) rfl
theorem gw643 : (Jvm.Cond.methodLink "NotationPress$Items" (60 : Nat) ({ cls := "NotationPress$Items", name := "hasSlot", desc := "(I)Z" } : Jvm.MethodName)) ∈ np_gw := np_gwi 643 (by decide +kernel) rfl
theorem gw644 : (Jvm.Cond.instanceMethod ({ cls := "NotationPress$Items", name := "hasSlot", desc := "(I)Z" } : Jvm.MethodName)) ∈ np_gw := np_gwi 644 (by decide +kernel) rfl
theorem gw645 : (Jvm.Cond.selects "NotationPress$Items" ({ cls := "NotationPress$Items", name := "hasSlot", desc := "(I)Z" } : Jvm.MethodName) ({ cls := "NotationPress$Items", name := "hasSlot", desc := "(I)Z" } : Jvm.MethodName)) ∈ np_gw := np_gwi 645 (by decide +kernel) rfl
theorem gw646 : (Jvm.Cond.code ({ cls := "NotationPress$Items", name := "hasSlot", desc := "(I)Z" } : Jvm.MethodName) prog_4_method_12_code (3 : Nat) (Option.some Jvm.ClassFile.FieldType.boolean)) ∈ np_gw := np_gwi 646 (by decide +kernel) rfl
theorem gw647 : (Jvm.Cond.methodLink "NotationPress$Items" (39 : Nat) ({ cls := "NotationPress$Items", name := "kind", desc := "(I)I" } : Jvm.MethodName)) ∈ np_gw := np_gwi 647 (by decide +kernel) rfl
theorem gw648 : (Jvm.Cond.instanceMethod ({ cls := "NotationPress$Items", name := "kind", desc := "(I)I" } : Jvm.MethodName)) ∈ np_gw := np_gwi 648 (by decide +kernel) rfl
theorem gw649 : (Jvm.Cond.selects "NotationPress$Items" ({ cls := "NotationPress$Items", name := "kind", desc := "(I)I" } : Jvm.MethodName) ({ cls := "NotationPress$Items", name := "kind", desc := "(I)I" } : Jvm.MethodName)) ∈ np_gw := np_gwi 649 (by decide +kernel) rfl
theorem gw650 : (Jvm.Cond.code ({ cls := "NotationPress$Items", name := "kind", desc := "(I)I" } : Jvm.MethodName) prog_4_method_8_code (2 : Nat) (Option.some Jvm.ClassFile.FieldType.int)) ∈ np_gw := np_gwi 650 (by decide +kernel) rfl
theorem gw651 : (Jvm.Cond.methodLinkNest "NotationPress$Items" (56 : Nat) ({ cls := "NotationPress", name := "at", desc := "([III)I" } : Jvm.MethodName) "NotationPress") ∈ np_nw := np_nwi 651 (by decide +kernel) rfl
theorem gw654 : (Jvm.Cond.methodLink "NotationPress$Items" (43 : Nat) ({ cls := "NotationPress$Items", name := "a", desc := "(I)I" } : Jvm.MethodName)) ∈ np_gw := np_gwi 654 (by decide +kernel) rfl
theorem gw655 : (Jvm.Cond.instanceMethod ({ cls := "NotationPress$Items", name := "a", desc := "(I)I" } : Jvm.MethodName)) ∈ np_gw := np_gwi 655 (by decide +kernel) rfl
theorem gw656 : (Jvm.Cond.selects "NotationPress$Items" ({ cls := "NotationPress$Items", name := "a", desc := "(I)I" } : Jvm.MethodName) ({ cls := "NotationPress$Items", name := "a", desc := "(I)I" } : Jvm.MethodName)) ∈ np_gw := np_gwi 656 (by decide +kernel) rfl
theorem gw657 : (Jvm.Cond.code ({ cls := "NotationPress$Items", name := "a", desc := "(I)I" } : Jvm.MethodName) prog_4_method_9_code (2 : Nat) (Option.some Jvm.ClassFile.FieldType.int)) ∈ np_gw := np_gwi 657 (by decide +kernel) rfl
theorem gw658 : (Jvm.Cond.methodLink "NotationPress$Items" (64 : Nat) ({ cls := "NotationPress$Items", name := "itemOf", desc := "(I)I" } : Jvm.MethodName)) ∈ np_gw := np_gwi 658 (by decide +kernel) rfl
theorem gw659 : (Jvm.Cond.instanceMethod ({ cls := "NotationPress$Items", name := "itemOf", desc := "(I)I" } : Jvm.MethodName)) ∈ np_gw := np_gwi 659 (by decide +kernel) rfl
theorem gw660 : (Jvm.Cond.selects "NotationPress$Items" ({ cls := "NotationPress$Items", name := "itemOf", desc := "(I)I" } : Jvm.MethodName) ({ cls := "NotationPress$Items", name := "itemOf", desc := "(I)I" } : Jvm.MethodName)) ∈ np_gw := np_gwi 660 (by decide +kernel) rfl
theorem gw661 : (Jvm.Cond.code ({ cls := "NotationPress$Items", name := "itemOf", desc := "(I)I" } : Jvm.MethodName) prog_4_method_14_code (3 : Nat) (Option.some Jvm.ClassFile.FieldType.int)) ∈ np_gw := np_gwi 661 (by decide +kernel) rfl
theorem gw670 : (Jvm.Cond.methodLink "NotationPress$Items" (46 : Nat) ({ cls := "NotationPress$Items", name := "b", desc := "(I)I" } : Jvm.MethodName)) ∈ np_gw := np_gwi 670 (by decide +kernel) rfl
theorem gw671 : (Jvm.Cond.instanceMethod ({ cls := "NotationPress$Items", name := "b", desc := "(I)I" } : Jvm.MethodName)) ∈ np_gw := np_gwi 671 (by decide +kernel) rfl
theorem gw672 : (Jvm.Cond.selects "NotationPress$Items" ({ cls := "NotationPress$Items", name := "b", desc := "(I)I" } : Jvm.MethodName) ({ cls := "NotationPress$Items", name := "b", desc := "(I)I" } : Jvm.MethodName)) ∈ np_gw := np_gwi 672 (by decide +kernel) rfl
theorem gw673 : (Jvm.Cond.code ({ cls := "NotationPress$Items", name := "b", desc := "(I)I" } : Jvm.MethodName) prog_4_method_10_code (2 : Nat) (Option.some Jvm.ClassFile.FieldType.int)) ∈ np_gw := np_gwi 673 (by decide +kernel) rfl
theorem gw678 : (Jvm.Cond.methodLink "NotationPress$Items" (76 : Nat) ({ cls := "NotationPress$Items", name := "isInLoop", desc := "(I)Z" } : Jvm.MethodName)) ∈ np_gw := np_gwi 678 (by decide +kernel) rfl
theorem gw679 : (Jvm.Cond.instanceMethod ({ cls := "NotationPress$Items", name := "isInLoop", desc := "(I)Z" } : Jvm.MethodName)) ∈ np_gw := np_gwi 679 (by decide +kernel) rfl
theorem gw680 : (Jvm.Cond.selects "NotationPress$Items" ({ cls := "NotationPress$Items", name := "isInLoop", desc := "(I)Z" } : Jvm.MethodName) ({ cls := "NotationPress$Items", name := "isInLoop", desc := "(I)Z" } : Jvm.MethodName)) ∈ np_gw := np_gwi 680 (by decide +kernel) rfl
theorem gw681 : (Jvm.Cond.code ({ cls := "NotationPress$Items", name := "isInLoop", desc := "(I)Z" } : Jvm.MethodName) prog_4_method_15_code (3 : Nat) (Option.some Jvm.ClassFile.FieldType.boolean)) ∈ np_gw := np_gwi 681 (by decide +kernel) rfl
theorem gw903 : (Jvm.Cond.methodLink "NotationPress$Description" (53 : Nat) ({ cls := "NotationPress$Description", name := "holds", desc := "(I[I)Z" } : Jvm.MethodName)) ∈ np_gw := np_gwi 903 (by decide +kernel) rfl
theorem gw905 : (Jvm.Cond.instanceMethod ({ cls := "NotationPress$Description", name := "holds", desc := "(I[I)Z" } : Jvm.MethodName)) ∈ np_gw := np_gwi 905 (by decide +kernel) rfl
theorem gw906 : (Jvm.Cond.code ({ cls := "NotationPress$Description", name := "holds", desc := "(I[I)Z" } : Jvm.MethodName) prog_3_method_7_code (5 : Nat) (Option.some Jvm.ClassFile.FieldType.boolean)) ∈ np_gw := np_gwi 906 (by decide +kernel) rfl
theorem gw907 : (Jvm.Cond.methodLinkNest "NotationPress$Description" (57 : Nat) ({ cls := "NotationPress", name := "at", desc := "([III)I" } : Jvm.MethodName) "NotationPress") ∈ np_nw := np_nwi 907 (by decide +kernel) rfl
theorem gw908 : (Jvm.Cond.methodLink "NotationPress$Description" (61 : Nat) ({ cls := "NotationPress$Description", name := "valueOf", desc := "(I[I)I" } : Jvm.MethodName)) ∈ np_gw := np_gwi 908 (by decide +kernel) rfl
theorem gw909 : (Jvm.Cond.static ({ cls := "NotationPress$Description", name := "valueOf", desc := "(I[I)I" } : Jvm.MethodName)) ∈ np_gw := np_gwi 909 (by decide +kernel) rfl
theorem gw910 : (Jvm.Cond.code ({ cls := "NotationPress$Description", name := "valueOf", desc := "(I[I)I" } : Jvm.MethodName) prog_3_method_9_code (2 : Nat) (Option.some Jvm.ClassFile.FieldType.int)) ∈ np_gw := np_gwi 910 (by decide +kernel) rfl
theorem gw911 : (Jvm.Cond.methodLinkNest "NotationPress$Description" (34 : Nat) ({ cls := "NotationPress", name := "isSlot", desc := "(I)Z" } : Jvm.MethodName) "NotationPress") ∈ np_nw := np_nwi 911 (by decide +kernel) rfl
theorem gw912 : (Jvm.Cond.methodLinkNest "NotationPress$Description" (69 : Nat) ({ cls := "NotationPress", name := "cellPlace", desc := "(II)I" } : Jvm.MethodName) "NotationPress") ∈ np_nw := np_nwi 912 (by decide +kernel) rfl
theorem gw913 : (Jvm.Cond.constant "NotationPress$Description" (65 : Nat) (-2147483648 : Int32)) ∈ np_gw := np_gwi 913 (by decide +kernel) rfl
theorem gw914 : (Jvm.Cond.methodLink "NotationPress$Description" (66 : Nat) ({ cls := "NotationPress$Description", name := "isSum", desc := "(III)Z" } : Jvm.MethodName)) ∈ np_gw := np_gwi 914 (by decide +kernel) rfl
theorem gw915 : (Jvm.Cond.static ({ cls := "NotationPress$Description", name := "isSum", desc := "(III)Z" } : Jvm.MethodName)) ∈ np_gw := np_gwi 915 (by decide +kernel) rfl
theorem gw916 : (Jvm.Cond.code ({ cls := "NotationPress$Description", name := "isSum", desc := "(III)Z" } : Jvm.MethodName) prog_3_method_8_code (3 : Nat) (Option.some Jvm.ClassFile.FieldType.boolean)) ∈ np_gw := np_gwi 916 (by decide +kernel) rfl
theorem gw1221 : (Jvm.Cond.methodLink "NotationPress$Description" (38 : Nat) ({ cls := "NotationPress$Items", name := "canBeConstrained", desc := "(I)Z" } : Jvm.MethodName)) ∈ np_gw := np_gwi 1221 (by decide +kernel) rfl
theorem gw1222 : (Jvm.Cond.instanceMethod ({ cls := "NotationPress$Items", name := "canBeConstrained", desc := "(I)Z" } : Jvm.MethodName)) ∈ np_gw := np_gwi 1222 (by decide +kernel) rfl
theorem gw1223 : (Jvm.Cond.selects "NotationPress$Items" ({ cls := "NotationPress$Items", name := "canBeConstrained", desc := "(I)Z" } : Jvm.MethodName) ({ cls := "NotationPress$Items", name := "canBeConstrained", desc := "(I)Z" } : Jvm.MethodName)) ∈ np_gw := np_gwi 1223 (by decide +kernel) rfl
theorem gw1224 : (Jvm.Cond.code ({ cls := "NotationPress$Items", name := "canBeConstrained", desc := "(I)Z" } : Jvm.MethodName) prog_4_method_20_code (4 : Nat) (Option.some Jvm.ClassFile.FieldType.boolean)) ∈ np_gw := np_gwi 1224 (by decide +kernel) rfl
theorem gw1225 : (Jvm.Cond.methodLinkNest "NotationPress$Description" (41 : Nat) ({ cls := "NotationPress", name := "isBetween", desc := "(III)Z" } : Jvm.MethodName) "NotationPress") ∈ np_nw := np_nwi 1225 (by decide +kernel) rfl
theorem gw1236 : (Jvm.Cond.methodLinkNest "NotationPress$Description" (49 : Nat) ({ cls := "NotationPress", name := "put", desc := "([III)V" } : Jvm.MethodName) "NotationPress") ∈ np_nw := np_nwi 1236 (by decide +kernel) rfl
set_option maxRecDepth 20000 in
theorem guX1 : ∀ w ∈ u_ws RX1 TX1 7, w ∈ np_gw := by
  show ∀ w ∈ [(Jvm.Cond.laysFinal "NotationPress$Description" "NotationPress$Description" "items" "LNotationPress$Items;"), (Jvm.Cond.laysFinal "NotationPress$Description" "NotationPress$Description" "kinds" "[I"), (Jvm.Cond.laysFinal "NotationPress$Description" "NotationPress$Description" "firsts" "[I"), (Jvm.Cond.laysFinal "NotationPress$Description" "NotationPress$Description" "seconds" "[I"), (Jvm.Cond.laysFinal "NotationPress$Description" "NotationPress$Description" "thirds" "[I"), (Jvm.Cond.laysFinal "NotationPress$Description" "NotationPress$Description" "messages" "[I"), (Jvm.Cond.lays "NotationPress$Description" "NotationPress$Description" "count" "I")], w ∈ np_gw
  exact List.forall_mem_cons.mpr ⟨gw323, List.forall_mem_cons.mpr ⟨gw325, List.forall_mem_cons.mpr ⟨gw327, List.forall_mem_cons.mpr ⟨gw329, List.forall_mem_cons.mpr ⟨gw331, List.forall_mem_cons.mpr ⟨gw333, List.forall_mem_cons.mpr ⟨gw335, fun _ h => nomatch h⟩⟩⟩⟩⟩⟩⟩
theorem ndX1 : ∀ j, j < 7 → defaultValue (tyX1 j) = vp_V [.null, .null, .null, .null, .null, .null, .int 0] j := by decide +kernel
theorem nfX1 : ∀ v ∈ ([.null, .null, .null, .null, .null, .null, .int 0] : List Value), ∀ ad : Nat → Nat, np_v ad v = v := by
  intro v hv ad
  simp only [List.mem_cons, List.not_mem_nil, or_false] at hv
  rcases hv with rfl | rfl | rfl | rfl | rfl | rfl | rfl <;> rfl
set_option maxRecDepth 20000 in
theorem guX2 : ∀ w ∈ u_ws RX2 TX2 5, w ∈ np_gw := by
  show ∀ w ∈ [(Jvm.Cond.laysFinal "NotationPress$Items" "NotationPress$Items" "kinds" "[I"), (Jvm.Cond.laysFinal "NotationPress$Items" "NotationPress$Items" "firsts" "[I"), (Jvm.Cond.laysFinal "NotationPress$Items" "NotationPress$Items" "seconds" "[I"), (Jvm.Cond.laysFinal "NotationPress$Items" "NotationPress$Items" "thirds" "[I"), (Jvm.Cond.lays "NotationPress$Items" "NotationPress$Items" "count" "I")], w ∈ np_gw
  exact List.forall_mem_cons.mpr ⟨gw107, List.forall_mem_cons.mpr ⟨gw109, List.forall_mem_cons.mpr ⟨gw111, List.forall_mem_cons.mpr ⟨gw113, List.forall_mem_cons.mpr ⟨gw115, fun _ h => nomatch h⟩⟩⟩⟩⟩
theorem ndX2 : ∀ j, j < 5 → defaultValue (tyX2 j) = vp_V [.null, .null, .null, .null, .int 0] j := by decide +kernel
theorem nfX2 : ∀ v ∈ ([.null, .null, .null, .null, .int 0] : List Value), ∀ ad : Nat → Nat, np_v ad v = v := by
  intro v hv ad
  simp only [List.mem_cons, List.not_mem_nil, or_false] at hv
  rcases hv with rfl | rfl | rfl | rfl | rfl <;> rfl
theorem dX11_isSlot_0 : decode cX11_isSlot 0 = .ok (.iload_n 0, 1) := by decide +kernel
theorem dX11_isSlot_1 : decode cX11_isSlot 1 = .ok (.ifCond .lt 13, 3) := by decide +kernel
theorem dX11_isSlot_4 : decode cX11_isSlot 4 = .ok (.iload_n 0, 1) := by decide +kernel
theorem dX11_isSlot_5 : decode cX11_isSlot 5 = .ok (.bipush 8, 2) := by decide +kernel
theorem dX11_isSlot_7 : decode cX11_isSlot 7 = .ok (.if_icmp .ge 7, 3) := by decide +kernel
theorem dX11_isSlot_10 : decode cX11_isSlot 10 = .ok (.iconst 1, 1) := by decide +kernel
theorem dX11_isSlot_11 : decode cX11_isSlot 11 = .ok (.goto 4, 3) := by decide +kernel
theorem dX11_isSlot_14 : decode cX11_isSlot 14 = .ok (.iconst 0, 1) := by decide +kernel
theorem dX11_isSlot_15 : decode cX11_isSlot 15 = .ok (.ireturn, 1) := by decide +kernel
def is_X11_isSlot (Rt : np_Rt) : List (Nat × np_Op) := [(0, np_ild 1 0), (1, nq_if (fun x => x < 0) 14), (4, np_ild 1 0), (5, np_push 2 (.int 8)), (7, nq_ic (fun x y => y ≤ x) 14), (10, np_push 1 (.int 1)), (11, np_goto 15), (14, np_push 1 (.int 0)), (15, np_ret Rt)]
set_option maxRecDepth 20000 in
theorem so_X11_isSlot {X : np_Ctx} {Rt : np_Rt} (hX : np_ok RX11 cX11_isSlot 1 0 0 0 0 .ireturn X) (hR : ∀ st w ce sl, Rt st w ce sl → X.2.2.1 st w ce sl) : ∀ q ∈ is_X11_isSlot Rt, np_S X q.1 q.2 :=
  List.forall_mem_cons.mpr ⟨np_s_iload_n hX dX11_isSlot_0 rfl, List.forall_mem_cons.mpr ⟨np_S.mono (op := np_if (fun x => x < 0) 14) (np_s_if_lt hX dX11_isSlot_1 (by decide)) nq_if_le, List.forall_mem_cons.mpr ⟨np_s_iload_n hX dX11_isSlot_4 rfl, List.forall_mem_cons.mpr ⟨np_s_bipush hX dX11_isSlot_5 (by decide), List.forall_mem_cons.mpr ⟨np_S.mono (op := np_ic (fun x y => y ≤ x) 14) (np_s_icmp_ge hX dX11_isSlot_7 (by decide)) nq_ic_le, List.forall_mem_cons.mpr ⟨np_s_iconst hX dX11_isSlot_10 (by decide), List.forall_mem_cons.mpr ⟨np_s_goto hX dX11_isSlot_11 (by decide), List.forall_mem_cons.mpr ⟨np_s_iconst hX dX11_isSlot_14 (by decide), List.forall_mem_cons.mpr ⟨np_S.mono (op := np_ret X.2.2.1) (np_s_ret hX dX11_isSlot_15) (nq_ret_le hR), fun _ h => nomatch h⟩⟩⟩⟩⟩⟩⟩⟩⟩
noncomputable def m_X11_isSlot (S : pw_S) (x0 : Int32) : pw_R Int32 :=
 if x0 < 0 then
 (some (S, 0))
 else
 (if 8 ≤ x0 then
 (some (S, 0))
 else
 (some (S, 1)))
def sp_X11_isSlot : np_Sp := fun vs w Q => ∃ (q : Nat) (S : pw_S) (x0 : Int32), vs = [.int x0] ∧ pw_W q w S ∧ pw_p (m_X11_isSlot S x0) (fun S' r => ∀ f', pw_W q (w.1, f') S' → Q (some (.int r)) (w.1, f'))
set_option maxRecDepth 100000 in
set_option maxHeartbeats 8000000 in
theorem C_X11_isSlot : np_C yX11_isSlot cX11_isSlot 1 (some .boolean) 0 0 0 0 sp_X11_isSlot := by
  refine np_of (by decide) ?_
  intro X vs w Q hsp hX hmn hRt hlt
  obtain ⟨q, S, x0, rfl, hW, h⟩ := hsp
  obtain ⟨n, f⟩ := w
  unfold m_X11_isSlot at h
  have hR : ∀ st w ce sl, np_rt (some .boolean) 0 0 Q st w ce sl → X.2.2.1 st w ce sl := fun _ _ _ _ h => by rw [hRt]; exact h
  refine np_soundW (so_X11_isSlot hX hR) [] 400 0 _ _ _ _ _ ?_
  conv => whnf
  refine pw_br h (fun _ h => ?_) (fun _ h => ?_)
  · conv => whnf
    exact ⟨Nat.le_of_ble_eq_true rfl, Nat.le_of_ble_eq_true rfl, ⟨_, rfl, by decide⟩, _, fun _ _ h9 => h9, pw_ps h _ hW⟩
  · conv => whnf
    refine pw_br h (fun _ h => ?_) (fun _ h => ?_)
    · conv => whnf
      exact ⟨Nat.le_of_ble_eq_true rfl, Nat.le_of_ble_eq_true rfl, ⟨_, rfl, by decide⟩, _, fun _ _ h9 => h9, pw_ps h _ hW⟩
    · conv => whnf
      exact ⟨Nat.le_of_ble_eq_true rfl, Nat.le_of_ble_eq_true rfl, ⟨_, rfl, by decide⟩, _, fun _ _ h9 => h9, pw_ps h _ hW⟩
theorem dX1_tellsSlots_0 : decode cX1_tellsSlots 0 = .ok (.iload_n 0, 1) := by decide +kernel
theorem dX1_tellsSlots_1 : decode cX1_tellsSlots 1 = .ok (.ifCond .eq 8, 3) := by decide +kernel
theorem dX1_tellsSlots_4 : decode cX1_tellsSlots 4 = .ok (.iload_n 0, 1) := by decide +kernel
theorem dX1_tellsSlots_5 : decode cX1_tellsSlots 5 = .ok (.iconst 2, 1) := by decide +kernel
theorem dX1_tellsSlots_6 : decode cX1_tellsSlots 6 = .ok (.if_icmp .ne 7, 3) := by decide +kernel
theorem dX1_tellsSlots_9 : decode cX1_tellsSlots 9 = .ok (.iconst 1, 1) := by decide +kernel
theorem dX1_tellsSlots_10 : decode cX1_tellsSlots 10 = .ok (.goto 4, 3) := by decide +kernel
theorem dX1_tellsSlots_13 : decode cX1_tellsSlots 13 = .ok (.iconst 0, 1) := by decide +kernel
theorem dX1_tellsSlots_14 : decode cX1_tellsSlots 14 = .ok (.istore 4, 2) := by decide +kernel
theorem dX1_tellsSlots_16 : decode cX1_tellsSlots 16 = .ok (.iload_n 1, 1) := by decide +kernel
theorem dX1_tellsSlots_17 : decode cX1_tellsSlots 17 = .ok (.invokestatic 34, 3) := by decide +kernel
theorem dX1_tellsSlots_20 : decode cX1_tellsSlots 20 = .ok (.ifCond .eq 31, 3) := by decide +kernel
theorem dX1_tellsSlots_23 : decode cX1_tellsSlots 23 = .ok (.iload 4, 2) := by decide +kernel
theorem dX1_tellsSlots_25 : decode cX1_tellsSlots 25 = .ok (.ifCond .eq 10, 3) := by decide +kernel
theorem dX1_tellsSlots_28 : decode cX1_tellsSlots 28 = .ok (.iload_n 2, 1) := by decide +kernel
theorem dX1_tellsSlots_29 : decode cX1_tellsSlots 29 = .ok (.invokestatic 34, 3) := by decide +kernel
theorem dX1_tellsSlots_32 : decode cX1_tellsSlots 32 = .ok (.ifCond .eq 19, 3) := by decide +kernel
theorem dX1_tellsSlots_35 : decode cX1_tellsSlots 35 = .ok (.iload_n 0, 1) := by decide +kernel
theorem dX1_tellsSlots_36 : decode cX1_tellsSlots 36 = .ok (.iconst 2, 1) := by decide +kernel
theorem dX1_tellsSlots_37 : decode cX1_tellsSlots 37 = .ok (.if_icmp .ne 10, 3) := by decide +kernel
theorem dX1_tellsSlots_40 : decode cX1_tellsSlots 40 = .ok (.iload_n 3, 1) := by decide +kernel
theorem dX1_tellsSlots_41 : decode cX1_tellsSlots 41 = .ok (.invokestatic 34, 3) := by decide +kernel
theorem dX1_tellsSlots_44 : decode cX1_tellsSlots 44 = .ok (.ifCond .eq 7, 3) := by decide +kernel
theorem dX1_tellsSlots_47 : decode cX1_tellsSlots 47 = .ok (.iconst 1, 1) := by decide +kernel
theorem dX1_tellsSlots_48 : decode cX1_tellsSlots 48 = .ok (.goto 4, 3) := by decide +kernel
theorem dX1_tellsSlots_51 : decode cX1_tellsSlots 51 = .ok (.iconst 0, 1) := by decide +kernel
theorem dX1_tellsSlots_52 : decode cX1_tellsSlots 52 = .ok (.ireturn, 1) := by decide +kernel
def is_X1_tellsSlots (Rt : np_Rt) : List (Nat × np_Op) := [(0, np_ild 1 0), (1, nq_if (fun x => x = 0) 9), (4, np_ild 1 0), (5, np_push 1 (.int 2)), (6, nq_icne 13), (9, np_push 1 (.int 1)), (10, np_goto 14), (13, np_push 1 (.int 0)), (14, nw_ist 2 4), (16, np_ild 1 1), (17, nq_call 1 sp_X11_isSlot 1 0 0 0 0), (20, nq_if (fun x => x = 0) 51), (23, np_ild 2 4), (25, nq_if (fun x => x = 0) 35), (28, np_ild 1 2), (29, nq_call 1 sp_X11_isSlot 1 0 0 0 0), (32, nq_if (fun x => x = 0) 51), (35, np_ild 1 0), (36, np_push 1 (.int 2)), (37, nq_icne 47), (40, np_ild 1 3), (41, nq_call 1 sp_X11_isSlot 1 0 0 0 0), (44, nq_if (fun x => x = 0) 51), (47, np_push 1 (.int 1)), (48, np_goto 52), (51, np_push 1 (.int 0)), (52, np_ret Rt)]
set_option maxRecDepth 20000 in
theorem so_X1_tellsSlots {X : np_Ctx} {Rt : np_Rt} (hX : np_ok RX1 cX1_tellsSlots 5 1 20 0 0 .ireturn X) (hR : ∀ st w ce sl, Rt st w ce sl → X.2.2.1 st w ce sl) : ∀ q ∈ is_X1_tellsSlots Rt, np_S X q.1 q.2 :=
  List.forall_mem_cons.mpr ⟨np_s_iload_n hX dX1_tellsSlots_0 rfl, List.forall_mem_cons.mpr ⟨np_S.mono (op := np_if (fun x => x = 0) 9) (np_s_if_eq hX dX1_tellsSlots_1 (by decide)) nq_if_le, List.forall_mem_cons.mpr ⟨np_s_iload_n hX dX1_tellsSlots_4 rfl, List.forall_mem_cons.mpr ⟨np_s_iconst hX dX1_tellsSlots_5 (by decide), List.forall_mem_cons.mpr ⟨np_S.mono (op := np_icne 13) (np_s_icmp_ne hX dX1_tellsSlots_6 (by decide)) nq_icne_le, List.forall_mem_cons.mpr ⟨np_s_iconst hX dX1_tellsSlots_9 (by decide), List.forall_mem_cons.mpr ⟨np_s_goto hX dX1_tellsSlots_10 (by decide), List.forall_mem_cons.mpr ⟨np_s_iconst hX dX1_tellsSlots_13 (by decide), List.forall_mem_cons.mpr ⟨np_S.mono (op := np_ist 2 4) (np_s_istore hX dX1_tellsSlots_14 (by decide)) nw_ist_le, List.forall_mem_cons.mpr ⟨np_s_iload_n hX dX1_tellsSlots_16 rfl, List.forall_mem_cons.mpr ⟨np_S.mono (op := np_call 1 sp_X11_isSlot 1 0 0 0 0) (np_s_callSN hX C_X11_isSlot dX1_tellsSlots_17 gw515 gw63 gw911 gw514 ⟨by decide, by decide, by decide⟩ (by decide) (by decide)) nq_call_le, List.forall_mem_cons.mpr ⟨np_S.mono (op := np_if (fun x => x = 0) 51) (np_s_if_eq hX dX1_tellsSlots_20 (by decide)) nq_if_le, List.forall_mem_cons.mpr ⟨np_s_iload hX dX1_tellsSlots_23, List.forall_mem_cons.mpr ⟨np_S.mono (op := np_if (fun x => x = 0) 35) (np_s_if_eq hX dX1_tellsSlots_25 (by decide)) nq_if_le, List.forall_mem_cons.mpr ⟨np_s_iload_n hX dX1_tellsSlots_28 rfl, List.forall_mem_cons.mpr ⟨np_S.mono (op := np_call 1 sp_X11_isSlot 1 0 0 0 0) (np_s_callSN hX C_X11_isSlot dX1_tellsSlots_29 gw515 gw63 gw911 gw514 ⟨by decide, by decide, by decide⟩ (by decide) (by decide)) nq_call_le, List.forall_mem_cons.mpr ⟨np_S.mono (op := np_if (fun x => x = 0) 51) (np_s_if_eq hX dX1_tellsSlots_32 (by decide)) nq_if_le, List.forall_mem_cons.mpr ⟨np_s_iload_n hX dX1_tellsSlots_35 rfl, List.forall_mem_cons.mpr ⟨np_s_iconst hX dX1_tellsSlots_36 (by decide), List.forall_mem_cons.mpr ⟨np_S.mono (op := np_icne 47) (np_s_icmp_ne hX dX1_tellsSlots_37 (by decide)) nq_icne_le, List.forall_mem_cons.mpr ⟨np_s_iload_n hX dX1_tellsSlots_40 rfl, List.forall_mem_cons.mpr ⟨np_S.mono (op := np_call 1 sp_X11_isSlot 1 0 0 0 0) (np_s_callSN hX C_X11_isSlot dX1_tellsSlots_41 gw515 gw63 gw911 gw514 ⟨by decide, by decide, by decide⟩ (by decide) (by decide)) nq_call_le, List.forall_mem_cons.mpr ⟨np_S.mono (op := np_if (fun x => x = 0) 51) (np_s_if_eq hX dX1_tellsSlots_44 (by decide)) nq_if_le, List.forall_mem_cons.mpr ⟨np_s_iconst hX dX1_tellsSlots_47 (by decide), List.forall_mem_cons.mpr ⟨np_s_goto hX dX1_tellsSlots_48 (by decide), List.forall_mem_cons.mpr ⟨np_s_iconst hX dX1_tellsSlots_51 (by decide), List.forall_mem_cons.mpr ⟨np_S.mono (op := np_ret X.2.2.1) (np_s_ret hX dX1_tellsSlots_52) (nq_ret_le hR), fun _ h => nomatch h⟩⟩⟩⟩⟩⟩⟩⟩⟩⟩⟩⟩⟩⟩⟩⟩⟩⟩⟩⟩⟩⟩⟩⟩⟩⟩⟩
noncomputable def m_X1_tellsSlots (S : pw_S) (x0 : Int32) (x1 : Int32) (x2 : Int32) (x3 : Int32) : pw_R Int32 :=
 if x0 = 0 then
 (pw_l (1 : Int32) fun z1 =>
 pw_b (m_X11_isSlot S x1) fun S2 r5 =>
 if r5 = 0 then
 (some (S2, 0))
 else
 (if z1 = 0 then
 (if x0 = 2 then
 (pw_b (m_X11_isSlot S2 x3) fun S7 r10 =>
 if r10 = 0 then
 (some (S7, 0))
 else
 (some (S7, 1)))
 else
 (some (S2, 1)))
 else
 (pw_b (m_X11_isSlot S2 x2) fun S12 r15 =>
 if r15 = 0 then
 (some (S12, 0))
 else
 (if x0 = 2 then
 (pw_b (m_X11_isSlot S12 x3) fun S17 r20 =>
 if r20 = 0 then
 (some (S17, 0))
 else
 (some (S17, 1)))
 else
 (some (S12, 1))))))
 else
 (if x0 = 2 then
 (pw_l (1 : Int32) fun z22 =>
 pw_b (m_X11_isSlot S x1) fun S23 r26 =>
 if r26 = 0 then
 (some (S23, 0))
 else
 (if z22 = 0 then
 (if x0 = 2 then
 (pw_b (m_X11_isSlot S23 x3) fun S28 r31 =>
 if r31 = 0 then
 (some (S28, 0))
 else
 (some (S28, 1)))
 else
 (some (S23, 1)))
 else
 (pw_b (m_X11_isSlot S23 x2) fun S33 r36 =>
 if r36 = 0 then
 (some (S33, 0))
 else
 (if x0 = 2 then
 (pw_b (m_X11_isSlot S33 x3) fun S38 r41 =>
 if r41 = 0 then
 (some (S38, 0))
 else
 (some (S38, 1)))
 else
 (some (S33, 1))))))
 else
 (pw_l (0 : Int32) fun z43 =>
 pw_b (m_X11_isSlot S x1) fun S44 r47 =>
 if r47 = 0 then
 (some (S44, 0))
 else
 (if z43 = 0 then
 (if x0 = 2 then
 (pw_b (m_X11_isSlot S44 x3) fun S49 r52 =>
 if r52 = 0 then
 (some (S49, 0))
 else
 (some (S49, 1)))
 else
 (some (S44, 1)))
 else
 (pw_b (m_X11_isSlot S44 x2) fun S54 r57 =>
 if r57 = 0 then
 (some (S54, 0))
 else
 (if x0 = 2 then
 (pw_b (m_X11_isSlot S54 x3) fun S59 r62 =>
 if r62 = 0 then
 (some (S59, 0))
 else
 (some (S59, 1)))
 else
 (some (S54, 1)))))))
def sp_X1_tellsSlots : np_Sp := fun vs w Q => ∃ (q : Nat) (S : pw_S) (x0 : Int32) (x1 : Int32) (x2 : Int32) (x3 : Int32), vs = [.int x0, .int x1, .int x2, .int x3] ∧ pw_W q w S ∧ pw_p (m_X1_tellsSlots S x0 x1 x2 x3) (fun S' r => ∀ f', pw_W q (w.1, f') S' → Q (some (.int r)) (w.1, f'))
set_option maxRecDepth 100000 in
set_option maxHeartbeats 8000000 in
theorem C_X1_tellsSlots : np_C yX1_tellsSlots cX1_tellsSlots 5 (some .boolean) 1 20 0 0 sp_X1_tellsSlots := by
  refine np_of (by decide) ?_
  intro X vs w Q hsp hX hmn hRt hlt
  obtain ⟨q, S, x0, x1, x2, x3, rfl, hW, h⟩ := hsp
  obtain ⟨n, f⟩ := w
  unfold m_X1_tellsSlots at h
  have hR : ∀ st w ce sl, np_rt (some .boolean) 0 0 Q st w ce sl → X.2.2.1 st w ce sl := fun _ _ _ _ h => by rw [hRt]; exact h
  refine np_soundW (so_X1_tellsSlots hX hR) [] 400 0 _ _ _ _ _ ?_
  conv => whnf
  refine pw_br h (fun _ h => ?_) (fun _ h => ?_)
  · conv => whnf
    refine pw_st h (fun z1 h => ?_)
    conv => whnf
    refine ⟨q, S, x1, rfl, hW, pw_bd h (fun S2 r5 h f3 hW4 => ?_)⟩
    conv => whnf
    refine pw_br h (fun _ h => ?_) (fun _ h => ?_)
    · conv => whnf
      exact ⟨Nat.le_of_ble_eq_true rfl, Nat.le_of_ble_eq_true rfl, ⟨_, rfl, by decide⟩, _, fun _ _ h9 => h9, pw_ps h _ hW4⟩
    · conv => whnf
      refine pw_br h (fun _ h => ?_) (fun _ h => ?_)
      · conv => whnf
        refine pw_br h (fun _ h => ?_) (fun _ h => ?_)
        · conv => whnf
          refine ⟨q, S2, x3, rfl, hW4, pw_bd h (fun S7 r10 h f8 hW9 => ?_)⟩
          conv => whnf
          refine pw_br h (fun _ h => ?_) (fun _ h => ?_)
          · conv => whnf
            exact ⟨Nat.le_of_ble_eq_true rfl, Nat.le_of_ble_eq_true rfl, ⟨_, rfl, by decide⟩, _, fun _ _ h9 => h9, pw_ps h _ hW9⟩
          · conv => whnf
            exact ⟨Nat.le_of_ble_eq_true rfl, Nat.le_of_ble_eq_true rfl, ⟨_, rfl, by decide⟩, _, fun _ _ h9 => h9, pw_ps h _ hW9⟩
        · conv => whnf
          exact ⟨Nat.le_of_ble_eq_true rfl, Nat.le_of_ble_eq_true rfl, ⟨_, rfl, by decide⟩, _, fun _ _ h9 => h9, pw_ps h _ hW4⟩
      · conv => whnf
        refine ⟨q, S2, x2, rfl, hW4, pw_bd h (fun S12 r15 h f13 hW14 => ?_)⟩
        conv => whnf
        refine pw_br h (fun _ h => ?_) (fun _ h => ?_)
        · conv => whnf
          exact ⟨Nat.le_of_ble_eq_true rfl, Nat.le_of_ble_eq_true rfl, ⟨_, rfl, by decide⟩, _, fun _ _ h9 => h9, pw_ps h _ hW14⟩
        · conv => whnf
          refine pw_br h (fun _ h => ?_) (fun _ h => ?_)
          · conv => whnf
            refine ⟨q, S12, x3, rfl, hW14, pw_bd h (fun S17 r20 h f18 hW19 => ?_)⟩
            conv => whnf
            refine pw_br h (fun _ h => ?_) (fun _ h => ?_)
            · conv => whnf
              exact ⟨Nat.le_of_ble_eq_true rfl, Nat.le_of_ble_eq_true rfl, ⟨_, rfl, by decide⟩, _, fun _ _ h9 => h9, pw_ps h _ hW19⟩
            · conv => whnf
              exact ⟨Nat.le_of_ble_eq_true rfl, Nat.le_of_ble_eq_true rfl, ⟨_, rfl, by decide⟩, _, fun _ _ h9 => h9, pw_ps h _ hW19⟩
          · conv => whnf
            exact ⟨Nat.le_of_ble_eq_true rfl, Nat.le_of_ble_eq_true rfl, ⟨_, rfl, by decide⟩, _, fun _ _ h9 => h9, pw_ps h _ hW14⟩
  · conv => whnf
    refine pw_br h (fun _ h => ?_) (fun _ h => ?_)
    · conv => whnf
      refine pw_st h (fun z22 h => ?_)
      conv => whnf
      refine ⟨q, S, x1, rfl, hW, pw_bd h (fun S23 r26 h f24 hW25 => ?_)⟩
      conv => whnf
      refine pw_br h (fun _ h => ?_) (fun _ h => ?_)
      · conv => whnf
        exact ⟨Nat.le_of_ble_eq_true rfl, Nat.le_of_ble_eq_true rfl, ⟨_, rfl, by decide⟩, _, fun _ _ h9 => h9, pw_ps h _ hW25⟩
      · conv => whnf
        refine pw_br h (fun _ h => ?_) (fun _ h => ?_)
        · conv => whnf
          refine pw_br h (fun _ h => ?_) (fun _ h => ?_)
          · conv => whnf
            refine ⟨q, S23, x3, rfl, hW25, pw_bd h (fun S28 r31 h f29 hW30 => ?_)⟩
            conv => whnf
            refine pw_br h (fun _ h => ?_) (fun _ h => ?_)
            · conv => whnf
              exact ⟨Nat.le_of_ble_eq_true rfl, Nat.le_of_ble_eq_true rfl, ⟨_, rfl, by decide⟩, _, fun _ _ h9 => h9, pw_ps h _ hW30⟩
            · conv => whnf
              exact ⟨Nat.le_of_ble_eq_true rfl, Nat.le_of_ble_eq_true rfl, ⟨_, rfl, by decide⟩, _, fun _ _ h9 => h9, pw_ps h _ hW30⟩
          · conv => whnf
            exact ⟨Nat.le_of_ble_eq_true rfl, Nat.le_of_ble_eq_true rfl, ⟨_, rfl, by decide⟩, _, fun _ _ h9 => h9, pw_ps h _ hW25⟩
        · conv => whnf
          refine ⟨q, S23, x2, rfl, hW25, pw_bd h (fun S33 r36 h f34 hW35 => ?_)⟩
          conv => whnf
          refine pw_br h (fun _ h => ?_) (fun _ h => ?_)
          · conv => whnf
            exact ⟨Nat.le_of_ble_eq_true rfl, Nat.le_of_ble_eq_true rfl, ⟨_, rfl, by decide⟩, _, fun _ _ h9 => h9, pw_ps h _ hW35⟩
          · conv => whnf
            refine pw_br h (fun _ h => ?_) (fun _ h => ?_)
            · conv => whnf
              refine ⟨q, S33, x3, rfl, hW35, pw_bd h (fun S38 r41 h f39 hW40 => ?_)⟩
              conv => whnf
              refine pw_br h (fun _ h => ?_) (fun _ h => ?_)
              · conv => whnf
                exact ⟨Nat.le_of_ble_eq_true rfl, Nat.le_of_ble_eq_true rfl, ⟨_, rfl, by decide⟩, _, fun _ _ h9 => h9, pw_ps h _ hW40⟩
              · conv => whnf
                exact ⟨Nat.le_of_ble_eq_true rfl, Nat.le_of_ble_eq_true rfl, ⟨_, rfl, by decide⟩, _, fun _ _ h9 => h9, pw_ps h _ hW40⟩
            · conv => whnf
              exact ⟨Nat.le_of_ble_eq_true rfl, Nat.le_of_ble_eq_true rfl, ⟨_, rfl, by decide⟩, _, fun _ _ h9 => h9, pw_ps h _ hW35⟩
    · conv => whnf
      refine pw_st h (fun z43 h => ?_)
      conv => whnf
      refine ⟨q, S, x1, rfl, hW, pw_bd h (fun S44 r47 h f45 hW46 => ?_)⟩
      conv => whnf
      refine pw_br h (fun _ h => ?_) (fun _ h => ?_)
      · conv => whnf
        exact ⟨Nat.le_of_ble_eq_true rfl, Nat.le_of_ble_eq_true rfl, ⟨_, rfl, by decide⟩, _, fun _ _ h9 => h9, pw_ps h _ hW46⟩
      · conv => whnf
        refine pw_br h (fun _ h => ?_) (fun _ h => ?_)
        · conv => whnf
          refine pw_br h (fun _ h => ?_) (fun _ h => ?_)
          · conv => whnf
            refine ⟨q, S44, x3, rfl, hW46, pw_bd h (fun S49 r52 h f50 hW51 => ?_)⟩
            conv => whnf
            refine pw_br h (fun _ h => ?_) (fun _ h => ?_)
            · conv => whnf
              exact ⟨Nat.le_of_ble_eq_true rfl, Nat.le_of_ble_eq_true rfl, ⟨_, rfl, by decide⟩, _, fun _ _ h9 => h9, pw_ps h _ hW51⟩
            · conv => whnf
              exact ⟨Nat.le_of_ble_eq_true rfl, Nat.le_of_ble_eq_true rfl, ⟨_, rfl, by decide⟩, _, fun _ _ h9 => h9, pw_ps h _ hW51⟩
          · conv => whnf
            exact ⟨Nat.le_of_ble_eq_true rfl, Nat.le_of_ble_eq_true rfl, ⟨_, rfl, by decide⟩, _, fun _ _ h9 => h9, pw_ps h _ hW46⟩
        · conv => whnf
          refine ⟨q, S44, x2, rfl, hW46, pw_bd h (fun S54 r57 h f55 hW56 => ?_)⟩
          conv => whnf
          refine pw_br h (fun _ h => ?_) (fun _ h => ?_)
          · conv => whnf
            exact ⟨Nat.le_of_ble_eq_true rfl, Nat.le_of_ble_eq_true rfl, ⟨_, rfl, by decide⟩, _, fun _ _ h9 => h9, pw_ps h _ hW56⟩
          · conv => whnf
            refine pw_br h (fun _ h => ?_) (fun _ h => ?_)
            · conv => whnf
              refine ⟨q, S54, x3, rfl, hW56, pw_bd h (fun S59 r62 h f60 hW61 => ?_)⟩
              conv => whnf
              refine pw_br h (fun _ h => ?_) (fun _ h => ?_)
              · conv => whnf
                exact ⟨Nat.le_of_ble_eq_true rfl, Nat.le_of_ble_eq_true rfl, ⟨_, rfl, by decide⟩, _, fun _ _ h9 => h9, pw_ps h _ hW61⟩
              · conv => whnf
                exact ⟨Nat.le_of_ble_eq_true rfl, Nat.le_of_ble_eq_true rfl, ⟨_, rfl, by decide⟩, _, fun _ _ h9 => h9, pw_ps h _ hW61⟩
            · conv => whnf
              exact ⟨Nat.le_of_ble_eq_true rfl, Nat.le_of_ble_eq_true rfl, ⟨_, rfl, by decide⟩, _, fun _ _ h9 => h9, pw_ps h _ hW56⟩
theorem dX2_kind_0 : decode cX2_kind 0 = .ok (.iload_n 1, 1) := by decide +kernel
theorem dX2_kind_1 : decode cX2_kind 1 = .ok (.aload_n 0, 1) := by decide +kernel
theorem dX2_kind_2 : decode cX2_kind 2 = .ok (.getfield 28, 3) := by decide +kernel
theorem dX2_kind_5 : decode cX2_kind 5 = .ok (.if_icmp .ge 15, 3) := by decide +kernel
theorem dX2_kind_8 : decode cX2_kind 8 = .ok (.aload_n 0, 1) := by decide +kernel
theorem dX2_kind_9 : decode cX2_kind 9 = .ok (.getfield 9, 3) := by decide +kernel
theorem dX2_kind_12 : decode cX2_kind 12 = .ok (.iload_n 1, 1) := by decide +kernel
theorem dX2_kind_13 : decode cX2_kind 13 = .ok (.iconst (-1), 1) := by decide +kernel
theorem dX2_kind_14 : decode cX2_kind 14 = .ok (.invokestatic 56, 3) := by decide +kernel
theorem dX2_kind_17 : decode cX2_kind 17 = .ok (.goto 4, 3) := by decide +kernel
theorem dX2_kind_20 : decode cX2_kind 20 = .ok (.iconst (-1), 1) := by decide +kernel
theorem dX2_kind_21 : decode cX2_kind 21 = .ok (.ireturn, 1) := by decide +kernel
def is_X2_kind (Rt : np_Rt) : List (Nat × np_Op) := [(0, np_ild 1 1), (1, np_ald 1 0), (2, nw_getf 2 4), (5, nq_ic (fun x y => y ≤ x) 20), (8, np_ald 1 0), (9, nw_getf 2 0), (12, np_ild 1 1), (13, np_push 1 (.int (-1))), (14, nq_call 3 sp_X11_at 3 0 0 0 0), (17, np_goto 21), (20, np_push 1 (.int (-1))), (21, np_ret Rt)]
set_option maxRecDepth 20000 in
theorem so_X2_kind {X : np_Ctx} {Rt : np_Rt} (hX : np_ok RX2 cX2_kind 2 1 22 0 0 .ireturn X) (hR : ∀ st w ce sl, Rt st w ce sl → X.2.2.1 st w ce sl) : ∀ q ∈ is_X2_kind Rt, np_S X q.1 q.2 :=
  List.forall_mem_cons.mpr ⟨np_s_iload_n hX dX2_kind_0 rfl, List.forall_mem_cons.mpr ⟨np_s_aload_n hX dX2_kind_1 rfl, List.forall_mem_cons.mpr ⟨np_S.mono (op := np_getf 2 4) (np_s_getf hX dX2_kind_2 (C := RX2) (T := TX2) (N := 5) rfl guX2 (by decide) gw105) nw_getf_le, List.forall_mem_cons.mpr ⟨np_S.mono (op := np_ic (fun x y => y ≤ x) 20) (np_s_icmp_ge hX dX2_kind_5 (by decide)) nq_ic_le, List.forall_mem_cons.mpr ⟨np_s_aload_n hX dX2_kind_8 rfl, List.forall_mem_cons.mpr ⟨np_S.mono (op := np_getf 2 0) (np_s_getf hX dX2_kind_9 (C := RX2) (T := TX2) (N := 5) rfl guX2 (by decide) gw100) nw_getf_le, List.forall_mem_cons.mpr ⟨np_s_iload_n hX dX2_kind_12 rfl, List.forall_mem_cons.mpr ⟨np_s_iconst hX dX2_kind_13 (by decide), List.forall_mem_cons.mpr ⟨np_S.mono (op := np_call 3 sp_X11_at 3 0 0 0 0) (np_s_callSN hX C_X11_at dX2_kind_14 gw653 gw63 gw651 gw652 ⟨by decide, by decide, by decide⟩ (by decide) (by decide)) nq_call_le, List.forall_mem_cons.mpr ⟨np_s_goto hX dX2_kind_17 (by decide), List.forall_mem_cons.mpr ⟨np_s_iconst hX dX2_kind_20 (by decide), List.forall_mem_cons.mpr ⟨np_S.mono (op := np_ret X.2.2.1) (np_s_ret hX dX2_kind_21) (nq_ret_le hR), fun _ h => nomatch h⟩⟩⟩⟩⟩⟩⟩⟩⟩⟩⟩⟩
noncomputable def m_X2_kind (S : pw_S) (i0 : Nat) (x1 : Int32) : pw_R Int32 :=
 if (S 51 i0 4) ≤ x1 then
 (some (S, (-1)))
 else
 (pw_b (m_X11_at S 2 i0 x1 (-1)) fun S1 r4 =>
 some (S1, r4))
def sp_X2_kind : np_Sp := fun vs w Q => ∃ (q : Nat) (S : pw_S) (i0 : Nat) (x1 : Int32), vs = [.ref (pw_pl 51 i0), .int x1] ∧ pw_ok q 51 i0 = true ∧ pw_W q w S ∧ pw_p (m_X2_kind S i0 x1) (fun S' r => ∀ f', pw_W q (w.1, f') S' → Q (some (.int r)) (w.1, f'))
set_option maxRecDepth 100000 in
set_option maxHeartbeats 8000000 in
theorem C_X2_kind : np_C yX2_kind cX2_kind 2 (some .int) 1 22 0 0 sp_X2_kind := by
  refine np_of (by decide) ?_
  intro X vs w Q hsp hX hmn hRt hlt
  obtain ⟨q, S, i0, x1, rfl, hi0, hW, h⟩ := hsp
  obtain ⟨n, f⟩ := w
  unfold m_X2_kind at h
  have hR : ∀ st w ce sl, np_rt (some .int) 0 0 Q st w ce sl → X.2.2.1 st w ce sl := fun _ _ _ _ h => by rw [hRt]; exact h
  refine np_soundW (so_X2_kind hX hR) [] 400 0 _ _ _ _ _ ?_
  conv => whnf
  refine np_rd_i (hW.g hi0) ?_
  conv => whnf
  refine pw_br h (fun _ h => ?_) (fun _ h => ?_)
  · conv => whnf
    exact ⟨Nat.le_of_ble_eq_true rfl, Nat.le_of_ble_eq_true rfl, ⟨_, rfl⟩, _, fun _ _ h9 => h9, pw_ps h _ hW⟩
  · conv => whnf
    refine np_rd_i (hW.g hi0) ?_
    conv => whnf
    refine ⟨q, S, 2, i0, x1, (-1), rfl, rfl, hi0, hW, pw_bd h (fun S1 r4 h f2 hW3 => ?_)⟩
    conv => whnf
    exact ⟨Nat.le_of_ble_eq_true rfl, Nat.le_of_ble_eq_true rfl, ⟨_, rfl⟩, _, fun _ _ h9 => h9, pw_ps h _ hW3⟩
theorem dX2_hasSlot_0 : decode cX2_hasSlot 0 = .ok (.aload_n 0, 1) := by decide +kernel
theorem dX2_hasSlot_1 : decode cX2_hasSlot 1 = .ok (.iload_n 1, 1) := by decide +kernel
theorem dX2_hasSlot_2 : decode cX2_hasSlot 2 = .ok (.invokevirtual 39, 3) := by decide +kernel
theorem dX2_hasSlot_5 : decode cX2_hasSlot 5 = .ok (.istore_n 2, 1) := by decide +kernel
theorem dX2_hasSlot_6 : decode cX2_hasSlot 6 = .ok (.iload_n 2, 1) := by decide +kernel
theorem dX2_hasSlot_7 : decode cX2_hasSlot 7 = .ok (.ifCond .eq 24, 3) := by decide +kernel
theorem dX2_hasSlot_10 : decode cX2_hasSlot 10 = .ok (.iload_n 2, 1) := by decide +kernel
theorem dX2_hasSlot_11 : decode cX2_hasSlot 11 = .ok (.iconst 1, 1) := by decide +kernel
theorem dX2_hasSlot_12 : decode cX2_hasSlot 12 = .ok (.if_icmp .eq 19, 3) := by decide +kernel
theorem dX2_hasSlot_15 : decode cX2_hasSlot 15 = .ok (.iload_n 2, 1) := by decide +kernel
theorem dX2_hasSlot_16 : decode cX2_hasSlot 16 = .ok (.iconst 2, 1) := by decide +kernel
theorem dX2_hasSlot_17 : decode cX2_hasSlot 17 = .ok (.if_icmp .eq 14, 3) := by decide +kernel
theorem dX2_hasSlot_20 : decode cX2_hasSlot 20 = .ok (.iload_n 2, 1) := by decide +kernel
theorem dX2_hasSlot_21 : decode cX2_hasSlot 21 = .ok (.iconst 3, 1) := by decide +kernel
theorem dX2_hasSlot_22 : decode cX2_hasSlot 22 = .ok (.if_icmp .eq 9, 3) := by decide +kernel
theorem dX2_hasSlot_25 : decode cX2_hasSlot 25 = .ok (.iload_n 2, 1) := by decide +kernel
theorem dX2_hasSlot_26 : decode cX2_hasSlot 26 = .ok (.bipush 6, 2) := by decide +kernel
theorem dX2_hasSlot_28 : decode cX2_hasSlot 28 = .ok (.if_icmp .ne 7, 3) := by decide +kernel
theorem dX2_hasSlot_31 : decode cX2_hasSlot 31 = .ok (.iconst 1, 1) := by decide +kernel
theorem dX2_hasSlot_32 : decode cX2_hasSlot 32 = .ok (.goto 4, 3) := by decide +kernel
theorem dX2_hasSlot_35 : decode cX2_hasSlot 35 = .ok (.iconst 0, 1) := by decide +kernel
theorem dX2_hasSlot_36 : decode cX2_hasSlot 36 = .ok (.ireturn, 1) := by decide +kernel
def is_X2_hasSlot (Rt : np_Rt) : List (Nat × np_Op) := [(0, np_ald 1 0), (1, np_ild 1 1), (2, nw_callV 2 2 sp_X2_kind 2 0 0 0 0), (5, nw_ist 1 2), (6, np_ild 1 2), (7, nq_if (fun x => x = 0) 31), (10, np_ild 1 2), (11, np_push 1 (.int 1)), (12, nq_ic (fun x y => x = y) 31), (15, np_ild 1 2), (16, np_push 1 (.int 2)), (17, nq_ic (fun x y => x = y) 31), (20, np_ild 1 2), (21, np_push 1 (.int 3)), (22, nq_ic (fun x y => x = y) 31), (25, np_ild 1 2), (26, np_push 2 (.int 6)), (28, nq_icne 35), (31, np_push 1 (.int 1)), (32, np_goto 36), (35, np_push 1 (.int 0)), (36, np_ret Rt)]
set_option maxRecDepth 20000 in
theorem so_X2_hasSlot {X : np_Ctx} {Rt : np_Rt} (hX : np_ok RX2 cX2_hasSlot 3 2 43 0 0 .ireturn X) (hR : ∀ st w ce sl, Rt st w ce sl → X.2.2.1 st w ce sl) : ∀ q ∈ is_X2_hasSlot Rt, np_S X q.1 q.2 :=
  List.forall_mem_cons.mpr ⟨np_s_aload_n hX dX2_hasSlot_0 rfl, List.forall_mem_cons.mpr ⟨np_s_iload_n hX dX2_hasSlot_1 rfl, List.forall_mem_cons.mpr ⟨np_S.mono (op := np_callV 2 2 sp_X2_kind 2 0 0 0 0) (np_s_callV hX C_X2_kind dX2_hasSlot_2 (q := (RX2, TX2, 5)) rfl rfl gw650 gw64 gw647 gw648 gw649 ⟨by decide, by decide, by decide⟩ (by decide) (by decide)) nw_callV_le, List.forall_mem_cons.mpr ⟨np_S.mono (op := np_ist 1 2) (np_s_istore_n hX dX2_hasSlot_5 rfl (by decide)) nw_ist_le, List.forall_mem_cons.mpr ⟨np_s_iload_n hX dX2_hasSlot_6 rfl, List.forall_mem_cons.mpr ⟨np_S.mono (op := np_if (fun x => x = 0) 31) (np_s_if_eq hX dX2_hasSlot_7 (by decide)) nq_if_le, List.forall_mem_cons.mpr ⟨np_s_iload_n hX dX2_hasSlot_10 rfl, List.forall_mem_cons.mpr ⟨np_s_iconst hX dX2_hasSlot_11 (by decide), List.forall_mem_cons.mpr ⟨np_S.mono (op := np_ic (fun x y => x = y) 31) (np_s_icmp_eq hX dX2_hasSlot_12 (by decide)) nq_ic_le, List.forall_mem_cons.mpr ⟨np_s_iload_n hX dX2_hasSlot_15 rfl, List.forall_mem_cons.mpr ⟨np_s_iconst hX dX2_hasSlot_16 (by decide), List.forall_mem_cons.mpr ⟨np_S.mono (op := np_ic (fun x y => x = y) 31) (np_s_icmp_eq hX dX2_hasSlot_17 (by decide)) nq_ic_le, List.forall_mem_cons.mpr ⟨np_s_iload_n hX dX2_hasSlot_20 rfl, List.forall_mem_cons.mpr ⟨np_s_iconst hX dX2_hasSlot_21 (by decide), List.forall_mem_cons.mpr ⟨np_S.mono (op := np_ic (fun x y => x = y) 31) (np_s_icmp_eq hX dX2_hasSlot_22 (by decide)) nq_ic_le, List.forall_mem_cons.mpr ⟨np_s_iload_n hX dX2_hasSlot_25 rfl, List.forall_mem_cons.mpr ⟨np_s_bipush hX dX2_hasSlot_26 (by decide), List.forall_mem_cons.mpr ⟨np_S.mono (op := np_icne 35) (np_s_icmp_ne hX dX2_hasSlot_28 (by decide)) nq_icne_le, List.forall_mem_cons.mpr ⟨np_s_iconst hX dX2_hasSlot_31 (by decide), List.forall_mem_cons.mpr ⟨np_s_goto hX dX2_hasSlot_32 (by decide), List.forall_mem_cons.mpr ⟨np_s_iconst hX dX2_hasSlot_35 (by decide), List.forall_mem_cons.mpr ⟨np_S.mono (op := np_ret X.2.2.1) (np_s_ret hX dX2_hasSlot_36) (nq_ret_le hR), fun _ h => nomatch h⟩⟩⟩⟩⟩⟩⟩⟩⟩⟩⟩⟩⟩⟩⟩⟩⟩⟩⟩⟩⟩⟩
noncomputable def m_X2_hasSlot (S : pw_S) (i0 : Nat) (x1 : Int32) : pw_R Int32 :=
 pw_b (m_X2_kind S i0 x1) fun S1 r4 =>
 pw_l (r4 : Int32) fun z6 =>
 if z6 = 0 then
 (some (S1, 1))
 else
 (if z6 = 1 then
 (some (S1, 1))
 else
 (if z6 = 2 then
 (some (S1, 1))
 else
 (if z6 = 3 then
 (some (S1, 1))
 else
 (if z6 = 6 then
 (some (S1, 1))
 else
 (some (S1, 0))))))
def sp_X2_hasSlot : np_Sp := fun vs w Q => ∃ (q : Nat) (S : pw_S) (i0 : Nat) (x1 : Int32), vs = [.ref (pw_pl 51 i0), .int x1] ∧ pw_ok q 51 i0 = true ∧ pw_W q w S ∧ pw_p (m_X2_hasSlot S i0 x1) (fun S' r => ∀ f', pw_W q (w.1, f') S' → Q (some (.int r)) (w.1, f'))
set_option maxRecDepth 100000 in
set_option maxHeartbeats 8000000 in
theorem C_X2_hasSlot : np_C yX2_hasSlot cX2_hasSlot 3 (some .boolean) 2 43 0 0 sp_X2_hasSlot := by
  refine np_of (by decide) ?_
  intro X vs w Q hsp hX hmn hRt hlt
  obtain ⟨q, S, i0, x1, rfl, hi0, hW, h⟩ := hsp
  obtain ⟨n, f⟩ := w
  unfold m_X2_hasSlot at h
  have hR : ∀ st w ce sl, np_rt (some .boolean) 0 0 Q st w ce sl → X.2.2.1 st w ce sl := fun _ _ _ _ h => by rw [hRt]; exact h
  refine np_soundW (so_X2_hasSlot hX hR) [] 400 0 _ _ _ _ _ ?_
  conv => whnf
  refine np_rd_i (hW.g hi0) ?_
  conv => whnf
  refine ⟨q, S, i0, x1, rfl, hi0, hW, pw_bd h (fun S1 r4 h f2 hW3 => ?_)⟩
  conv => whnf
  refine pw_st h (fun z6 h => ?_)
  conv => whnf
  refine pw_br h (fun _ h => ?_) (fun _ h => ?_)
  · conv => whnf
    exact ⟨Nat.le_of_ble_eq_true rfl, Nat.le_of_ble_eq_true rfl, ⟨_, rfl, by decide⟩, _, fun _ _ h9 => h9, pw_ps h _ hW3⟩
  · conv => whnf
    refine pw_br h (fun _ h => ?_) (fun _ h => ?_)
    · conv => whnf
      exact ⟨Nat.le_of_ble_eq_true rfl, Nat.le_of_ble_eq_true rfl, ⟨_, rfl, by decide⟩, _, fun _ _ h9 => h9, pw_ps h _ hW3⟩
    · conv => whnf
      refine pw_br h (fun _ h => ?_) (fun _ h => ?_)
      · conv => whnf
        exact ⟨Nat.le_of_ble_eq_true rfl, Nat.le_of_ble_eq_true rfl, ⟨_, rfl, by decide⟩, _, fun _ _ h9 => h9, pw_ps h _ hW3⟩
      · conv => whnf
        refine pw_br h (fun _ h => ?_) (fun _ h => ?_)
        · conv => whnf
          exact ⟨Nat.le_of_ble_eq_true rfl, Nat.le_of_ble_eq_true rfl, ⟨_, rfl, by decide⟩, _, fun _ _ h9 => h9, pw_ps h _ hW3⟩
        · conv => whnf
          refine pw_br h (fun _ h => ?_) (fun _ h => ?_)
          · conv => whnf
            exact ⟨Nat.le_of_ble_eq_true rfl, Nat.le_of_ble_eq_true rfl, ⟨_, rfl, by decide⟩, _, fun _ _ h9 => h9, pw_ps h _ hW3⟩
          · conv => whnf
            exact ⟨Nat.le_of_ble_eq_true rfl, Nat.le_of_ble_eq_true rfl, ⟨_, rfl, by decide⟩, _, fun _ _ h9 => h9, pw_ps h _ hW3⟩
theorem dX2_a_0 : decode cX2_a 0 = .ok (.aload_n 0, 1) := by decide +kernel
theorem dX2_a_1 : decode cX2_a 1 = .ok (.getfield 15, 3) := by decide +kernel
theorem dX2_a_4 : decode cX2_a 4 = .ok (.iload_n 1, 1) := by decide +kernel
theorem dX2_a_5 : decode cX2_a 5 = .ok (.iconst 0, 1) := by decide +kernel
theorem dX2_a_6 : decode cX2_a 6 = .ok (.invokestatic 56, 3) := by decide +kernel
theorem dX2_a_9 : decode cX2_a 9 = .ok (.ireturn, 1) := by decide +kernel
def is_X2_a (Rt : np_Rt) : List (Nat × np_Op) := [(0, np_ald 1 0), (1, nw_getf 2 1), (4, np_ild 1 1), (5, np_push 1 (.int 0)), (6, nq_call 3 sp_X11_at 3 0 0 0 0), (9, np_ret Rt)]
set_option maxRecDepth 20000 in
theorem so_X2_a {X : np_Ctx} {Rt : np_Rt} (hX : np_ok RX2 cX2_a 2 1 22 0 0 .ireturn X) (hR : ∀ st w ce sl, Rt st w ce sl → X.2.2.1 st w ce sl) : ∀ q ∈ is_X2_a Rt, np_S X q.1 q.2 :=
  List.forall_mem_cons.mpr ⟨np_s_aload_n hX dX2_a_0 rfl, List.forall_mem_cons.mpr ⟨np_S.mono (op := np_getf 2 1) (np_s_getf hX dX2_a_1 (C := RX2) (T := TX2) (N := 5) rfl guX2 (by decide) gw101) nw_getf_le, List.forall_mem_cons.mpr ⟨np_s_iload_n hX dX2_a_4 rfl, List.forall_mem_cons.mpr ⟨np_s_iconst hX dX2_a_5 (by decide), List.forall_mem_cons.mpr ⟨np_S.mono (op := np_call 3 sp_X11_at 3 0 0 0 0) (np_s_callSN hX C_X11_at dX2_a_6 gw653 gw63 gw651 gw652 ⟨by decide, by decide, by decide⟩ (by decide) (by decide)) nq_call_le, List.forall_mem_cons.mpr ⟨np_S.mono (op := np_ret X.2.2.1) (np_s_ret hX dX2_a_9) (nq_ret_le hR), fun _ h => nomatch h⟩⟩⟩⟩⟩⟩
noncomputable def m_X2_a (S : pw_S) (i0 : Nat) (x1 : Int32) : pw_R Int32 :=
 pw_b (m_X11_at S 3 i0 x1 0) fun S1 r4 =>
 some (S1, r4)
def sp_X2_a : np_Sp := fun vs w Q => ∃ (q : Nat) (S : pw_S) (i0 : Nat) (x1 : Int32), vs = [.ref (pw_pl 51 i0), .int x1] ∧ pw_ok q 51 i0 = true ∧ pw_W q w S ∧ pw_p (m_X2_a S i0 x1) (fun S' r => ∀ f', pw_W q (w.1, f') S' → Q (some (.int r)) (w.1, f'))
set_option maxRecDepth 100000 in
set_option maxHeartbeats 8000000 in
theorem C_X2_a : np_C yX2_a cX2_a 2 (some .int) 1 22 0 0 sp_X2_a := by
  refine np_of (by decide) ?_
  intro X vs w Q hsp hX hmn hRt hlt
  obtain ⟨q, S, i0, x1, rfl, hi0, hW, h⟩ := hsp
  obtain ⟨n, f⟩ := w
  unfold m_X2_a at h
  have hR : ∀ st w ce sl, np_rt (some .int) 0 0 Q st w ce sl → X.2.2.1 st w ce sl := fun _ _ _ _ h => by rw [hRt]; exact h
  refine np_soundW (so_X2_a hX hR) [] 400 0 _ _ _ _ _ ?_
  conv => whnf
  refine np_rd_i (hW.g hi0) ?_
  conv => whnf
  refine ⟨q, S, 3, i0, x1, 0, rfl, rfl, hi0, hW, pw_bd h (fun S1 r4 h f2 hW3 => ?_)⟩
  conv => whnf
  exact ⟨Nat.le_of_ble_eq_true rfl, Nat.le_of_ble_eq_true rfl, ⟨_, rfl⟩, _, fun _ _ h9 => h9, pw_ps h _ hW3⟩
theorem dX2_itemOf_0 : decode cX2_itemOf 0 = .ok (.iconst 0, 1) := by decide +kernel
theorem dX2_itemOf_1 : decode cX2_itemOf 1 = .ok (.istore_n 2, 1) := by decide +kernel
theorem dX2_itemOf_2 : decode cX2_itemOf 2 = .ok (.iload_n 2, 1) := by decide +kernel
theorem dX2_itemOf_3 : decode cX2_itemOf 3 = .ok (.aload_n 0, 1) := by decide +kernel
theorem dX2_itemOf_4 : decode cX2_itemOf 4 = .ok (.getfield 28, 3) := by decide +kernel
theorem dX2_itemOf_7 : decode cX2_itemOf 7 = .ok (.if_icmp .ge 28, 3) := by decide +kernel
theorem dX2_itemOf_10 : decode cX2_itemOf 10 = .ok (.aload_n 0, 1) := by decide +kernel
theorem dX2_itemOf_11 : decode cX2_itemOf 11 = .ok (.iload_n 2, 1) := by decide +kernel
theorem dX2_itemOf_12 : decode cX2_itemOf 12 = .ok (.invokevirtual 60, 3) := by decide +kernel
theorem dX2_itemOf_15 : decode cX2_itemOf 15 = .ok (.ifCond .eq 14, 3) := by decide +kernel
theorem dX2_itemOf_18 : decode cX2_itemOf 18 = .ok (.aload_n 0, 1) := by decide +kernel
theorem dX2_itemOf_19 : decode cX2_itemOf 19 = .ok (.iload_n 2, 1) := by decide +kernel
theorem dX2_itemOf_20 : decode cX2_itemOf 20 = .ok (.invokevirtual 43, 3) := by decide +kernel
theorem dX2_itemOf_23 : decode cX2_itemOf 23 = .ok (.iload_n 1, 1) := by decide +kernel
theorem dX2_itemOf_24 : decode cX2_itemOf 24 = .ok (.if_icmp .ne 5, 3) := by decide +kernel
theorem dX2_itemOf_27 : decode cX2_itemOf 27 = .ok (.iload_n 2, 1) := by decide +kernel
theorem dX2_itemOf_28 : decode cX2_itemOf 28 = .ok (.ireturn, 1) := by decide +kernel
theorem dX2_itemOf_29 : decode cX2_itemOf 29 = .ok (.iinc 2 1, 3) := by decide +kernel
theorem dX2_itemOf_32 : decode cX2_itemOf 32 = .ok (.goto (-30), 3) := by decide +kernel
theorem dX2_itemOf_35 : decode cX2_itemOf 35 = .ok (.aload_n 0, 1) := by decide +kernel
theorem dX2_itemOf_36 : decode cX2_itemOf 36 = .ok (.getfield 28, 3) := by decide +kernel
theorem dX2_itemOf_39 : decode cX2_itemOf 39 = .ok (.ireturn, 1) := by decide +kernel
def is_X2_itemOf (Rt : np_Rt) : List (Nat × np_Op) := [(0, np_push 1 (.int 0)), (1, nw_ist 1 2), (2, np_ild 1 2), (3, np_ald 1 0), (4, nw_getf 2 4), (7, nq_ic (fun x y => y ≤ x) 35), (10, np_ald 1 0), (11, np_ild 1 2), (12, nw_callV 2 2 sp_X2_hasSlot 3 0 0 0 0), (15, nq_if (fun x => x = 0) 29), (18, np_ald 1 0), (19, np_ild 1 2), (20, nw_callV 2 2 sp_X2_a 2 0 0 0 0), (23, np_ild 1 1), (24, nq_icne 29), (27, np_ild 1 2), (28, np_ret Rt), (29, nw_iinc 2 1), (32, np_goto 2), (35, np_ald 1 0), (36, nw_getf 2 4), (39, np_ret Rt)]
set_option maxRecDepth 20000 in
theorem so_X2_itemOf {X : np_Ctx} {Rt : np_Rt} (hX : np_ok RX2 cX2_itemOf 3 3 65 0 0 .ireturn X) (hR : ∀ st w ce sl, Rt st w ce sl → X.2.2.1 st w ce sl) : ∀ q ∈ is_X2_itemOf Rt, np_S X q.1 q.2 :=
  List.forall_mem_cons.mpr ⟨np_s_iconst hX dX2_itemOf_0 (by decide), List.forall_mem_cons.mpr ⟨np_S.mono (op := np_ist 1 2) (np_s_istore_n hX dX2_itemOf_1 rfl (by decide)) nw_ist_le, List.forall_mem_cons.mpr ⟨np_s_iload_n hX dX2_itemOf_2 rfl, List.forall_mem_cons.mpr ⟨np_s_aload_n hX dX2_itemOf_3 rfl, List.forall_mem_cons.mpr ⟨np_S.mono (op := np_getf 2 4) (np_s_getf hX dX2_itemOf_4 (C := RX2) (T := TX2) (N := 5) rfl guX2 (by decide) gw105) nw_getf_le, List.forall_mem_cons.mpr ⟨np_S.mono (op := np_ic (fun x y => y ≤ x) 35) (np_s_icmp_ge hX dX2_itemOf_7 (by decide)) nq_ic_le, List.forall_mem_cons.mpr ⟨np_s_aload_n hX dX2_itemOf_10 rfl, List.forall_mem_cons.mpr ⟨np_s_iload_n hX dX2_itemOf_11 rfl, List.forall_mem_cons.mpr ⟨np_S.mono (op := np_callV 2 2 sp_X2_hasSlot 3 0 0 0 0) (np_s_callV hX C_X2_hasSlot dX2_itemOf_12 (q := (RX2, TX2, 5)) rfl rfl gw646 gw64 gw643 gw644 gw645 ⟨by decide, by decide, by decide⟩ (by decide) (by decide)) nw_callV_le, List.forall_mem_cons.mpr ⟨np_S.mono (op := np_if (fun x => x = 0) 29) (np_s_if_eq hX dX2_itemOf_15 (by decide)) nq_if_le, List.forall_mem_cons.mpr ⟨np_s_aload_n hX dX2_itemOf_18 rfl, List.forall_mem_cons.mpr ⟨np_s_iload_n hX dX2_itemOf_19 rfl, List.forall_mem_cons.mpr ⟨np_S.mono (op := np_callV 2 2 sp_X2_a 2 0 0 0 0) (np_s_callV hX C_X2_a dX2_itemOf_20 (q := (RX2, TX2, 5)) rfl rfl gw657 gw64 gw654 gw655 gw656 ⟨by decide, by decide, by decide⟩ (by decide) (by decide)) nw_callV_le, List.forall_mem_cons.mpr ⟨np_s_iload_n hX dX2_itemOf_23 rfl, List.forall_mem_cons.mpr ⟨np_S.mono (op := np_icne 29) (np_s_icmp_ne hX dX2_itemOf_24 (by decide)) nq_icne_le, List.forall_mem_cons.mpr ⟨np_s_iload_n hX dX2_itemOf_27 rfl, List.forall_mem_cons.mpr ⟨np_S.mono (op := np_ret X.2.2.1) (np_s_ret hX dX2_itemOf_28) (nq_ret_le hR), List.forall_mem_cons.mpr ⟨np_S.mono (op := np_iinc 2 1) (np_s_iinc hX dX2_itemOf_29 (by decide)) nw_iinc_le, List.forall_mem_cons.mpr ⟨np_s_goto hX dX2_itemOf_32 (by decide), List.forall_mem_cons.mpr ⟨np_s_aload_n hX dX2_itemOf_35 rfl, List.forall_mem_cons.mpr ⟨np_S.mono (op := np_getf 2 4) (np_s_getf hX dX2_itemOf_36 (C := RX2) (T := TX2) (N := 5) rfl guX2 (by decide) gw105) nw_getf_le, List.forall_mem_cons.mpr ⟨np_S.mono (op := np_ret X.2.2.1) (np_s_ret hX dX2_itemOf_39) (nq_ret_le hR), fun _ h => nomatch h⟩⟩⟩⟩⟩⟩⟩⟩⟩⟩⟩⟩⟩⟩⟩⟩⟩⟩⟩⟩⟩⟩
noncomputable def m_X2_itemOf_2 : Nat → pw_S → Nat → Int32 → Int32 → pw_R Int32
| 0, _, _, _, _ => none
| N + 1, S, v0, v1, v2 =>
 if (S 51 v0 4) ≤ v2 then
 (some (S, (S 51 v0 4)))
 else
 (pw_b (m_X2_hasSlot S v0 v2) fun S1 r4 =>
 if r4 = 0 then
 (pw_l (v2 + 1 : Int32) fun z6 =>
 m_X2_itemOf_2 N S1 v0 v1 z6)
 else
 (pw_b (m_X2_a S1 v0 v2) fun S7 r10 =>
 if r10 = v1 then
 (some (S7, v2))
 else
 (pw_l (v2 + 1 : Int32) fun z12 =>
 m_X2_itemOf_2 N S7 v0 v1 z12)))
set_option maxRecDepth 100000 in
set_option maxHeartbeats 8000000 in
theorem L_X2_itemOf_2 {X : np_Ctx} (hX : np_ok RX2 cX2_itemOf 3 3 65 0 0 .ireturn X) {Q : Option Value → np_W → Prop} {q n : Nat} (hR : ∀ st w ce sl, np_rt (some .int) 0 0 Q st w ce sl → X.2.2.1 st w ce sl) : ∀ (N : Nat) (S : pw_S) (v0 : Nat) (v1 : Int32) (v2 : Int32) (f : Nat → Option np_E) (hv0 : pw_ok q 51 v0 = true), pw_W q (n, f) S → pw_p (m_X2_itemOf_2 N S v0 v1 v2) (fun S' r => ∀ f', pw_W q (n, f') S' → Q (some (.int r)) (n, f')) → np_G X 2 [(0, .ref (pw_pl 51 v0)), (1, .int v1), (2, .int v2)] [] (n, f) 0 0 := by
  intro N
  induction N with
  | zero =>
    intro S v0 v1 v2 f hv0 hW h
    exact (pw_pn h).elim
  | succ N ih =>
    intro S v0 v1 v2 f hv0 hW h
    unfold m_X2_itemOf_2 at h
    refine np_soundW (so_X2_itemOf hX hR) [2] 400 2 _ _ _ _ _ ?_
    conv => whnf
    refine np_rd_i (hW.g hv0) ?_
    conv => whnf
    refine pw_br h (fun _ h => ?_) (fun _ h => ?_)
    · conv => whnf
      refine np_rd_i (hW.g hv0) ?_
      conv => whnf
      exact ⟨Nat.le_of_ble_eq_true rfl, Nat.le_of_ble_eq_true rfl, ⟨_, rfl⟩, _, fun _ _ h9 => h9, pw_ps h _ hW⟩
    · conv => whnf
      refine np_rd_i (hW.g hv0) ?_
      conv => whnf
      refine ⟨q, S, v0, v2, rfl, hv0, hW, pw_bd h (fun S1 r4 h f2 hW3 => ?_)⟩
      conv => whnf
      refine pw_br h (fun _ h => ?_) (fun _ h => ?_)
      · conv => whnf
        refine pw_st h (fun z6 h => ?_)
        conv => whnf
        exact np_gl (ih S1 v0 v1 z6 f2 hv0 hW3 h) ⟨rfl, rfl, rfl, trivial⟩
      · conv => whnf
        refine np_rd_i (hW3.g hv0) ?_
        conv => whnf
        refine ⟨q, S1, v0, v2, rfl, hv0, hW3, pw_bd h (fun S7 r10 h f8 hW9 => ?_)⟩
        conv => whnf
        refine pw_br h (fun _ h => ?_) (fun _ h => ?_)
        · conv => whnf
          exact ⟨Nat.le_of_ble_eq_true rfl, Nat.le_of_ble_eq_true rfl, ⟨_, rfl⟩, _, fun _ _ h9 => h9, pw_ps h _ hW9⟩
        · conv => whnf
          refine pw_st h (fun z12 h => ?_)
          conv => whnf
          exact np_gl (ih S7 v0 v1 z12 f8 hv0 hW9 h) ⟨rfl, rfl, rfl, trivial⟩
noncomputable def m_X2_itemOf (S : pw_S) (i0 : Nat) (x1 : Int32) : pw_R Int32 :=
 pw_l (0 : Int32) fun z13 =>
 m_X2_itemOf_2 (pw_F 20000) S i0 x1 z13
def sp_X2_itemOf : np_Sp := fun vs w Q => ∃ (q : Nat) (S : pw_S) (i0 : Nat) (x1 : Int32), vs = [.ref (pw_pl 51 i0), .int x1] ∧ pw_ok q 51 i0 = true ∧ pw_W q w S ∧ pw_p (m_X2_itemOf S i0 x1) (fun S' r => ∀ f', pw_W q (w.1, f') S' → Q (some (.int r)) (w.1, f'))
set_option maxRecDepth 100000 in
set_option maxHeartbeats 8000000 in
theorem C_X2_itemOf : np_C yX2_itemOf cX2_itemOf 3 (some .int) 3 65 0 0 sp_X2_itemOf := by
  refine np_of (by decide) ?_
  intro X vs w Q hsp hX hmn hRt hlt
  obtain ⟨q, S, i0, x1, rfl, hi0, hW, h⟩ := hsp
  obtain ⟨n, f⟩ := w
  unfold m_X2_itemOf at h
  have hR : ∀ st w ce sl, np_rt (some .int) 0 0 Q st w ce sl → X.2.2.1 st w ce sl := fun _ _ _ _ h => by rw [hRt]; exact h
  refine np_soundW (so_X2_itemOf hX hR) [2] 400 0 _ _ _ _ _ ?_
  conv => whnf
  refine pw_st h (fun z13 h => ?_)
  conv => whnf
  exact np_gl (L_X2_itemOf_2 hX hR (pw_F 20000) S i0 x1 z13 f hi0 hW h) ⟨rfl, rfl, rfl, trivial⟩
theorem dX2_b_0 : decode cX2_b 0 = .ok (.aload_n 0, 1) := by decide +kernel
theorem dX2_b_1 : decode cX2_b 1 = .ok (.getfield 18, 3) := by decide +kernel
theorem dX2_b_4 : decode cX2_b 4 = .ok (.iload_n 1, 1) := by decide +kernel
theorem dX2_b_5 : decode cX2_b 5 = .ok (.iconst 0, 1) := by decide +kernel
theorem dX2_b_6 : decode cX2_b 6 = .ok (.invokestatic 56, 3) := by decide +kernel
theorem dX2_b_9 : decode cX2_b 9 = .ok (.ireturn, 1) := by decide +kernel
def is_X2_b (Rt : np_Rt) : List (Nat × np_Op) := [(0, np_ald 1 0), (1, nw_getf 2 2), (4, np_ild 1 1), (5, np_push 1 (.int 0)), (6, nq_call 3 sp_X11_at 3 0 0 0 0), (9, np_ret Rt)]
set_option maxRecDepth 20000 in
theorem so_X2_b {X : np_Ctx} {Rt : np_Rt} (hX : np_ok RX2 cX2_b 2 1 22 0 0 .ireturn X) (hR : ∀ st w ce sl, Rt st w ce sl → X.2.2.1 st w ce sl) : ∀ q ∈ is_X2_b Rt, np_S X q.1 q.2 :=
  List.forall_mem_cons.mpr ⟨np_s_aload_n hX dX2_b_0 rfl, List.forall_mem_cons.mpr ⟨np_S.mono (op := np_getf 2 2) (np_s_getf hX dX2_b_1 (C := RX2) (T := TX2) (N := 5) rfl guX2 (by decide) gw102) nw_getf_le, List.forall_mem_cons.mpr ⟨np_s_iload_n hX dX2_b_4 rfl, List.forall_mem_cons.mpr ⟨np_s_iconst hX dX2_b_5 (by decide), List.forall_mem_cons.mpr ⟨np_S.mono (op := np_call 3 sp_X11_at 3 0 0 0 0) (np_s_callSN hX C_X11_at dX2_b_6 gw653 gw63 gw651 gw652 ⟨by decide, by decide, by decide⟩ (by decide) (by decide)) nq_call_le, List.forall_mem_cons.mpr ⟨np_S.mono (op := np_ret X.2.2.1) (np_s_ret hX dX2_b_9) (nq_ret_le hR), fun _ h => nomatch h⟩⟩⟩⟩⟩⟩
noncomputable def m_X2_b (S : pw_S) (i0 : Nat) (x1 : Int32) : pw_R Int32 :=
 pw_b (m_X11_at S 4 i0 x1 0) fun S1 r4 =>
 some (S1, r4)
def sp_X2_b : np_Sp := fun vs w Q => ∃ (q : Nat) (S : pw_S) (i0 : Nat) (x1 : Int32), vs = [.ref (pw_pl 51 i0), .int x1] ∧ pw_ok q 51 i0 = true ∧ pw_W q w S ∧ pw_p (m_X2_b S i0 x1) (fun S' r => ∀ f', pw_W q (w.1, f') S' → Q (some (.int r)) (w.1, f'))
set_option maxRecDepth 100000 in
set_option maxHeartbeats 8000000 in
theorem C_X2_b : np_C yX2_b cX2_b 2 (some .int) 1 22 0 0 sp_X2_b := by
  refine np_of (by decide) ?_
  intro X vs w Q hsp hX hmn hRt hlt
  obtain ⟨q, S, i0, x1, rfl, hi0, hW, h⟩ := hsp
  obtain ⟨n, f⟩ := w
  unfold m_X2_b at h
  have hR : ∀ st w ce sl, np_rt (some .int) 0 0 Q st w ce sl → X.2.2.1 st w ce sl := fun _ _ _ _ h => by rw [hRt]; exact h
  refine np_soundW (so_X2_b hX hR) [] 400 0 _ _ _ _ _ ?_
  conv => whnf
  refine np_rd_i (hW.g hi0) ?_
  conv => whnf
  refine ⟨q, S, 4, i0, x1, 0, rfl, rfl, hi0, hW, pw_bd h (fun S1 r4 h f2 hW3 => ?_)⟩
  conv => whnf
  exact ⟨Nat.le_of_ble_eq_true rfl, Nat.le_of_ble_eq_true rfl, ⟨_, rfl⟩, _, fun _ _ h9 => h9, pw_ps h _ hW3⟩
theorem dX2_isInLoop_0 : decode cX2_isInLoop 0 = .ok (.iconst 0, 1) := by decide +kernel
theorem dX2_isInLoop_1 : decode cX2_isInLoop 1 = .ok (.istore_n 2, 1) := by decide +kernel
theorem dX2_isInLoop_2 : decode cX2_isInLoop 2 = .ok (.iload_n 2, 1) := by decide +kernel
theorem dX2_isInLoop_3 : decode cX2_isInLoop 3 = .ok (.iload_n 1, 1) := by decide +kernel
theorem dX2_isInLoop_4 : decode cX2_isInLoop 4 = .ok (.if_icmp .ge 40, 3) := by decide +kernel
theorem dX2_isInLoop_7 : decode cX2_isInLoop 7 = .ok (.iload_n 2, 1) := by decide +kernel
theorem dX2_isInLoop_8 : decode cX2_isInLoop 8 = .ok (.aload_n 0, 1) := by decide +kernel
theorem dX2_isInLoop_9 : decode cX2_isInLoop 9 = .ok (.getfield 28, 3) := by decide +kernel
theorem dX2_isInLoop_12 : decode cX2_isInLoop 12 = .ok (.if_icmp .ge 32, 3) := by decide +kernel
theorem dX2_isInLoop_15 : decode cX2_isInLoop 15 = .ok (.aload_n 0, 1) := by decide +kernel
theorem dX2_isInLoop_16 : decode cX2_isInLoop 16 = .ok (.iload_n 2, 1) := by decide +kernel
theorem dX2_isInLoop_17 : decode cX2_isInLoop 17 = .ok (.invokevirtual 39, 3) := by decide +kernel
theorem dX2_isInLoop_20 : decode cX2_isInLoop 20 = .ok (.bipush 7, 2) := by decide +kernel
theorem dX2_isInLoop_22 : decode cX2_isInLoop 22 = .ok (.if_icmp .ne 16, 3) := by decide +kernel
theorem dX2_isInLoop_25 : decode cX2_isInLoop 25 = .ok (.iload_n 1, 1) := by decide +kernel
theorem dX2_isInLoop_26 : decode cX2_isInLoop 26 = .ok (.iload_n 2, 1) := by decide +kernel
theorem dX2_isInLoop_27 : decode cX2_isInLoop 27 = .ok (.aload_n 0, 1) := by decide +kernel
theorem dX2_isInLoop_28 : decode cX2_isInLoop 28 = .ok (.iload_n 2, 1) := by decide +kernel
theorem dX2_isInLoop_29 : decode cX2_isInLoop 29 = .ok (.invokevirtual 46, 3) := by decide +kernel
theorem dX2_isInLoop_32 : decode cX2_isInLoop 32 = .ok (.iadd, 1) := by decide +kernel
theorem dX2_isInLoop_33 : decode cX2_isInLoop 33 = .ok (.if_icmp .gt 5, 3) := by decide +kernel
theorem dX2_isInLoop_36 : decode cX2_isInLoop 36 = .ok (.iconst 1, 1) := by decide +kernel
theorem dX2_isInLoop_37 : decode cX2_isInLoop 37 = .ok (.ireturn, 1) := by decide +kernel
theorem dX2_isInLoop_38 : decode cX2_isInLoop 38 = .ok (.iinc 2 1, 3) := by decide +kernel
theorem dX2_isInLoop_41 : decode cX2_isInLoop 41 = .ok (.goto (-39), 3) := by decide +kernel
theorem dX2_isInLoop_44 : decode cX2_isInLoop 44 = .ok (.iconst 0, 1) := by decide +kernel
theorem dX2_isInLoop_45 : decode cX2_isInLoop 45 = .ok (.ireturn, 1) := by decide +kernel
def is_X2_isInLoop (Rt : np_Rt) : List (Nat × np_Op) := [(0, np_push 1 (.int 0)), (1, nw_ist 1 2), (2, np_ild 1 2), (3, np_ild 1 1), (4, nq_ic (fun x y => y ≤ x) 44), (7, np_ild 1 2), (8, np_ald 1 0), (9, nw_getf 2 4), (12, nq_ic (fun x y => y ≤ x) 44), (15, np_ald 1 0), (16, np_ild 1 2), (17, nw_callV 2 2 sp_X2_kind 2 0 0 0 0), (20, np_push 2 (.int 7)), (22, nq_icne 38), (25, np_ild 1 1), (26, np_ild 1 2), (27, np_ald 1 0), (28, np_ild 1 2), (29, nw_callV 2 2 sp_X2_b 2 0 0 0 0), (32, np_ib (fun x y => x + y)), (33, nq_ic (fun x y => y < x) 38), (36, np_push 1 (.int 1)), (37, np_ret Rt), (38, nw_iinc 2 1), (41, np_goto 2), (44, np_push 1 (.int 0)), (45, np_ret Rt)]
set_option maxRecDepth 20000 in
theorem so_X2_isInLoop {X : np_Ctx} {Rt : np_Rt} (hX : np_ok RX2 cX2_isInLoop 3 2 43 0 0 .ireturn X) (hR : ∀ st w ce sl, Rt st w ce sl → X.2.2.1 st w ce sl) : ∀ q ∈ is_X2_isInLoop Rt, np_S X q.1 q.2 :=
  List.forall_mem_cons.mpr ⟨np_s_iconst hX dX2_isInLoop_0 (by decide), List.forall_mem_cons.mpr ⟨np_S.mono (op := np_ist 1 2) (np_s_istore_n hX dX2_isInLoop_1 rfl (by decide)) nw_ist_le, List.forall_mem_cons.mpr ⟨np_s_iload_n hX dX2_isInLoop_2 rfl, List.forall_mem_cons.mpr ⟨np_s_iload_n hX dX2_isInLoop_3 rfl, List.forall_mem_cons.mpr ⟨np_S.mono (op := np_ic (fun x y => y ≤ x) 44) (np_s_icmp_ge hX dX2_isInLoop_4 (by decide)) nq_ic_le, List.forall_mem_cons.mpr ⟨np_s_iload_n hX dX2_isInLoop_7 rfl, List.forall_mem_cons.mpr ⟨np_s_aload_n hX dX2_isInLoop_8 rfl, List.forall_mem_cons.mpr ⟨np_S.mono (op := np_getf 2 4) (np_s_getf hX dX2_isInLoop_9 (C := RX2) (T := TX2) (N := 5) rfl guX2 (by decide) gw105) nw_getf_le, List.forall_mem_cons.mpr ⟨np_S.mono (op := np_ic (fun x y => y ≤ x) 44) (np_s_icmp_ge hX dX2_isInLoop_12 (by decide)) nq_ic_le, List.forall_mem_cons.mpr ⟨np_s_aload_n hX dX2_isInLoop_15 rfl, List.forall_mem_cons.mpr ⟨np_s_iload_n hX dX2_isInLoop_16 rfl, List.forall_mem_cons.mpr ⟨np_S.mono (op := np_callV 2 2 sp_X2_kind 2 0 0 0 0) (np_s_callV hX C_X2_kind dX2_isInLoop_17 (q := (RX2, TX2, 5)) rfl rfl gw650 gw64 gw647 gw648 gw649 ⟨by decide, by decide, by decide⟩ (by decide) (by decide)) nw_callV_le, List.forall_mem_cons.mpr ⟨np_s_bipush hX dX2_isInLoop_20 (by decide), List.forall_mem_cons.mpr ⟨np_S.mono (op := np_icne 38) (np_s_icmp_ne hX dX2_isInLoop_22 (by decide)) nq_icne_le, List.forall_mem_cons.mpr ⟨np_s_iload_n hX dX2_isInLoop_25 rfl, List.forall_mem_cons.mpr ⟨np_s_iload_n hX dX2_isInLoop_26 rfl, List.forall_mem_cons.mpr ⟨np_s_aload_n hX dX2_isInLoop_27 rfl, List.forall_mem_cons.mpr ⟨np_s_iload_n hX dX2_isInLoop_28 rfl, List.forall_mem_cons.mpr ⟨np_S.mono (op := np_callV 2 2 sp_X2_b 2 0 0 0 0) (np_s_callV hX C_X2_b dX2_isInLoop_29 (q := (RX2, TX2, 5)) rfl rfl gw673 gw64 gw670 gw671 gw672 ⟨by decide, by decide, by decide⟩ (by decide) (by decide)) nw_callV_le, List.forall_mem_cons.mpr ⟨np_s_iadd hX dX2_isInLoop_32, List.forall_mem_cons.mpr ⟨np_S.mono (op := np_ic (fun x y => y < x) 38) (np_s_icmp_gt hX dX2_isInLoop_33 (by decide)) nq_ic_le, List.forall_mem_cons.mpr ⟨np_s_iconst hX dX2_isInLoop_36 (by decide), List.forall_mem_cons.mpr ⟨np_S.mono (op := np_ret X.2.2.1) (np_s_ret hX dX2_isInLoop_37) (nq_ret_le hR), List.forall_mem_cons.mpr ⟨np_S.mono (op := np_iinc 2 1) (np_s_iinc hX dX2_isInLoop_38 (by decide)) nw_iinc_le, List.forall_mem_cons.mpr ⟨np_s_goto hX dX2_isInLoop_41 (by decide), List.forall_mem_cons.mpr ⟨np_s_iconst hX dX2_isInLoop_44 (by decide), List.forall_mem_cons.mpr ⟨np_S.mono (op := np_ret X.2.2.1) (np_s_ret hX dX2_isInLoop_45) (nq_ret_le hR), fun _ h => nomatch h⟩⟩⟩⟩⟩⟩⟩⟩⟩⟩⟩⟩⟩⟩⟩⟩⟩⟩⟩⟩⟩⟩⟩⟩⟩⟩⟩
noncomputable def m_X2_isInLoop_2 : Nat → pw_S → Nat → Int32 → Int32 → pw_R Int32
| 0, _, _, _, _ => none
| N + 1, S, v0, v1, v2 =>
 if v1 ≤ v2 then
 (some (S, 0))
 else
 (if (S 51 v0 4) ≤ v2 then
 (some (S, 0))
 else
 (pw_b (m_X2_kind S v0 v2) fun S1 r4 =>
 if r4 = 7 then
 (pw_b (m_X2_b S1 v0 v2) fun S6 r9 =>
 if (v2 + r9) < v1 then
 (pw_l (v2 + 1 : Int32) fun z11 =>
 m_X2_isInLoop_2 N S6 v0 v1 z11)
 else
 (some (S6, 1)))
 else
 (pw_l (v2 + 1 : Int32) fun z12 =>
 m_X2_isInLoop_2 N S1 v0 v1 z12)))
set_option maxRecDepth 100000 in
set_option maxHeartbeats 8000000 in
theorem L_X2_isInLoop_2 {X : np_Ctx} (hX : np_ok RX2 cX2_isInLoop 3 2 43 0 0 .ireturn X) {Q : Option Value → np_W → Prop} {q n : Nat} (hR : ∀ st w ce sl, np_rt (some .boolean) 0 0 Q st w ce sl → X.2.2.1 st w ce sl) : ∀ (N : Nat) (S : pw_S) (v0 : Nat) (v1 : Int32) (v2 : Int32) (f : Nat → Option np_E) (hv0 : pw_ok q 51 v0 = true), pw_W q (n, f) S → pw_p (m_X2_isInLoop_2 N S v0 v1 v2) (fun S' r => ∀ f', pw_W q (n, f') S' → Q (some (.int r)) (n, f')) → np_G X 2 [(0, .ref (pw_pl 51 v0)), (1, .int v1), (2, .int v2)] [] (n, f) 0 0 := by
  intro N
  induction N with
  | zero =>
    intro S v0 v1 v2 f hv0 hW h
    exact (pw_pn h).elim
  | succ N ih =>
    intro S v0 v1 v2 f hv0 hW h
    unfold m_X2_isInLoop_2 at h
    refine np_soundW (so_X2_isInLoop hX hR) [2] 400 2 _ _ _ _ _ ?_
    conv => whnf
    refine pw_br h (fun _ h => ?_) (fun _ h => ?_)
    · conv => whnf
      exact ⟨Nat.le_of_ble_eq_true rfl, Nat.le_of_ble_eq_true rfl, ⟨_, rfl, by decide⟩, _, fun _ _ h9 => h9, pw_ps h _ hW⟩
    · conv => whnf
      refine np_rd_i (hW.g hv0) ?_
      conv => whnf
      refine pw_br h (fun _ h => ?_) (fun _ h => ?_)
      · conv => whnf
        exact ⟨Nat.le_of_ble_eq_true rfl, Nat.le_of_ble_eq_true rfl, ⟨_, rfl, by decide⟩, _, fun _ _ h9 => h9, pw_ps h _ hW⟩
      · conv => whnf
        refine np_rd_i (hW.g hv0) ?_
        conv => whnf
        refine ⟨q, S, v0, v2, rfl, hv0, hW, pw_bd h (fun S1 r4 h f2 hW3 => ?_)⟩
        conv => whnf
        refine pw_br h (fun _ h => ?_) (fun _ h => ?_)
        · conv => whnf
          refine np_rd_i (hW3.g hv0) ?_
          conv => whnf
          refine ⟨q, S1, v0, v2, rfl, hv0, hW3, pw_bd h (fun S6 r9 h f7 hW8 => ?_)⟩
          conv => whnf
          refine pw_br h (fun _ h => ?_) (fun _ h => ?_)
          · conv => whnf
            refine pw_st h (fun z11 h => ?_)
            conv => whnf
            exact np_gl (ih S6 v0 v1 z11 f7 hv0 hW8 h) ⟨rfl, rfl, rfl, trivial⟩
          · conv => whnf
            exact ⟨Nat.le_of_ble_eq_true rfl, Nat.le_of_ble_eq_true rfl, ⟨_, rfl, by decide⟩, _, fun _ _ h9 => h9, pw_ps h _ hW8⟩
        · conv => whnf
          refine pw_st h (fun z12 h => ?_)
          conv => whnf
          exact np_gl (ih S1 v0 v1 z12 f2 hv0 hW3 h) ⟨rfl, rfl, rfl, trivial⟩
noncomputable def m_X2_isInLoop (S : pw_S) (i0 : Nat) (x1 : Int32) : pw_R Int32 :=
 pw_l (0 : Int32) fun z13 =>
 m_X2_isInLoop_2 (pw_F 20000) S i0 x1 z13
def sp_X2_isInLoop : np_Sp := fun vs w Q => ∃ (q : Nat) (S : pw_S) (i0 : Nat) (x1 : Int32), vs = [.ref (pw_pl 51 i0), .int x1] ∧ pw_ok q 51 i0 = true ∧ pw_W q w S ∧ pw_p (m_X2_isInLoop S i0 x1) (fun S' r => ∀ f', pw_W q (w.1, f') S' → Q (some (.int r)) (w.1, f'))
set_option maxRecDepth 100000 in
set_option maxHeartbeats 8000000 in
theorem C_X2_isInLoop : np_C yX2_isInLoop cX2_isInLoop 3 (some .boolean) 2 43 0 0 sp_X2_isInLoop := by
  refine np_of (by decide) ?_
  intro X vs w Q hsp hX hmn hRt hlt
  obtain ⟨q, S, i0, x1, rfl, hi0, hW, h⟩ := hsp
  obtain ⟨n, f⟩ := w
  unfold m_X2_isInLoop at h
  have hR : ∀ st w ce sl, np_rt (some .boolean) 0 0 Q st w ce sl → X.2.2.1 st w ce sl := fun _ _ _ _ h => by rw [hRt]; exact h
  refine np_soundW (so_X2_isInLoop hX hR) [2] 400 0 _ _ _ _ _ ?_
  conv => whnf
  refine pw_st h (fun z13 h => ?_)
  conv => whnf
  exact np_gl (L_X2_isInLoop_2 hX hR (pw_F 20000) S i0 x1 z13 f hi0 hW h) ⟨rfl, rfl, rfl, trivial⟩
theorem dX2_canBeConstrained_0 : decode cX2_canBeConstrained 0 = .ok (.aload_n 0, 1) := by decide +kernel
theorem dX2_canBeConstrained_1 : decode cX2_canBeConstrained 1 = .ok (.iload_n 1, 1) := by decide +kernel
theorem dX2_canBeConstrained_2 : decode cX2_canBeConstrained 2 = .ok (.invokevirtual 64, 3) := by decide +kernel
theorem dX2_canBeConstrained_5 : decode cX2_canBeConstrained 5 = .ok (.istore_n 2, 1) := by decide +kernel
theorem dX2_canBeConstrained_6 : decode cX2_canBeConstrained 6 = .ok (.aload_n 0, 1) := by decide +kernel
theorem dX2_canBeConstrained_7 : decode cX2_canBeConstrained 7 = .ok (.iload_n 2, 1) := by decide +kernel
theorem dX2_canBeConstrained_8 : decode cX2_canBeConstrained 8 = .ok (.invokevirtual 39, 3) := by decide +kernel
theorem dX2_canBeConstrained_11 : decode cX2_canBeConstrained 11 = .ok (.istore_n 3, 1) := by decide +kernel
theorem dX2_canBeConstrained_12 : decode cX2_canBeConstrained 12 = .ok (.iload_n 3, 1) := by decide +kernel
theorem dX2_canBeConstrained_13 : decode cX2_canBeConstrained 13 = .ok (.iconst 1, 1) := by decide +kernel
theorem dX2_canBeConstrained_14 : decode cX2_canBeConstrained 14 = .ok (.if_icmp .eq 28, 3) := by decide +kernel
theorem dX2_canBeConstrained_17 : decode cX2_canBeConstrained 17 = .ok (.iload_n 3, 1) := by decide +kernel
theorem dX2_canBeConstrained_18 : decode cX2_canBeConstrained 18 = .ok (.iconst 2, 1) := by decide +kernel
theorem dX2_canBeConstrained_19 : decode cX2_canBeConstrained 19 = .ok (.if_icmp .eq 23, 3) := by decide +kernel
theorem dX2_canBeConstrained_22 : decode cX2_canBeConstrained 22 = .ok (.iload_n 2, 1) := by decide +kernel
theorem dX2_canBeConstrained_23 : decode cX2_canBeConstrained 23 = .ok (.aload_n 0, 1) := by decide +kernel
theorem dX2_canBeConstrained_24 : decode cX2_canBeConstrained 24 = .ok (.getfield 28, 3) := by decide +kernel
theorem dX2_canBeConstrained_27 : decode cX2_canBeConstrained 27 = .ok (.if_icmp .ge 11, 3) := by decide +kernel
theorem dX2_canBeConstrained_30 : decode cX2_canBeConstrained 30 = .ok (.aload_n 0, 1) := by decide +kernel
theorem dX2_canBeConstrained_31 : decode cX2_canBeConstrained 31 = .ok (.iload_n 2, 1) := by decide +kernel
theorem dX2_canBeConstrained_32 : decode cX2_canBeConstrained 32 = .ok (.invokevirtual 76, 3) := by decide +kernel
theorem dX2_canBeConstrained_35 : decode cX2_canBeConstrained 35 = .ok (.ifCond .ne 7, 3) := by decide +kernel
theorem dX2_canBeConstrained_38 : decode cX2_canBeConstrained 38 = .ok (.iconst 1, 1) := by decide +kernel
theorem dX2_canBeConstrained_39 : decode cX2_canBeConstrained 39 = .ok (.goto 4, 3) := by decide +kernel
theorem dX2_canBeConstrained_42 : decode cX2_canBeConstrained 42 = .ok (.iconst 0, 1) := by decide +kernel
theorem dX2_canBeConstrained_43 : decode cX2_canBeConstrained 43 = .ok (.ireturn, 1) := by decide +kernel
def is_X2_canBeConstrained (Rt : np_Rt) : List (Nat × np_Op) := [(0, np_ald 1 0), (1, np_ild 1 1), (2, nw_callV 2 2 sp_X2_itemOf 3 0 0 0 0), (5, nw_ist 1 2), (6, np_ald 1 0), (7, np_ild 1 2), (8, nw_callV 2 2 sp_X2_kind 2 0 0 0 0), (11, nw_ist 1 3), (12, np_ild 1 3), (13, np_push 1 (.int 1)), (14, nq_ic (fun x y => x = y) 42), (17, np_ild 1 3), (18, np_push 1 (.int 2)), (19, nq_ic (fun x y => x = y) 42), (22, np_ild 1 2), (23, np_ald 1 0), (24, nw_getf 2 4), (27, nq_ic (fun x y => y ≤ x) 38), (30, np_ald 1 0), (31, np_ild 1 2), (32, nw_callV 2 2 sp_X2_isInLoop 3 0 0 0 0), (35, nq_ifne 42), (38, np_push 1 (.int 1)), (39, np_goto 43), (42, np_push 1 (.int 0)), (43, np_ret Rt)]
set_option maxRecDepth 20000 in
theorem so_X2_canBeConstrained {X : np_Ctx} {Rt : np_Rt} (hX : np_ok RX2 cX2_canBeConstrained 4 4 87 0 0 .ireturn X) (hR : ∀ st w ce sl, Rt st w ce sl → X.2.2.1 st w ce sl) : ∀ q ∈ is_X2_canBeConstrained Rt, np_S X q.1 q.2 :=
  List.forall_mem_cons.mpr ⟨np_s_aload_n hX dX2_canBeConstrained_0 rfl, List.forall_mem_cons.mpr ⟨np_s_iload_n hX dX2_canBeConstrained_1 rfl, List.forall_mem_cons.mpr ⟨np_S.mono (op := np_callV 2 2 sp_X2_itemOf 3 0 0 0 0) (np_s_callV hX C_X2_itemOf dX2_canBeConstrained_2 (q := (RX2, TX2, 5)) rfl rfl gw661 gw64 gw658 gw659 gw660 ⟨by decide, by decide, by decide⟩ (by decide) (by decide)) nw_callV_le, List.forall_mem_cons.mpr ⟨np_S.mono (op := np_ist 1 2) (np_s_istore_n hX dX2_canBeConstrained_5 rfl (by decide)) nw_ist_le, List.forall_mem_cons.mpr ⟨np_s_aload_n hX dX2_canBeConstrained_6 rfl, List.forall_mem_cons.mpr ⟨np_s_iload_n hX dX2_canBeConstrained_7 rfl, List.forall_mem_cons.mpr ⟨np_S.mono (op := np_callV 2 2 sp_X2_kind 2 0 0 0 0) (np_s_callV hX C_X2_kind dX2_canBeConstrained_8 (q := (RX2, TX2, 5)) rfl rfl gw650 gw64 gw647 gw648 gw649 ⟨by decide, by decide, by decide⟩ (by decide) (by decide)) nw_callV_le, List.forall_mem_cons.mpr ⟨np_S.mono (op := np_ist 1 3) (np_s_istore_n hX dX2_canBeConstrained_11 rfl (by decide)) nw_ist_le, List.forall_mem_cons.mpr ⟨np_s_iload_n hX dX2_canBeConstrained_12 rfl, List.forall_mem_cons.mpr ⟨np_s_iconst hX dX2_canBeConstrained_13 (by decide), List.forall_mem_cons.mpr ⟨np_S.mono (op := np_ic (fun x y => x = y) 42) (np_s_icmp_eq hX dX2_canBeConstrained_14 (by decide)) nq_ic_le, List.forall_mem_cons.mpr ⟨np_s_iload_n hX dX2_canBeConstrained_17 rfl, List.forall_mem_cons.mpr ⟨np_s_iconst hX dX2_canBeConstrained_18 (by decide), List.forall_mem_cons.mpr ⟨np_S.mono (op := np_ic (fun x y => x = y) 42) (np_s_icmp_eq hX dX2_canBeConstrained_19 (by decide)) nq_ic_le, List.forall_mem_cons.mpr ⟨np_s_iload_n hX dX2_canBeConstrained_22 rfl, List.forall_mem_cons.mpr ⟨np_s_aload_n hX dX2_canBeConstrained_23 rfl, List.forall_mem_cons.mpr ⟨np_S.mono (op := np_getf 2 4) (np_s_getf hX dX2_canBeConstrained_24 (C := RX2) (T := TX2) (N := 5) rfl guX2 (by decide) gw105) nw_getf_le, List.forall_mem_cons.mpr ⟨np_S.mono (op := np_ic (fun x y => y ≤ x) 38) (np_s_icmp_ge hX dX2_canBeConstrained_27 (by decide)) nq_ic_le, List.forall_mem_cons.mpr ⟨np_s_aload_n hX dX2_canBeConstrained_30 rfl, List.forall_mem_cons.mpr ⟨np_s_iload_n hX dX2_canBeConstrained_31 rfl, List.forall_mem_cons.mpr ⟨np_S.mono (op := np_callV 2 2 sp_X2_isInLoop 3 0 0 0 0) (np_s_callV hX C_X2_isInLoop dX2_canBeConstrained_32 (q := (RX2, TX2, 5)) rfl rfl gw681 gw64 gw678 gw679 gw680 ⟨by decide, by decide, by decide⟩ (by decide) (by decide)) nw_callV_le, List.forall_mem_cons.mpr ⟨np_S.mono (op := np_ifne 42) (np_s_if_ne hX dX2_canBeConstrained_35 (by decide)) nq_ifne_le, List.forall_mem_cons.mpr ⟨np_s_iconst hX dX2_canBeConstrained_38 (by decide), List.forall_mem_cons.mpr ⟨np_s_goto hX dX2_canBeConstrained_39 (by decide), List.forall_mem_cons.mpr ⟨np_s_iconst hX dX2_canBeConstrained_42 (by decide), List.forall_mem_cons.mpr ⟨np_S.mono (op := np_ret X.2.2.1) (np_s_ret hX dX2_canBeConstrained_43) (nq_ret_le hR), fun _ h => nomatch h⟩⟩⟩⟩⟩⟩⟩⟩⟩⟩⟩⟩⟩⟩⟩⟩⟩⟩⟩⟩⟩⟩⟩⟩⟩⟩
noncomputable def m_X2_canBeConstrained (S : pw_S) (i0 : Nat) (x1 : Int32) : pw_R Int32 :=
 pw_b (m_X2_itemOf S i0 x1) fun S1 r4 =>
 pw_l (r4 : Int32) fun z6 =>
 pw_b (m_X2_kind S1 i0 z6) fun S7 r10 =>
 pw_l (r10 : Int32) fun z12 =>
 if z12 = 1 then
 (some (S7, 0))
 else
 (if z12 = 2 then
 (some (S7, 0))
 else
 (if (S7 51 i0 4) ≤ z6 then
 (some (S7, 1))
 else
 (pw_b (m_X2_isInLoop S7 i0 z6) fun S13 r16 =>
 if r16 = 0 then
 (some (S13, 1))
 else
 (some (S13, 0)))))
def sp_X2_canBeConstrained : np_Sp := fun vs w Q => ∃ (q : Nat) (S : pw_S) (i0 : Nat) (x1 : Int32), vs = [.ref (pw_pl 51 i0), .int x1] ∧ pw_ok q 51 i0 = true ∧ pw_W q w S ∧ pw_p (m_X2_canBeConstrained S i0 x1) (fun S' r => ∀ f', pw_W q (w.1, f') S' → Q (some (.int r)) (w.1, f'))
set_option maxRecDepth 100000 in
set_option maxHeartbeats 8000000 in
theorem C_X2_canBeConstrained : np_C yX2_canBeConstrained cX2_canBeConstrained 4 (some .boolean) 4 87 0 0 sp_X2_canBeConstrained := by
  refine np_of (by decide) ?_
  intro X vs w Q hsp hX hmn hRt hlt
  obtain ⟨q, S, i0, x1, rfl, hi0, hW, h⟩ := hsp
  obtain ⟨n, f⟩ := w
  unfold m_X2_canBeConstrained at h
  have hR : ∀ st w ce sl, np_rt (some .boolean) 0 0 Q st w ce sl → X.2.2.1 st w ce sl := fun _ _ _ _ h => by rw [hRt]; exact h
  refine np_soundW (so_X2_canBeConstrained hX hR) [] 400 0 _ _ _ _ _ ?_
  conv => whnf
  refine np_rd_i (hW.g hi0) ?_
  conv => whnf
  refine ⟨q, S, i0, x1, rfl, hi0, hW, pw_bd h (fun S1 r4 h f2 hW3 => ?_)⟩
  conv => whnf
  refine pw_st h (fun z6 h => ?_)
  conv => whnf
  refine np_rd_i (hW3.g hi0) ?_
  conv => whnf
  refine ⟨q, S1, i0, z6, rfl, hi0, hW3, pw_bd h (fun S7 r10 h f8 hW9 => ?_)⟩
  conv => whnf
  refine pw_st h (fun z12 h => ?_)
  conv => whnf
  refine pw_br h (fun _ h => ?_) (fun _ h => ?_)
  · conv => whnf
    exact ⟨Nat.le_of_ble_eq_true rfl, Nat.le_of_ble_eq_true rfl, ⟨_, rfl, by decide⟩, _, fun _ _ h9 => h9, pw_ps h _ hW9⟩
  · conv => whnf
    refine pw_br h (fun _ h => ?_) (fun _ h => ?_)
    · conv => whnf
      exact ⟨Nat.le_of_ble_eq_true rfl, Nat.le_of_ble_eq_true rfl, ⟨_, rfl, by decide⟩, _, fun _ _ h9 => h9, pw_ps h _ hW9⟩
    · conv => whnf
      refine np_rd_i (hW9.g hi0) ?_
      conv => whnf
      refine pw_br h (fun _ h => ?_) (fun _ h => ?_)
      · conv => whnf
        exact ⟨Nat.le_of_ble_eq_true rfl, Nat.le_of_ble_eq_true rfl, ⟨_, rfl, by decide⟩, _, fun _ _ h9 => h9, pw_ps h _ hW9⟩
      · conv => whnf
        refine np_rd_i (hW9.g hi0) ?_
        conv => whnf
        refine ⟨q, S7, i0, z6, rfl, hi0, hW9, pw_bd h (fun S13 r16 h f14 hW15 => ?_)⟩
        conv => whnf
        refine pw_br h (fun _ h => ?_) (fun _ h => ?_)
        · conv => whnf
          exact ⟨Nat.le_of_ble_eq_true rfl, Nat.le_of_ble_eq_true rfl, ⟨_, rfl, by decide⟩, _, fun _ _ h9 => h9, pw_ps h _ hW15⟩
        · conv => whnf
          exact ⟨Nat.le_of_ble_eq_true rfl, Nat.le_of_ble_eq_true rfl, ⟨_, rfl, by decide⟩, _, fun _ _ h9 => h9, pw_ps h _ hW15⟩
theorem dX11_isBetween_0 : decode cX11_isBetween 0 = .ok (.iload_n 0, 1) := by decide +kernel
theorem dX11_isBetween_1 : decode cX11_isBetween 1 = .ok (.iload_n 1, 1) := by decide +kernel
theorem dX11_isBetween_2 : decode cX11_isBetween 2 = .ok (.if_icmp .lt 12, 3) := by decide +kernel
theorem dX11_isBetween_5 : decode cX11_isBetween 5 = .ok (.iload_n 0, 1) := by decide +kernel
theorem dX11_isBetween_6 : decode cX11_isBetween 6 = .ok (.iload_n 2, 1) := by decide +kernel
theorem dX11_isBetween_7 : decode cX11_isBetween 7 = .ok (.if_icmp .gt 7, 3) := by decide +kernel
theorem dX11_isBetween_10 : decode cX11_isBetween 10 = .ok (.iconst 1, 1) := by decide +kernel
theorem dX11_isBetween_11 : decode cX11_isBetween 11 = .ok (.goto 4, 3) := by decide +kernel
theorem dX11_isBetween_14 : decode cX11_isBetween 14 = .ok (.iconst 0, 1) := by decide +kernel
theorem dX11_isBetween_15 : decode cX11_isBetween 15 = .ok (.ireturn, 1) := by decide +kernel
def is_X11_isBetween (Rt : np_Rt) : List (Nat × np_Op) := [(0, np_ild 1 0), (1, np_ild 1 1), (2, nq_ic (fun x y => x < y) 14), (5, np_ild 1 0), (6, np_ild 1 2), (7, nq_ic (fun x y => y < x) 14), (10, np_push 1 (.int 1)), (11, np_goto 15), (14, np_push 1 (.int 0)), (15, np_ret Rt)]
set_option maxRecDepth 20000 in
theorem so_X11_isBetween {X : np_Ctx} {Rt : np_Rt} (hX : np_ok RX11 cX11_isBetween 3 0 0 0 0 .ireturn X) (hR : ∀ st w ce sl, Rt st w ce sl → X.2.2.1 st w ce sl) : ∀ q ∈ is_X11_isBetween Rt, np_S X q.1 q.2 :=
  List.forall_mem_cons.mpr ⟨np_s_iload_n hX dX11_isBetween_0 rfl, List.forall_mem_cons.mpr ⟨np_s_iload_n hX dX11_isBetween_1 rfl, List.forall_mem_cons.mpr ⟨np_S.mono (op := np_ic (fun x y => x < y) 14) (np_s_icmp_lt hX dX11_isBetween_2 (by decide)) nq_ic_le, List.forall_mem_cons.mpr ⟨np_s_iload_n hX dX11_isBetween_5 rfl, List.forall_mem_cons.mpr ⟨np_s_iload_n hX dX11_isBetween_6 rfl, List.forall_mem_cons.mpr ⟨np_S.mono (op := np_ic (fun x y => y < x) 14) (np_s_icmp_gt hX dX11_isBetween_7 (by decide)) nq_ic_le, List.forall_mem_cons.mpr ⟨np_s_iconst hX dX11_isBetween_10 (by decide), List.forall_mem_cons.mpr ⟨np_s_goto hX dX11_isBetween_11 (by decide), List.forall_mem_cons.mpr ⟨np_s_iconst hX dX11_isBetween_14 (by decide), List.forall_mem_cons.mpr ⟨np_S.mono (op := np_ret X.2.2.1) (np_s_ret hX dX11_isBetween_15) (nq_ret_le hR), fun _ h => nomatch h⟩⟩⟩⟩⟩⟩⟩⟩⟩⟩
noncomputable def m_X11_isBetween (S : pw_S) (x0 : Int32) (x1 : Int32) (x2 : Int32) : pw_R Int32 :=
 if x0 < x1 then
 (some (S, 0))
 else
 (if x2 < x0 then
 (some (S, 0))
 else
 (some (S, 1)))
def sp_X11_isBetween : np_Sp := fun vs w Q => ∃ (q : Nat) (S : pw_S) (x0 : Int32) (x1 : Int32) (x2 : Int32), vs = [.int x0, .int x1, .int x2] ∧ pw_W q w S ∧ pw_p (m_X11_isBetween S x0 x1 x2) (fun S' r => ∀ f', pw_W q (w.1, f') S' → Q (some (.int r)) (w.1, f'))
set_option maxRecDepth 100000 in
set_option maxHeartbeats 8000000 in
theorem C_X11_isBetween : np_C yX11_isBetween cX11_isBetween 3 (some .boolean) 0 0 0 0 sp_X11_isBetween := by
  refine np_of (by decide) ?_
  intro X vs w Q hsp hX hmn hRt hlt
  obtain ⟨q, S, x0, x1, x2, rfl, hW, h⟩ := hsp
  obtain ⟨n, f⟩ := w
  unfold m_X11_isBetween at h
  have hR : ∀ st w ce sl, np_rt (some .boolean) 0 0 Q st w ce sl → X.2.2.1 st w ce sl := fun _ _ _ _ h => by rw [hRt]; exact h
  refine np_soundW (so_X11_isBetween hX hR) [] 400 0 _ _ _ _ _ ?_
  conv => whnf
  refine pw_br h (fun _ h => ?_) (fun _ h => ?_)
  · conv => whnf
    exact ⟨Nat.le_of_ble_eq_true rfl, Nat.le_of_ble_eq_true rfl, ⟨_, rfl, by decide⟩, _, fun _ _ h9 => h9, pw_ps h _ hW⟩
  · conv => whnf
    refine pw_br h (fun _ h => ?_) (fun _ h => ?_)
    · conv => whnf
      exact ⟨Nat.le_of_ble_eq_true rfl, Nat.le_of_ble_eq_true rfl, ⟨_, rfl, by decide⟩, _, fun _ _ h9 => h9, pw_ps h _ hW⟩
    · conv => whnf
      exact ⟨Nat.le_of_ble_eq_true rfl, Nat.le_of_ble_eq_true rfl, ⟨_, rfl, by decide⟩, _, fun _ _ h9 => h9, pw_ps h _ hW⟩
theorem dX1_allows_0 : decode cX1_allows 0 = .ok (.aload_n 0, 1) := by decide +kernel
theorem dX1_allows_1 : decode cX1_allows 1 = .ok (.getfield 12, 3) := by decide +kernel
theorem dX1_allows_4 : decode cX1_allows 4 = .ok (.iload_n 2, 1) := by decide +kernel
theorem dX1_allows_5 : decode cX1_allows 5 = .ok (.invokevirtual 38, 3) := by decide +kernel
theorem dX1_allows_8 : decode cX1_allows 8 = .ok (.ifCond .ne 5, 3) := by decide +kernel
theorem dX1_allows_11 : decode cX1_allows 11 = .ok (.iconst 0, 1) := by decide +kernel
theorem dX1_allows_12 : decode cX1_allows 12 = .ok (.ireturn, 1) := by decide +kernel
theorem dX1_allows_13 : decode cX1_allows 13 = .ok (.iload_n 1, 1) := by decide +kernel
theorem dX1_allows_14 : decode cX1_allows 14 = .ok (.tableswitch 124 0 3 #[30, 52, 74, 103], 30) := by decide +kernel
theorem dX1_allows_44 : decode cX1_allows 44 = .ok (.aload_n 0, 1) := by decide +kernel
theorem dX1_allows_45 : decode cX1_allows 45 = .ok (.getfield 12, 3) := by decide +kernel
theorem dX1_allows_48 : decode cX1_allows 48 = .ok (.iload_n 3, 1) := by decide +kernel
theorem dX1_allows_49 : decode cX1_allows 49 = .ok (.invokevirtual 38, 3) := by decide +kernel
theorem dX1_allows_52 : decode cX1_allows 52 = .ok (.ifCond .eq 12, 3) := by decide +kernel
theorem dX1_allows_55 : decode cX1_allows 55 = .ok (.iload 4, 2) := by decide +kernel
theorem dX1_allows_57 : decode cX1_allows 57 = .ok (.ifCond .ne 7, 3) := by decide +kernel
theorem dX1_allows_60 : decode cX1_allows 60 = .ok (.iconst 1, 1) := by decide +kernel
theorem dX1_allows_61 : decode cX1_allows 61 = .ok (.goto 4, 3) := by decide +kernel
theorem dX1_allows_64 : decode cX1_allows 64 = .ok (.iconst 0, 1) := by decide +kernel
theorem dX1_allows_65 : decode cX1_allows 65 = .ok (.ireturn, 1) := by decide +kernel
theorem dX1_allows_66 : decode cX1_allows 66 = .ok (.iload_n 3, 1) := by decide +kernel
theorem dX1_allows_67 : decode cX1_allows 67 = .ok (.iconst 0, 1) := by decide +kernel
theorem dX1_allows_68 : decode cX1_allows 68 = .ok (.sipush 999, 3) := by decide +kernel
theorem dX1_allows_71 : decode cX1_allows 71 = .ok (.invokestatic 41, 3) := by decide +kernel
theorem dX1_allows_74 : decode cX1_allows 74 = .ok (.ifCond .eq 12, 3) := by decide +kernel
theorem dX1_allows_77 : decode cX1_allows 77 = .ok (.iload 4, 2) := by decide +kernel
theorem dX1_allows_79 : decode cX1_allows 79 = .ok (.ifCond .ne 7, 3) := by decide +kernel
theorem dX1_allows_82 : decode cX1_allows 82 = .ok (.iconst 1, 1) := by decide +kernel
theorem dX1_allows_83 : decode cX1_allows 83 = .ok (.goto 4, 3) := by decide +kernel
theorem dX1_allows_86 : decode cX1_allows 86 = .ok (.iconst 0, 1) := by decide +kernel
theorem dX1_allows_87 : decode cX1_allows 87 = .ok (.ireturn, 1) := by decide +kernel
theorem dX1_allows_88 : decode cX1_allows 88 = .ok (.aload_n 0, 1) := by decide +kernel
theorem dX1_allows_89 : decode cX1_allows 89 = .ok (.getfield 12, 3) := by decide +kernel
theorem dX1_allows_92 : decode cX1_allows 92 = .ok (.iload_n 3, 1) := by decide +kernel
theorem dX1_allows_93 : decode cX1_allows 93 = .ok (.invokevirtual 38, 3) := by decide +kernel
theorem dX1_allows_96 : decode cX1_allows 96 = .ok (.ifCond .eq 19, 3) := by decide +kernel
theorem dX1_allows_99 : decode cX1_allows 99 = .ok (.aload_n 0, 1) := by decide +kernel
theorem dX1_allows_100 : decode cX1_allows 100 = .ok (.getfield 12, 3) := by decide +kernel
theorem dX1_allows_103 : decode cX1_allows 103 = .ok (.iload 4, 2) := by decide +kernel
theorem dX1_allows_105 : decode cX1_allows 105 = .ok (.invokevirtual 38, 3) := by decide +kernel
theorem dX1_allows_108 : decode cX1_allows 108 = .ok (.ifCond .eq 7, 3) := by decide +kernel
theorem dX1_allows_111 : decode cX1_allows 111 = .ok (.iconst 1, 1) := by decide +kernel
theorem dX1_allows_112 : decode cX1_allows 112 = .ok (.goto 4, 3) := by decide +kernel
theorem dX1_allows_115 : decode cX1_allows 115 = .ok (.iconst 0, 1) := by decide +kernel
theorem dX1_allows_116 : decode cX1_allows 116 = .ok (.ireturn, 1) := by decide +kernel
theorem dX1_allows_117 : decode cX1_allows 117 = .ok (.iload_n 3, 1) := by decide +kernel
theorem dX1_allows_118 : decode cX1_allows 118 = .ok (.iconst 1, 1) := by decide +kernel
theorem dX1_allows_119 : decode cX1_allows 119 = .ok (.bipush 99, 2) := by decide +kernel
theorem dX1_allows_121 : decode cX1_allows 121 = .ok (.invokestatic 41, 3) := by decide +kernel
theorem dX1_allows_124 : decode cX1_allows 124 = .ok (.ifCond .eq 12, 3) := by decide +kernel
theorem dX1_allows_127 : decode cX1_allows 127 = .ok (.iload 4, 2) := by decide +kernel
theorem dX1_allows_129 : decode cX1_allows 129 = .ok (.ifCond .ne 7, 3) := by decide +kernel
theorem dX1_allows_132 : decode cX1_allows 132 = .ok (.iconst 1, 1) := by decide +kernel
theorem dX1_allows_133 : decode cX1_allows 133 = .ok (.goto 4, 3) := by decide +kernel
theorem dX1_allows_136 : decode cX1_allows 136 = .ok (.iconst 0, 1) := by decide +kernel
theorem dX1_allows_137 : decode cX1_allows 137 = .ok (.ireturn, 1) := by decide +kernel
theorem dX1_allows_138 : decode cX1_allows 138 = .ok (.iconst 0, 1) := by decide +kernel
theorem dX1_allows_139 : decode cX1_allows 139 = .ok (.ireturn, 1) := by decide +kernel
def is_X1_allows (Rt : np_Rt) : List (Nat × np_Op) := [(0, np_ald 1 0), (1, nw_getf 1 0), (4, np_ild 1 2), (5, nw_callV 2 2 sp_X2_canBeConstrained 4 0 0 0 0), (8, nq_ifne 13), (11, np_push 1 (.int 0)), (12, np_ret Rt), (13, np_ild 1 1), (14, nq_tsw (0) [44, 66, 88, 117] 138), (44, np_ald 1 0), (45, nw_getf 1 0), (48, np_ild 1 3), (49, nw_callV 2 2 sp_X2_canBeConstrained 4 0 0 0 0), (52, nq_if (fun x => x = 0) 64), (55, np_ild 2 4), (57, nq_ifne 64), (60, np_push 1 (.int 1)), (61, np_goto 65), (64, np_push 1 (.int 0)), (65, np_ret Rt), (66, np_ild 1 3), (67, np_push 1 (.int 0)), (68, np_push 3 (.int 999)), (71, nq_call 3 sp_X11_isBetween 3 0 0 0 0), (74, nq_if (fun x => x = 0) 86), (77, np_ild 2 4), (79, nq_ifne 86), (82, np_push 1 (.int 1)), (83, np_goto 87), (86, np_push 1 (.int 0)), (87, np_ret Rt), (88, np_ald 1 0), (89, nw_getf 1 0), (92, np_ild 1 3), (93, nw_callV 2 2 sp_X2_canBeConstrained 4 0 0 0 0), (96, nq_if (fun x => x = 0) 115), (99, np_ald 1 0), (100, nw_getf 1 0), (103, np_ild 2 4), (105, nw_callV 2 2 sp_X2_canBeConstrained 4 0 0 0 0), (108, nq_if (fun x => x = 0) 115), (111, np_push 1 (.int 1)), (112, np_goto 116), (115, np_push 1 (.int 0)), (116, np_ret Rt), (117, np_ild 1 3), (118, np_push 1 (.int 1)), (119, np_push 2 (.int 99)), (121, nq_call 3 sp_X11_isBetween 3 0 0 0 0), (124, nq_if (fun x => x = 0) 136), (127, np_ild 2 4), (129, nq_ifne 136), (132, np_push 1 (.int 1)), (133, np_goto 137), (136, np_push 1 (.int 0)), (137, np_ret Rt), (138, np_push 1 (.int 0)), (139, np_ret Rt)]
set_option maxRecDepth 20000 in
theorem so_X1_allows {X : np_Ctx} {Rt : np_Rt} (hX : np_ok RX1 cX1_allows 5 5 110 0 0 .ireturn X) (hR : ∀ st w ce sl, Rt st w ce sl → X.2.2.1 st w ce sl) : ∀ q ∈ is_X1_allows Rt, np_S X q.1 q.2 :=
  List.forall_mem_cons.mpr ⟨np_s_aload_n hX dX1_allows_0 rfl, List.forall_mem_cons.mpr ⟨np_S.mono (op := np_getf 1 0) (np_s_getf hX dX1_allows_1 (C := RX1) (T := TX1) (N := 7) rfl guX1 (by decide) gw313) nw_getf_le, List.forall_mem_cons.mpr ⟨np_s_iload_n hX dX1_allows_4 rfl, List.forall_mem_cons.mpr ⟨np_S.mono (op := np_callV 2 2 sp_X2_canBeConstrained 4 0 0 0 0) (np_s_callV hX C_X2_canBeConstrained dX1_allows_5 (q := (RX2, TX2, 5)) rfl rfl gw1224 gw64 gw1221 gw1222 gw1223 ⟨by decide, by decide, by decide⟩ (by decide) (by decide)) nw_callV_le, List.forall_mem_cons.mpr ⟨np_S.mono (op := np_ifne 13) (np_s_if_ne hX dX1_allows_8 (by decide)) nq_ifne_le, List.forall_mem_cons.mpr ⟨np_s_iconst hX dX1_allows_11 (by decide), List.forall_mem_cons.mpr ⟨np_S.mono (op := np_ret X.2.2.1) (np_s_ret hX dX1_allows_12) (nq_ret_le hR), List.forall_mem_cons.mpr ⟨np_s_iload_n hX dX1_allows_13 rfl, List.forall_mem_cons.mpr ⟨np_S.mono (op := np_tsw (0) (3) [44, 66, 88, 117] 138) (np_s_tsw hX dX1_allows_14 (by decide) (by decide) (by decide)) (nq_tsw_le (by decide)), List.forall_mem_cons.mpr ⟨np_s_aload_n hX dX1_allows_44 rfl, List.forall_mem_cons.mpr ⟨np_S.mono (op := np_getf 1 0) (np_s_getf hX dX1_allows_45 (C := RX1) (T := TX1) (N := 7) rfl guX1 (by decide) gw313) nw_getf_le, List.forall_mem_cons.mpr ⟨np_s_iload_n hX dX1_allows_48 rfl, List.forall_mem_cons.mpr ⟨np_S.mono (op := np_callV 2 2 sp_X2_canBeConstrained 4 0 0 0 0) (np_s_callV hX C_X2_canBeConstrained dX1_allows_49 (q := (RX2, TX2, 5)) rfl rfl gw1224 gw64 gw1221 gw1222 gw1223 ⟨by decide, by decide, by decide⟩ (by decide) (by decide)) nw_callV_le, List.forall_mem_cons.mpr ⟨np_S.mono (op := np_if (fun x => x = 0) 64) (np_s_if_eq hX dX1_allows_52 (by decide)) nq_if_le, List.forall_mem_cons.mpr ⟨np_s_iload hX dX1_allows_55, List.forall_mem_cons.mpr ⟨np_S.mono (op := np_ifne 64) (np_s_if_ne hX dX1_allows_57 (by decide)) nq_ifne_le, List.forall_mem_cons.mpr ⟨np_s_iconst hX dX1_allows_60 (by decide), List.forall_mem_cons.mpr ⟨np_s_goto hX dX1_allows_61 (by decide), List.forall_mem_cons.mpr ⟨np_s_iconst hX dX1_allows_64 (by decide), List.forall_mem_cons.mpr ⟨np_S.mono (op := np_ret X.2.2.1) (np_s_ret hX dX1_allows_65) (nq_ret_le hR), List.forall_mem_cons.mpr ⟨np_s_iload_n hX dX1_allows_66 rfl, List.forall_mem_cons.mpr ⟨np_s_iconst hX dX1_allows_67 (by decide), List.forall_mem_cons.mpr ⟨np_s_sipush hX dX1_allows_68 (by decide), List.forall_mem_cons.mpr ⟨np_S.mono (op := np_call 3 sp_X11_isBetween 3 0 0 0 0) (np_s_callSN hX C_X11_isBetween dX1_allows_71 gw589 gw63 gw1225 gw588 ⟨by decide, by decide, by decide⟩ (by decide) (by decide)) nq_call_le, List.forall_mem_cons.mpr ⟨np_S.mono (op := np_if (fun x => x = 0) 86) (np_s_if_eq hX dX1_allows_74 (by decide)) nq_if_le, List.forall_mem_cons.mpr ⟨np_s_iload hX dX1_allows_77, List.forall_mem_cons.mpr ⟨np_S.mono (op := np_ifne 86) (np_s_if_ne hX dX1_allows_79 (by decide)) nq_ifne_le, List.forall_mem_cons.mpr ⟨np_s_iconst hX dX1_allows_82 (by decide), List.forall_mem_cons.mpr ⟨np_s_goto hX dX1_allows_83 (by decide), List.forall_mem_cons.mpr ⟨np_s_iconst hX dX1_allows_86 (by decide), List.forall_mem_cons.mpr ⟨np_S.mono (op := np_ret X.2.2.1) (np_s_ret hX dX1_allows_87) (nq_ret_le hR), List.forall_mem_cons.mpr ⟨np_s_aload_n hX dX1_allows_88 rfl, List.forall_mem_cons.mpr ⟨np_S.mono (op := np_getf 1 0) (np_s_getf hX dX1_allows_89 (C := RX1) (T := TX1) (N := 7) rfl guX1 (by decide) gw313) nw_getf_le, List.forall_mem_cons.mpr ⟨np_s_iload_n hX dX1_allows_92 rfl, List.forall_mem_cons.mpr ⟨np_S.mono (op := np_callV 2 2 sp_X2_canBeConstrained 4 0 0 0 0) (np_s_callV hX C_X2_canBeConstrained dX1_allows_93 (q := (RX2, TX2, 5)) rfl rfl gw1224 gw64 gw1221 gw1222 gw1223 ⟨by decide, by decide, by decide⟩ (by decide) (by decide)) nw_callV_le, List.forall_mem_cons.mpr ⟨np_S.mono (op := np_if (fun x => x = 0) 115) (np_s_if_eq hX dX1_allows_96 (by decide)) nq_if_le, List.forall_mem_cons.mpr ⟨np_s_aload_n hX dX1_allows_99 rfl, List.forall_mem_cons.mpr ⟨np_S.mono (op := np_getf 1 0) (np_s_getf hX dX1_allows_100 (C := RX1) (T := TX1) (N := 7) rfl guX1 (by decide) gw313) nw_getf_le, List.forall_mem_cons.mpr ⟨np_s_iload hX dX1_allows_103, List.forall_mem_cons.mpr ⟨np_S.mono (op := np_callV 2 2 sp_X2_canBeConstrained 4 0 0 0 0) (np_s_callV hX C_X2_canBeConstrained dX1_allows_105 (q := (RX2, TX2, 5)) rfl rfl gw1224 gw64 gw1221 gw1222 gw1223 ⟨by decide, by decide, by decide⟩ (by decide) (by decide)) nw_callV_le, List.forall_mem_cons.mpr ⟨np_S.mono (op := np_if (fun x => x = 0) 115) (np_s_if_eq hX dX1_allows_108 (by decide)) nq_if_le, List.forall_mem_cons.mpr ⟨np_s_iconst hX dX1_allows_111 (by decide), List.forall_mem_cons.mpr ⟨np_s_goto hX dX1_allows_112 (by decide), List.forall_mem_cons.mpr ⟨np_s_iconst hX dX1_allows_115 (by decide), List.forall_mem_cons.mpr ⟨np_S.mono (op := np_ret X.2.2.1) (np_s_ret hX dX1_allows_116) (nq_ret_le hR), List.forall_mem_cons.mpr ⟨np_s_iload_n hX dX1_allows_117 rfl, List.forall_mem_cons.mpr ⟨np_s_iconst hX dX1_allows_118 (by decide), List.forall_mem_cons.mpr ⟨np_s_bipush hX dX1_allows_119 (by decide), List.forall_mem_cons.mpr ⟨np_S.mono (op := np_call 3 sp_X11_isBetween 3 0 0 0 0) (np_s_callSN hX C_X11_isBetween dX1_allows_121 gw589 gw63 gw1225 gw588 ⟨by decide, by decide, by decide⟩ (by decide) (by decide)) nq_call_le, List.forall_mem_cons.mpr ⟨np_S.mono (op := np_if (fun x => x = 0) 136) (np_s_if_eq hX dX1_allows_124 (by decide)) nq_if_le, List.forall_mem_cons.mpr ⟨np_s_iload hX dX1_allows_127, List.forall_mem_cons.mpr ⟨np_S.mono (op := np_ifne 136) (np_s_if_ne hX dX1_allows_129 (by decide)) nq_ifne_le, List.forall_mem_cons.mpr ⟨np_s_iconst hX dX1_allows_132 (by decide), List.forall_mem_cons.mpr ⟨np_s_goto hX dX1_allows_133 (by decide), List.forall_mem_cons.mpr ⟨np_s_iconst hX dX1_allows_136 (by decide), List.forall_mem_cons.mpr ⟨np_S.mono (op := np_ret X.2.2.1) (np_s_ret hX dX1_allows_137) (nq_ret_le hR), List.forall_mem_cons.mpr ⟨np_s_iconst hX dX1_allows_138 (by decide), List.forall_mem_cons.mpr ⟨np_S.mono (op := np_ret X.2.2.1) (np_s_ret hX dX1_allows_139) (nq_ret_le hR), fun _ h => nomatch h⟩⟩⟩⟩⟩⟩⟩⟩⟩⟩⟩⟩⟩⟩⟩⟩⟩⟩⟩⟩⟩⟩⟩⟩⟩⟩⟩⟩⟩⟩⟩⟩⟩⟩⟩⟩⟩⟩⟩⟩⟩⟩⟩⟩⟩⟩⟩⟩⟩⟩⟩⟩⟩⟩⟩⟩⟩⟩
noncomputable def m_X1_allows (S : pw_S) (i0 : Nat) (x1 : Int32) (x2 : Int32) (x3 : Int32) (x4 : Int32) : pw_R Int32 :=
 pw_b (m_X2_canBeConstrained S i0 x2) fun S1 r4 =>
 if r4 = 0 then
 (some (S1, 0))
 else
 (if (x1 : Int32).toInt = 0 then
 (pw_b (m_X2_canBeConstrained S1 i0 x3) fun S6 r9 =>
 if r9 = 0 then
 (some (S6, 0))
 else
 (if x4 = 0 then
 (some (S6, 1))
 else
 (some (S6, 0))))
 else if (x1 : Int32).toInt = (0 + 1) then
 (pw_b (m_X11_isBetween S1 x3 0 999) fun S11 r14 =>
 if r14 = 0 then
 (some (S11, 0))
 else
 (if x4 = 0 then
 (some (S11, 1))
 else
 (some (S11, 0))))
 else if (x1 : Int32).toInt = ((0 + 1) + 1) then
 (pw_b (m_X2_canBeConstrained S1 i0 x3) fun S16 r19 =>
 if r19 = 0 then
 (some (S16, 0))
 else
 (pw_b (m_X2_canBeConstrained S16 i0 x4) fun S21 r24 =>
 if r24 = 0 then
 (some (S21, 0))
 else
 (some (S21, 1))))
 else if (x1 : Int32).toInt = (((0 + 1) + 1) + 1) then
 (pw_b (m_X11_isBetween S1 x3 1 99) fun S26 r29 =>
 if r29 = 0 then
 (some (S26, 0))
 else
 (if x4 = 0 then
 (some (S26, 1))
 else
 (some (S26, 0))))
 else 
 (some (S1, 0)))
def sp_X1_allows : np_Sp := fun vs w Q => ∃ (q : Nat) (S : pw_S) (i0 : Nat) (x1 : Int32) (x2 : Int32) (x3 : Int32) (x4 : Int32), vs = [.ref (pw_pl 52 i0), .int x1, .int x2, .int x3, .int x4] ∧ pw_ok q 52 i0 = true ∧ pw_W q w S ∧ pw_p (m_X1_allows S i0 x1 x2 x3 x4) (fun S' r => ∀ f', pw_W q (w.1, f') S' → Q (some (.int r)) (w.1, f'))
set_option maxRecDepth 100000 in
set_option maxHeartbeats 8000000 in
theorem C_X1_allows : np_C yX1_allows cX1_allows 5 (some .boolean) 5 110 0 0 sp_X1_allows := by
  refine np_of (by decide) ?_
  intro X vs w Q hsp hX hmn hRt hlt
  obtain ⟨q, S, i0, x1, x2, x3, x4, rfl, hi0, hW, h⟩ := hsp
  obtain ⟨n, f⟩ := w
  unfold m_X1_allows at h
  have hR : ∀ st w ce sl, np_rt (some .boolean) 0 0 Q st w ce sl → X.2.2.1 st w ce sl := fun _ _ _ _ h => by rw [hRt]; exact h
  refine np_soundW (so_X1_allows hX hR) [] 400 0 _ _ _ _ _ ?_
  conv => whnf
  refine np_rd_i (hW.g hi0) ?_
  conv => whnf
  refine np_rd_i (hW.g (pw_okl (a := 52) (b := 51) rfl rfl rfl hi0)) ?_
  conv => whnf
  refine ⟨q, S, i0, x2, rfl, (pw_okl (a := 52) (b := 51) rfl rfl rfl hi0), hW, pw_bd h (fun S1 r4 h f2 hW3 => ?_)⟩
  conv => whnf
  refine pw_br h (fun _ h => ?_) (fun _ h => ?_)
  · conv => whnf
    exact ⟨Nat.le_of_ble_eq_true rfl, Nat.le_of_ble_eq_true rfl, ⟨_, rfl, by decide⟩, _, fun _ _ h9 => h9, pw_ps h _ hW3⟩
  · conv => whnf
    refine pw_br h (fun _ h => ?_) (fun _ h => ?_)
    · conv => whnf
      refine np_rd_i (hW3.g hi0) ?_
      conv => whnf
      refine np_rd_i (hW3.g (pw_okl (a := 52) (b := 51) rfl rfl rfl hi0)) ?_
      conv => whnf
      refine ⟨q, S1, i0, x3, rfl, (pw_okl (a := 52) (b := 51) rfl rfl rfl hi0), hW3, pw_bd h (fun S6 r9 h f7 hW8 => ?_)⟩
      conv => whnf
      refine pw_br h (fun _ h => ?_) (fun _ h => ?_)
      · conv => whnf
        exact ⟨Nat.le_of_ble_eq_true rfl, Nat.le_of_ble_eq_true rfl, ⟨_, rfl, by decide⟩, _, fun _ _ h9 => h9, pw_ps h _ hW8⟩
      · conv => whnf
        refine pw_br h (fun _ h => ?_) (fun _ h => ?_)
        · conv => whnf
          exact ⟨Nat.le_of_ble_eq_true rfl, Nat.le_of_ble_eq_true rfl, ⟨_, rfl, by decide⟩, _, fun _ _ h9 => h9, pw_ps h _ hW8⟩
        · conv => whnf
          exact ⟨Nat.le_of_ble_eq_true rfl, Nat.le_of_ble_eq_true rfl, ⟨_, rfl, by decide⟩, _, fun _ _ h9 => h9, pw_ps h _ hW8⟩
    conv => whnf
    refine pw_br h (fun _ h => ?_) (fun _ h => ?_)
    · conv => whnf
      refine ⟨q, S1, x3, 0, 999, rfl, hW3, pw_bd h (fun S11 r14 h f12 hW13 => ?_)⟩
      conv => whnf
      refine pw_br h (fun _ h => ?_) (fun _ h => ?_)
      · conv => whnf
        exact ⟨Nat.le_of_ble_eq_true rfl, Nat.le_of_ble_eq_true rfl, ⟨_, rfl, by decide⟩, _, fun _ _ h9 => h9, pw_ps h _ hW13⟩
      · conv => whnf
        refine pw_br h (fun _ h => ?_) (fun _ h => ?_)
        · conv => whnf
          exact ⟨Nat.le_of_ble_eq_true rfl, Nat.le_of_ble_eq_true rfl, ⟨_, rfl, by decide⟩, _, fun _ _ h9 => h9, pw_ps h _ hW13⟩
        · conv => whnf
          exact ⟨Nat.le_of_ble_eq_true rfl, Nat.le_of_ble_eq_true rfl, ⟨_, rfl, by decide⟩, _, fun _ _ h9 => h9, pw_ps h _ hW13⟩
    conv => whnf
    refine pw_br h (fun _ h => ?_) (fun _ h => ?_)
    · conv => whnf
      refine np_rd_i (hW3.g hi0) ?_
      conv => whnf
      refine np_rd_i (hW3.g (pw_okl (a := 52) (b := 51) rfl rfl rfl hi0)) ?_
      conv => whnf
      refine ⟨q, S1, i0, x3, rfl, (pw_okl (a := 52) (b := 51) rfl rfl rfl hi0), hW3, pw_bd h (fun S16 r19 h f17 hW18 => ?_)⟩
      conv => whnf
      refine pw_br h (fun _ h => ?_) (fun _ h => ?_)
      · conv => whnf
        exact ⟨Nat.le_of_ble_eq_true rfl, Nat.le_of_ble_eq_true rfl, ⟨_, rfl, by decide⟩, _, fun _ _ h9 => h9, pw_ps h _ hW18⟩
      · conv => whnf
        refine np_rd_i (hW18.g hi0) ?_
        conv => whnf
        refine np_rd_i (hW18.g (pw_okl (a := 52) (b := 51) rfl rfl rfl hi0)) ?_
        conv => whnf
        refine ⟨q, S16, i0, x4, rfl, (pw_okl (a := 52) (b := 51) rfl rfl rfl hi0), hW18, pw_bd h (fun S21 r24 h f22 hW23 => ?_)⟩
        conv => whnf
        refine pw_br h (fun _ h => ?_) (fun _ h => ?_)
        · conv => whnf
          exact ⟨Nat.le_of_ble_eq_true rfl, Nat.le_of_ble_eq_true rfl, ⟨_, rfl, by decide⟩, _, fun _ _ h9 => h9, pw_ps h _ hW23⟩
        · conv => whnf
          exact ⟨Nat.le_of_ble_eq_true rfl, Nat.le_of_ble_eq_true rfl, ⟨_, rfl, by decide⟩, _, fun _ _ h9 => h9, pw_ps h _ hW23⟩
    conv => whnf
    refine pw_br h (fun _ h => ?_) (fun _ h => ?_)
    · conv => whnf
      refine ⟨q, S1, x3, 1, 99, rfl, hW3, pw_bd h (fun S26 r29 h f27 hW28 => ?_)⟩
      conv => whnf
      refine pw_br h (fun _ h => ?_) (fun _ h => ?_)
      · conv => whnf
        exact ⟨Nat.le_of_ble_eq_true rfl, Nat.le_of_ble_eq_true rfl, ⟨_, rfl, by decide⟩, _, fun _ _ h9 => h9, pw_ps h _ hW28⟩
      · conv => whnf
        refine pw_br h (fun _ h => ?_) (fun _ h => ?_)
        · conv => whnf
          exact ⟨Nat.le_of_ble_eq_true rfl, Nat.le_of_ble_eq_true rfl, ⟨_, rfl, by decide⟩, _, fun _ _ h9 => h9, pw_ps h _ hW28⟩
        · conv => whnf
          exact ⟨Nat.le_of_ble_eq_true rfl, Nat.le_of_ble_eq_true rfl, ⟨_, rfl, by decide⟩, _, fun _ _ h9 => h9, pw_ps h _ hW28⟩
    conv => whnf
    exact ⟨Nat.le_of_ble_eq_true rfl, Nat.le_of_ble_eq_true rfl, ⟨_, rfl, by decide⟩, _, fun _ _ h9 => h9, pw_ps h _ hW3⟩
theorem dX1_isFull_0 : decode cX1_isFull 0 = .ok (.aload_n 0, 1) := by decide +kernel
theorem dX1_isFull_1 : decode cX1_isFull 1 = .ok (.getfield 45, 3) := by decide +kernel
theorem dX1_isFull_4 : decode cX1_isFull 4 = .ok (.bipush 8, 2) := by decide +kernel
theorem dX1_isFull_6 : decode cX1_isFull 6 = .ok (.if_icmp .lt 7, 3) := by decide +kernel
theorem dX1_isFull_9 : decode cX1_isFull 9 = .ok (.iconst 1, 1) := by decide +kernel
theorem dX1_isFull_10 : decode cX1_isFull 10 = .ok (.goto 4, 3) := by decide +kernel
theorem dX1_isFull_13 : decode cX1_isFull 13 = .ok (.iconst 0, 1) := by decide +kernel
theorem dX1_isFull_14 : decode cX1_isFull 14 = .ok (.ireturn, 1) := by decide +kernel
def is_X1_isFull (Rt : np_Rt) : List (Nat × np_Op) := [(0, np_ald 1 0), (1, nw_getf 1 6), (4, np_push 2 (.int 8)), (6, nq_ic (fun x y => x < y) 13), (9, np_push 1 (.int 1)), (10, np_goto 14), (13, np_push 1 (.int 0)), (14, np_ret Rt)]
set_option maxRecDepth 20000 in
theorem so_X1_isFull {X : np_Ctx} {Rt : np_Rt} (hX : np_ok RX1 cX1_isFull 1 0 0 0 0 .ireturn X) (hR : ∀ st w ce sl, Rt st w ce sl → X.2.2.1 st w ce sl) : ∀ q ∈ is_X1_isFull Rt, np_S X q.1 q.2 :=
  List.forall_mem_cons.mpr ⟨np_s_aload_n hX dX1_isFull_0 rfl, List.forall_mem_cons.mpr ⟨np_S.mono (op := np_getf 1 6) (np_s_getf hX dX1_isFull_1 (C := RX1) (T := TX1) (N := 7) rfl guX1 (by decide) gw321) nw_getf_le, List.forall_mem_cons.mpr ⟨np_s_bipush hX dX1_isFull_4 (by decide), List.forall_mem_cons.mpr ⟨np_S.mono (op := np_ic (fun x y => x < y) 13) (np_s_icmp_lt hX dX1_isFull_6 (by decide)) nq_ic_le, List.forall_mem_cons.mpr ⟨np_s_iconst hX dX1_isFull_9 (by decide), List.forall_mem_cons.mpr ⟨np_s_goto hX dX1_isFull_10 (by decide), List.forall_mem_cons.mpr ⟨np_s_iconst hX dX1_isFull_13 (by decide), List.forall_mem_cons.mpr ⟨np_S.mono (op := np_ret X.2.2.1) (np_s_ret hX dX1_isFull_14) (nq_ret_le hR), fun _ h => nomatch h⟩⟩⟩⟩⟩⟩⟩⟩
noncomputable def m_X1_isFull (S : pw_S) (i0 : Nat) : pw_R Int32 :=
 if (S 52 i0 6) < 8 then
 (some (S, 0))
 else
 (some (S, 1))
def sp_X1_isFull : np_Sp := fun vs w Q => ∃ (q : Nat) (S : pw_S) (i0 : Nat), vs = [.ref (pw_pl 52 i0)] ∧ pw_ok q 52 i0 = true ∧ pw_W q w S ∧ pw_p (m_X1_isFull S i0) (fun S' r => ∀ f', pw_W q (w.1, f') S' → Q (some (.int r)) (w.1, f'))
set_option maxRecDepth 100000 in
set_option maxHeartbeats 8000000 in
theorem C_X1_isFull : np_C yX1_isFull cX1_isFull 1 (some .boolean) 0 0 0 0 sp_X1_isFull := by
  refine np_of (by decide) ?_
  intro X vs w Q hsp hX hmn hRt hlt
  obtain ⟨q, S, i0, rfl, hi0, hW, h⟩ := hsp
  obtain ⟨n, f⟩ := w
  unfold m_X1_isFull at h
  have hR : ∀ st w ce sl, np_rt (some .boolean) 0 0 Q st w ce sl → X.2.2.1 st w ce sl := fun _ _ _ _ h => by rw [hRt]; exact h
  refine np_soundW (so_X1_isFull hX hR) [] 400 0 _ _ _ _ _ ?_
  conv => whnf
  refine np_rd_i (hW.g hi0) ?_
  conv => whnf
  refine pw_br h (fun _ h => ?_) (fun _ h => ?_)
  · conv => whnf
    exact ⟨Nat.le_of_ble_eq_true rfl, Nat.le_of_ble_eq_true rfl, ⟨_, rfl, by decide⟩, _, fun _ _ h9 => h9, pw_ps h _ hW⟩
  · conv => whnf
    exact ⟨Nat.le_of_ble_eq_true rfl, Nat.le_of_ble_eq_true rfl, ⟨_, rfl, by decide⟩, _, fun _ _ h9 => h9, pw_ps h _ hW⟩
theorem dX11_put_0 : decode cX11_put 0 = .ok (.iload_n 1, 1) := by decide +kernel
theorem dX11_put_1 : decode cX11_put 1 = .ok (.ifCond .lt 13, 3) := by decide +kernel
theorem dX11_put_4 : decode cX11_put 4 = .ok (.iload_n 1, 1) := by decide +kernel
theorem dX11_put_5 : decode cX11_put 5 = .ok (.aload_n 0, 1) := by decide +kernel
theorem dX11_put_6 : decode cX11_put 6 = .ok (.arraylength, 1) := by decide +kernel
theorem dX11_put_7 : decode cX11_put 7 = .ok (.if_icmp .ge 7, 3) := by decide +kernel
theorem dX11_put_10 : decode cX11_put 10 = .ok (.aload_n 0, 1) := by decide +kernel
theorem dX11_put_11 : decode cX11_put 11 = .ok (.iload_n 1, 1) := by decide +kernel
theorem dX11_put_12 : decode cX11_put 12 = .ok (.iload_n 2, 1) := by decide +kernel
theorem dX11_put_13 : decode cX11_put 13 = .ok (.iastore, 1) := by decide +kernel
theorem dX11_put_14 : decode cX11_put 14 = .ok (.return_, 1) := by decide +kernel
def is_X11_put (Rt : np_Rt) : List (Nat × np_Op) := [(0, np_ild 1 1), (1, nq_if (fun x => x < 0) 14), (4, np_ild 1 1), (5, np_ald 1 0), (6, nw_alen), (7, nq_ic (fun x y => y ≤ x) 14), (10, np_ald 1 0), (11, np_ild 1 1), (12, np_ild 1 2), (13, nw_iastT .int), (14, np_ret Rt)]
set_option maxRecDepth 20000 in
theorem so_X11_put {X : np_Ctx} {Rt : np_Rt} (hX : np_ok RX11 cX11_put 3 0 0 0 0 .return_ X) (hR : ∀ st w ce sl, Rt st w ce sl → X.2.2.1 st w ce sl) : ∀ q ∈ is_X11_put Rt, np_S X q.1 q.2 :=
  List.forall_mem_cons.mpr ⟨np_s_iload_n hX dX11_put_0 rfl, List.forall_mem_cons.mpr ⟨np_S.mono (op := np_if (fun x => x < 0) 14) (np_s_if_lt hX dX11_put_1 (by decide)) nq_if_le, List.forall_mem_cons.mpr ⟨np_s_iload_n hX dX11_put_4 rfl, List.forall_mem_cons.mpr ⟨np_s_aload_n hX dX11_put_5 rfl, List.forall_mem_cons.mpr ⟨np_S.mono (op := np_alen) (np_s_alen hX dX11_put_6) nw_alen_le, List.forall_mem_cons.mpr ⟨np_S.mono (op := np_ic (fun x y => y ≤ x) 14) (np_s_icmp_ge hX dX11_put_7 (by decide)) nq_ic_le, List.forall_mem_cons.mpr ⟨np_s_aload_n hX dX11_put_10 rfl, List.forall_mem_cons.mpr ⟨np_s_iload_n hX dX11_put_11 rfl, List.forall_mem_cons.mpr ⟨np_s_iload_n hX dX11_put_12 rfl, List.forall_mem_cons.mpr ⟨np_S.mono (op := np_iastT .int) (np_s_iast hX dX11_put_13) nw_iastT_le, List.forall_mem_cons.mpr ⟨np_S.mono (op := np_ret X.2.2.1) (np_s_ret hX dX11_put_14) (nq_ret_le hR), fun _ h => nomatch h⟩⟩⟩⟩⟩⟩⟩⟩⟩⟩⟩
noncomputable def m_X11_put (S : pw_S) (a0 : Nat) (i0 : Nat) (x1 : Int32) (x2 : Int32) : pw_R Unit :=
 if x1 < 0 then
 (some (S, ()))
 else
 (if (Int32.ofNat (pw_len a0)) ≤ x1 then
 (some (S, ()))
 else
 (pw_c (np_inb x1 (pw_len a0)) <|
 pw_l (pw_up S a0 i0 (upd (S a0 i0) (x1 : Int32).toNatClampNeg x2)) fun S1 =>
 some (S1, ())))
def sp_X11_put : np_Sp := fun vs w Q => ∃ (q : Nat) (S : pw_S) (a0 : Nat) (i0 : Nat) (x1 : Int32) (x2 : Int32), vs = [.ref (pw_pl a0 i0), .int x1, .int x2] ∧ pw_arr a0 = true ∧ pw_ok q a0 i0 = true ∧ pw_W q w S ∧ pw_p (m_X11_put S a0 i0 x1 x2) (fun S' r => ∀ f', pw_W q (w.1, f') S' → Q none (w.1, f'))
set_option maxRecDepth 100000 in
set_option maxHeartbeats 8000000 in
theorem C_X11_put : np_C yX11_put cX11_put 3 none 0 0 0 0 sp_X11_put := by
  refine np_of (by decide) ?_
  intro X vs w Q hsp hX hmn hRt hlt
  obtain ⟨q, S, a0, i0, x1, x2, rfl, ha0, hi0, hW, h⟩ := hsp
  obtain ⟨n, f⟩ := w
  unfold m_X11_put at h
  have hR : ∀ st w ce sl, np_rt none 0 0 Q st w ce sl → X.2.2.1 st w ce sl := fun _ _ _ _ h => by rw [hRt]; exact h
  refine np_soundW (so_X11_put hX hR) [] 400 0 _ _ _ _ _ ?_
  conv => whnf
  refine pw_br h (fun _ h => ?_) (fun _ h => ?_)
  · conv => whnf
    exact ⟨Nat.le_of_ble_eq_true rfl, Nat.le_of_ble_eq_true rfl, rfl, _, fun _ _ h9 => h9, pw_ps h _ hW⟩
  · conv => whnf
    refine np_rd_i (hW.ga ha0 hi0) ?_
    conv => whnf
    refine pw_br h (fun _ h => ?_) (fun _ h => ?_)
    · conv => whnf
      exact ⟨Nat.le_of_ble_eq_true rfl, Nat.le_of_ble_eq_true rfl, rfl, _, fun _ _ h9 => h9, pw_ps h _ hW⟩
    · conv => whnf
      refine np_rd_i (hW.ga ha0 hi0) ?_
      conv => whnf
      refine pw_ck h (fun _ h => ?_)
      conv => whnf
      refine pw_wr (a := a0) (i := i0) (d := upd (S a0 i0) (x1 : Int32).toNatClampNeg x2) hW hi0 (pw_ent_arr ha0).symm h (fun S1 f2 hW3 h => ?_)
      conv => whnf
      exact ⟨Nat.le_of_ble_eq_true rfl, Nat.le_of_ble_eq_true rfl, rfl, _, fun _ _ h9 => h9, pw_ps h _ hW3⟩
theorem dX1_add_0 : decode cX1_add 0 = .ok (.aload_n 0, 1) := by decide +kernel
theorem dX1_add_1 : decode cX1_add 1 = .ok (.getfield 18, 3) := by decide +kernel
theorem dX1_add_4 : decode cX1_add 4 = .ok (.aload_n 0, 1) := by decide +kernel
theorem dX1_add_5 : decode cX1_add 5 = .ok (.getfield 45, 3) := by decide +kernel
theorem dX1_add_8 : decode cX1_add 8 = .ok (.iload_n 1, 1) := by decide +kernel
theorem dX1_add_9 : decode cX1_add 9 = .ok (.invokestatic 49, 3) := by decide +kernel
theorem dX1_add_12 : decode cX1_add 12 = .ok (.aload_n 0, 1) := by decide +kernel
theorem dX1_add_13 : decode cX1_add 13 = .ok (.getfield 22, 3) := by decide +kernel
theorem dX1_add_16 : decode cX1_add 16 = .ok (.aload_n 0, 1) := by decide +kernel
theorem dX1_add_17 : decode cX1_add 17 = .ok (.getfield 45, 3) := by decide +kernel
theorem dX1_add_20 : decode cX1_add 20 = .ok (.iload_n 2, 1) := by decide +kernel
theorem dX1_add_21 : decode cX1_add 21 = .ok (.invokestatic 49, 3) := by decide +kernel
theorem dX1_add_24 : decode cX1_add 24 = .ok (.aload_n 0, 1) := by decide +kernel
theorem dX1_add_25 : decode cX1_add 25 = .ok (.getfield 25, 3) := by decide +kernel
theorem dX1_add_28 : decode cX1_add 28 = .ok (.aload_n 0, 1) := by decide +kernel
theorem dX1_add_29 : decode cX1_add 29 = .ok (.getfield 45, 3) := by decide +kernel
theorem dX1_add_32 : decode cX1_add 32 = .ok (.iload_n 3, 1) := by decide +kernel
theorem dX1_add_33 : decode cX1_add 33 = .ok (.invokestatic 49, 3) := by decide +kernel
theorem dX1_add_36 : decode cX1_add 36 = .ok (.aload_n 0, 1) := by decide +kernel
theorem dX1_add_37 : decode cX1_add 37 = .ok (.getfield 28, 3) := by decide +kernel
theorem dX1_add_40 : decode cX1_add 40 = .ok (.aload_n 0, 1) := by decide +kernel
theorem dX1_add_41 : decode cX1_add 41 = .ok (.getfield 45, 3) := by decide +kernel
theorem dX1_add_44 : decode cX1_add 44 = .ok (.iload 4, 2) := by decide +kernel
theorem dX1_add_46 : decode cX1_add 46 = .ok (.invokestatic 49, 3) := by decide +kernel
theorem dX1_add_49 : decode cX1_add 49 = .ok (.aload_n 0, 1) := by decide +kernel
theorem dX1_add_50 : decode cX1_add 50 = .ok (.getfield 31, 3) := by decide +kernel
theorem dX1_add_53 : decode cX1_add 53 = .ok (.aload_n 0, 1) := by decide +kernel
theorem dX1_add_54 : decode cX1_add 54 = .ok (.getfield 45, 3) := by decide +kernel
theorem dX1_add_57 : decode cX1_add 57 = .ok (.iload 5, 2) := by decide +kernel
theorem dX1_add_59 : decode cX1_add 59 = .ok (.invokestatic 49, 3) := by decide +kernel
theorem dX1_add_62 : decode cX1_add 62 = .ok (.aload_n 0, 1) := by decide +kernel
theorem dX1_add_63 : decode cX1_add 63 = .ok (.dup, 1) := by decide +kernel
theorem dX1_add_64 : decode cX1_add 64 = .ok (.getfield 45, 3) := by decide +kernel
theorem dX1_add_67 : decode cX1_add 67 = .ok (.iconst 1, 1) := by decide +kernel
theorem dX1_add_68 : decode cX1_add 68 = .ok (.iadd, 1) := by decide +kernel
theorem dX1_add_69 : decode cX1_add 69 = .ok (.putfield 45, 3) := by decide +kernel
theorem dX1_add_72 : decode cX1_add 72 = .ok (.return_, 1) := by decide +kernel
def is_X1_add (Rt : np_Rt) : List (Nat × np_Op) := [(0, np_ald 1 0), (1, nw_getf 1 1), (4, np_ald 1 0), (5, nw_getf 1 6), (8, np_ild 1 1), (9, nq_call 3 sp_X11_put 3 0 0 0 0), (12, np_ald 1 0), (13, nw_getf 1 2), (16, np_ald 1 0), (17, nw_getf 1 6), (20, np_ild 1 2), (21, nq_call 3 sp_X11_put 3 0 0 0 0), (24, np_ald 1 0), (25, nw_getf 1 3), (28, np_ald 1 0), (29, nw_getf 1 6), (32, np_ild 1 3), (33, nq_call 3 sp_X11_put 3 0 0 0 0), (36, np_ald 1 0), (37, nw_getf 1 4), (40, np_ald 1 0), (41, nw_getf 1 6), (44, np_ild 2 4), (46, nq_call 3 sp_X11_put 3 0 0 0 0), (49, np_ald 1 0), (50, nw_getf 1 5), (53, np_ald 1 0), (54, nw_getf 1 6), (57, np_ild 2 5), (59, nq_call 3 sp_X11_put 3 0 0 0 0), (62, np_ald 1 0), (63, nq_dup), (64, nw_getf 1 6), (67, np_push 1 (.int 1)), (68, np_ib (fun x y => x + y)), (69, nw_putf 1 6 (.int)), (72, np_ret Rt)]
set_option maxRecDepth 20000 in
theorem so_X1_add {X : np_Ctx} {Rt : np_Rt} (hX : np_ok RX1 cX1_add 6 1 22 0 0 .return_ X) (hR : ∀ st w ce sl, Rt st w ce sl → X.2.2.1 st w ce sl) : ∀ q ∈ is_X1_add Rt, np_S X q.1 q.2 :=
  List.forall_mem_cons.mpr ⟨np_s_aload_n hX dX1_add_0 rfl, List.forall_mem_cons.mpr ⟨np_S.mono (op := np_getf 1 1) (np_s_getf hX dX1_add_1 (C := RX1) (T := TX1) (N := 7) rfl guX1 (by decide) gw316) nw_getf_le, List.forall_mem_cons.mpr ⟨np_s_aload_n hX dX1_add_4 rfl, List.forall_mem_cons.mpr ⟨np_S.mono (op := np_getf 1 6) (np_s_getf hX dX1_add_5 (C := RX1) (T := TX1) (N := 7) rfl guX1 (by decide) gw321) nw_getf_le, List.forall_mem_cons.mpr ⟨np_s_iload_n hX dX1_add_8 rfl, List.forall_mem_cons.mpr ⟨np_S.mono (op := np_call 3 sp_X11_put 3 0 0 0 0) (np_s_callSN hX C_X11_put dX1_add_9 gw632 gw63 gw1236 gw631 ⟨by decide, by decide, by decide⟩ (by decide) (by decide)) nq_call_le, List.forall_mem_cons.mpr ⟨np_s_aload_n hX dX1_add_12 rfl, List.forall_mem_cons.mpr ⟨np_S.mono (op := np_getf 1 2) (np_s_getf hX dX1_add_13 (C := RX1) (T := TX1) (N := 7) rfl guX1 (by decide) gw317) nw_getf_le, List.forall_mem_cons.mpr ⟨np_s_aload_n hX dX1_add_16 rfl, List.forall_mem_cons.mpr ⟨np_S.mono (op := np_getf 1 6) (np_s_getf hX dX1_add_17 (C := RX1) (T := TX1) (N := 7) rfl guX1 (by decide) gw321) nw_getf_le, List.forall_mem_cons.mpr ⟨np_s_iload_n hX dX1_add_20 rfl, List.forall_mem_cons.mpr ⟨np_S.mono (op := np_call 3 sp_X11_put 3 0 0 0 0) (np_s_callSN hX C_X11_put dX1_add_21 gw632 gw63 gw1236 gw631 ⟨by decide, by decide, by decide⟩ (by decide) (by decide)) nq_call_le, List.forall_mem_cons.mpr ⟨np_s_aload_n hX dX1_add_24 rfl, List.forall_mem_cons.mpr ⟨np_S.mono (op := np_getf 1 3) (np_s_getf hX dX1_add_25 (C := RX1) (T := TX1) (N := 7) rfl guX1 (by decide) gw318) nw_getf_le, List.forall_mem_cons.mpr ⟨np_s_aload_n hX dX1_add_28 rfl, List.forall_mem_cons.mpr ⟨np_S.mono (op := np_getf 1 6) (np_s_getf hX dX1_add_29 (C := RX1) (T := TX1) (N := 7) rfl guX1 (by decide) gw321) nw_getf_le, List.forall_mem_cons.mpr ⟨np_s_iload_n hX dX1_add_32 rfl, List.forall_mem_cons.mpr ⟨np_S.mono (op := np_call 3 sp_X11_put 3 0 0 0 0) (np_s_callSN hX C_X11_put dX1_add_33 gw632 gw63 gw1236 gw631 ⟨by decide, by decide, by decide⟩ (by decide) (by decide)) nq_call_le, List.forall_mem_cons.mpr ⟨np_s_aload_n hX dX1_add_36 rfl, List.forall_mem_cons.mpr ⟨np_S.mono (op := np_getf 1 4) (np_s_getf hX dX1_add_37 (C := RX1) (T := TX1) (N := 7) rfl guX1 (by decide) gw319) nw_getf_le, List.forall_mem_cons.mpr ⟨np_s_aload_n hX dX1_add_40 rfl, List.forall_mem_cons.mpr ⟨np_S.mono (op := np_getf 1 6) (np_s_getf hX dX1_add_41 (C := RX1) (T := TX1) (N := 7) rfl guX1 (by decide) gw321) nw_getf_le, List.forall_mem_cons.mpr ⟨np_s_iload hX dX1_add_44, List.forall_mem_cons.mpr ⟨np_S.mono (op := np_call 3 sp_X11_put 3 0 0 0 0) (np_s_callSN hX C_X11_put dX1_add_46 gw632 gw63 gw1236 gw631 ⟨by decide, by decide, by decide⟩ (by decide) (by decide)) nq_call_le, List.forall_mem_cons.mpr ⟨np_s_aload_n hX dX1_add_49 rfl, List.forall_mem_cons.mpr ⟨np_S.mono (op := np_getf 1 5) (np_s_getf hX dX1_add_50 (C := RX1) (T := TX1) (N := 7) rfl guX1 (by decide) gw320) nw_getf_le, List.forall_mem_cons.mpr ⟨np_s_aload_n hX dX1_add_53 rfl, List.forall_mem_cons.mpr ⟨np_S.mono (op := np_getf 1 6) (np_s_getf hX dX1_add_54 (C := RX1) (T := TX1) (N := 7) rfl guX1 (by decide) gw321) nw_getf_le, List.forall_mem_cons.mpr ⟨np_s_iload hX dX1_add_57, List.forall_mem_cons.mpr ⟨np_S.mono (op := np_call 3 sp_X11_put 3 0 0 0 0) (np_s_callSN hX C_X11_put dX1_add_59 gw632 gw63 gw1236 gw631 ⟨by decide, by decide, by decide⟩ (by decide) (by decide)) nq_call_le, List.forall_mem_cons.mpr ⟨np_s_aload_n hX dX1_add_62 rfl, List.forall_mem_cons.mpr ⟨np_S.mono (op := np_dup) (np_s_dup hX dX1_add_63) nq_dup_le, List.forall_mem_cons.mpr ⟨np_S.mono (op := np_getf 1 6) (np_s_getf hX dX1_add_64 (C := RX1) (T := TX1) (N := 7) rfl guX1 (by decide) gw321) nw_getf_le, List.forall_mem_cons.mpr ⟨np_s_iconst hX dX1_add_67 (by decide), List.forall_mem_cons.mpr ⟨np_s_iadd hX dX1_add_68, List.forall_mem_cons.mpr ⟨np_S.mono (op := np_putf 1 6 (.int)) (np_s_putf hX dX1_add_69 (C := RX1) (T := TX1) (N := 7) (ty0 := tyX1) rfl guX1 tyX1_ok nmX1 (by decide) gw321 rfl rfl) nw_putf_le, List.forall_mem_cons.mpr ⟨np_S.mono (op := np_ret X.2.2.1) (np_s_ret hX dX1_add_72) (nq_ret_le hR), fun _ h => nomatch h⟩⟩⟩⟩⟩⟩⟩⟩⟩⟩⟩⟩⟩⟩⟩⟩⟩⟩⟩⟩⟩⟩⟩⟩⟩⟩⟩⟩⟩⟩⟩⟩⟩⟩⟩⟩⟩
noncomputable def m_X1_add (S : pw_S) (i0 : Nat) (x1 : Int32) (x2 : Int32) (x3 : Int32) (x4 : Int32) (x5 : Int32) : pw_R Unit :=
 pw_b (m_X11_put S 6 i0 (S 52 i0 6) x1) fun S1 r4 =>
 pw_b (m_X11_put S1 7 i0 (S1 52 i0 6) x2) fun S6 r9 =>
 pw_b (m_X11_put S6 8 i0 (S6 52 i0 6) x3) fun S11 r14 =>
 pw_b (m_X11_put S11 9 i0 (S11 52 i0 6) x4) fun S16 r19 =>
 pw_b (m_X11_put S16 10 i0 (S16 52 i0 6) x5) fun S21 r24 =>
 pw_l (pw_up S21 52 i0 (upd (S21 52 i0) 6 ((S21 52 i0 6) + 1))) fun S26 =>
 some (S26, ())
def sp_X1_add : np_Sp := fun vs w Q => ∃ (q : Nat) (S : pw_S) (i0 : Nat) (x1 : Int32) (x2 : Int32) (x3 : Int32) (x4 : Int32) (x5 : Int32), vs = [.ref (pw_pl 52 i0), .int x1, .int x2, .int x3, .int x4, .int x5] ∧ pw_ok q 52 i0 = true ∧ pw_W q w S ∧ pw_p (m_X1_add S i0 x1 x2 x3 x4 x5) (fun S' r => ∀ f', pw_W q (w.1, f') S' → Q none (w.1, f'))
set_option maxRecDepth 100000 in
set_option maxHeartbeats 8000000 in
theorem C_X1_add : np_C yX1_add cX1_add 6 none 1 22 0 0 sp_X1_add := by
  refine np_of (by decide) ?_
  intro X vs w Q hsp hX hmn hRt hlt
  obtain ⟨q, S, i0, x1, x2, x3, x4, x5, rfl, hi0, hW, h⟩ := hsp
  obtain ⟨n, f⟩ := w
  unfold m_X1_add at h
  have hR : ∀ st w ce sl, np_rt none 0 0 Q st w ce sl → X.2.2.1 st w ce sl := fun _ _ _ _ h => by rw [hRt]; exact h
  refine np_soundW (so_X1_add hX hR) [] 400 0 _ _ _ _ _ ?_
  conv => whnf
  refine np_rd_i (hW.g hi0) ?_
  conv => whnf
  refine np_rd_i (hW.g hi0) ?_
  conv => whnf
  refine ⟨q, S, 6, i0, (S 52 i0 6), x1, rfl, rfl, hi0, hW, pw_bd h (fun S1 r4 h f2 hW3 => ?_)⟩
  conv => whnf
  refine np_rd_i (hW3.g hi0) ?_
  conv => whnf
  refine np_rd_i (hW3.g hi0) ?_
  conv => whnf
  refine ⟨q, S1, 7, i0, (S1 52 i0 6), x2, rfl, rfl, hi0, hW3, pw_bd h (fun S6 r9 h f7 hW8 => ?_)⟩
  conv => whnf
  refine np_rd_i (hW8.g hi0) ?_
  conv => whnf
  refine np_rd_i (hW8.g hi0) ?_
  conv => whnf
  refine ⟨q, S6, 8, i0, (S6 52 i0 6), x3, rfl, rfl, hi0, hW8, pw_bd h (fun S11 r14 h f12 hW13 => ?_)⟩
  conv => whnf
  refine np_rd_i (hW13.g hi0) ?_
  conv => whnf
  refine np_rd_i (hW13.g hi0) ?_
  conv => whnf
  refine ⟨q, S11, 9, i0, (S11 52 i0 6), x4, rfl, rfl, hi0, hW13, pw_bd h (fun S16 r19 h f17 hW18 => ?_)⟩
  conv => whnf
  refine np_rd_i (hW18.g hi0) ?_
  conv => whnf
  refine np_rd_i (hW18.g hi0) ?_
  conv => whnf
  refine ⟨q, S16, 10, i0, (S16 52 i0 6), x5, rfl, rfl, hi0, hW18, pw_bd h (fun S21 r24 h f22 hW23 => ?_)⟩
  conv => whnf
  refine np_rd_i (hW23.g hi0) ?_
  conv => whnf
  refine np_rd_i (hW23.g hi0) ?_
  conv => whnf
  refine pw_wr (a := 52) (i := i0) (d := upd (S21 52 i0) 6 ((S21 52 i0 6) + 1)) hW23 hi0 rfl h (fun S26 f27 hW28 h => ?_)
  conv => whnf
  exact ⟨Nat.le_of_ble_eq_true rfl, Nat.le_of_ble_eq_true rfl, rfl, _, fun _ _ h9 => h9, pw_ps h _ hW28⟩
theorem dX1_valueOf_0 : decode cX1_valueOf 0 = .ok (.iload_n 0, 1) := by decide +kernel
theorem dX1_valueOf_1 : decode cX1_valueOf 1 = .ok (.invokestatic 34, 3) := by decide +kernel
theorem dX1_valueOf_4 : decode cX1_valueOf 4 = .ok (.ifCond .eq 17, 3) := by decide +kernel
theorem dX1_valueOf_7 : decode cX1_valueOf 7 = .ok (.aload_n 1, 1) := by decide +kernel
theorem dX1_valueOf_8 : decode cX1_valueOf 8 = .ok (.iload_n 0, 1) := by decide +kernel
theorem dX1_valueOf_9 : decode cX1_valueOf 9 = .ok (.iconst 0, 1) := by decide +kernel
theorem dX1_valueOf_10 : decode cX1_valueOf 10 = .ok (.invokestatic 69, 3) := by decide +kernel
theorem dX1_valueOf_13 : decode cX1_valueOf 13 = .ok (.ldc 65, 2) := by decide +kernel
theorem dX1_valueOf_15 : decode cX1_valueOf 15 = .ok (.invokestatic 57, 3) := by decide +kernel
theorem dX1_valueOf_18 : decode cX1_valueOf 18 = .ok (.goto 5, 3) := by decide +kernel
theorem dX1_valueOf_21 : decode cX1_valueOf 21 = .ok (.ldc 65, 2) := by decide +kernel
theorem dX1_valueOf_23 : decode cX1_valueOf 23 = .ok (.ireturn, 1) := by decide +kernel
def is_X1_valueOf (Rt : np_Rt) : List (Nat × np_Op) := [(0, np_ild 1 0), (1, nq_call 1 sp_X11_isSlot 1 0 0 0 0), (4, nq_if (fun x => x = 0) 21), (7, np_ald 1 1), (8, np_ild 1 0), (9, np_push 1 (.int 0)), (10, nq_call 2 sp_X11_cellPlace 2 0 0 0 0), (13, np_push 2 (.int (-2147483648))), (15, nq_call 3 sp_X11_at 3 0 0 0 0), (18, np_goto 23), (21, np_push 2 (.int (-2147483648))), (23, np_ret Rt)]
set_option maxRecDepth 20000 in
theorem so_X1_valueOf {X : np_Ctx} {Rt : np_Rt} (hX : np_ok RX1 cX1_valueOf 2 1 22 0 0 .ireturn X) (hR : ∀ st w ce sl, Rt st w ce sl → X.2.2.1 st w ce sl) : ∀ q ∈ is_X1_valueOf Rt, np_S X q.1 q.2 :=
  List.forall_mem_cons.mpr ⟨np_s_iload_n hX dX1_valueOf_0 rfl, List.forall_mem_cons.mpr ⟨np_S.mono (op := np_call 1 sp_X11_isSlot 1 0 0 0 0) (np_s_callSN hX C_X11_isSlot dX1_valueOf_1 gw515 gw63 gw911 gw514 ⟨by decide, by decide, by decide⟩ (by decide) (by decide)) nq_call_le, List.forall_mem_cons.mpr ⟨np_S.mono (op := np_if (fun x => x = 0) 21) (np_s_if_eq hX dX1_valueOf_4 (by decide)) nq_if_le, List.forall_mem_cons.mpr ⟨np_s_aload_n hX dX1_valueOf_7 rfl, List.forall_mem_cons.mpr ⟨np_s_iload_n hX dX1_valueOf_8 rfl, List.forall_mem_cons.mpr ⟨np_s_iconst hX dX1_valueOf_9 (by decide), List.forall_mem_cons.mpr ⟨np_S.mono (op := np_call 2 sp_X11_cellPlace 2 0 0 0 0) (np_s_callSN hX C_X11_cellPlace dX1_valueOf_10 gw725 gw63 gw912 gw724 ⟨by decide, by decide, by decide⟩ (by decide) (by decide)) nq_call_le, List.forall_mem_cons.mpr ⟨np_s_ldc hX dX1_valueOf_13 gw913, List.forall_mem_cons.mpr ⟨np_S.mono (op := np_call 3 sp_X11_at 3 0 0 0 0) (np_s_callSN hX C_X11_at dX1_valueOf_15 gw653 gw63 gw907 gw652 ⟨by decide, by decide, by decide⟩ (by decide) (by decide)) nq_call_le, List.forall_mem_cons.mpr ⟨np_s_goto hX dX1_valueOf_18 (by decide), List.forall_mem_cons.mpr ⟨np_s_ldc hX dX1_valueOf_21 gw913, List.forall_mem_cons.mpr ⟨np_S.mono (op := np_ret X.2.2.1) (np_s_ret hX dX1_valueOf_23) (nq_ret_le hR), fun _ h => nomatch h⟩⟩⟩⟩⟩⟩⟩⟩⟩⟩⟩⟩
noncomputable def m_X1_valueOf (S : pw_S) (x0 : Int32) (a1 : Nat) (i1 : Nat) : pw_R Int32 :=
 pw_b (m_X11_isSlot S x0) fun S1 r4 =>
 if r4 = 0 then
 (some (S1, (-2147483648)))
 else
 (pw_b (m_X11_cellPlace S1 x0 0) fun S6 r9 =>
 pw_b (m_X11_at S6 a1 i1 r9 (-2147483648)) fun S11 r14 =>
 some (S11, r14))
def sp_X1_valueOf : np_Sp := fun vs w Q => ∃ (q : Nat) (S : pw_S) (x0 : Int32) (a1 : Nat) (i1 : Nat), vs = [.int x0, .ref (pw_pl a1 i1)] ∧ pw_arr a1 = true ∧ pw_ok q a1 i1 = true ∧ pw_W q w S ∧ pw_p (m_X1_valueOf S x0 a1 i1) (fun S' r => ∀ f', pw_W q (w.1, f') S' → Q (some (.int r)) (w.1, f'))
set_option maxRecDepth 100000 in
set_option maxHeartbeats 8000000 in
theorem C_X1_valueOf : np_C yX1_valueOf cX1_valueOf 2 (some .int) 1 22 0 0 sp_X1_valueOf := by
  refine np_of (by decide) ?_
  intro X vs w Q hsp hX hmn hRt hlt
  obtain ⟨q, S, x0, a1, i1, rfl, ha1, hi1, hW, h⟩ := hsp
  obtain ⟨n, f⟩ := w
  unfold m_X1_valueOf at h
  have hR : ∀ st w ce sl, np_rt (some .int) 0 0 Q st w ce sl → X.2.2.1 st w ce sl := fun _ _ _ _ h => by rw [hRt]; exact h
  refine np_soundW (so_X1_valueOf hX hR) [] 400 0 _ _ _ _ _ ?_
  conv => whnf
  refine ⟨q, S, x0, rfl, hW, pw_bd h (fun S1 r4 h f2 hW3 => ?_)⟩
  conv => whnf
  refine pw_br h (fun _ h => ?_) (fun _ h => ?_)
  · conv => whnf
    exact ⟨Nat.le_of_ble_eq_true rfl, Nat.le_of_ble_eq_true rfl, ⟨_, rfl⟩, _, fun _ _ h9 => h9, pw_ps h _ hW3⟩
  · conv => whnf
    refine ⟨q, S1, x0, 0, rfl, hW3, pw_bd h (fun S6 r9 h f7 hW8 => ?_)⟩
    conv => whnf
    refine ⟨q, S6, a1, i1, r9, (-2147483648), rfl, ha1, hi1, hW8, pw_bd h (fun S11 r14 h f12 hW13 => ?_)⟩
    conv => whnf
    exact ⟨Nat.le_of_ble_eq_true rfl, Nat.le_of_ble_eq_true rfl, ⟨_, rfl⟩, _, fun _ _ h9 => h9, pw_ps h _ hW13⟩
theorem dX1_isSum_0 : decode cX1_isSum 0 = .ok (.iload_n 1, 1) := by decide +kernel
theorem dX1_isSum_1 : decode cX1_isSum 1 = .ok (.ldc 65, 2) := by decide +kernel
theorem dX1_isSum_3 : decode cX1_isSum 3 = .ok (.if_icmp .eq 20, 3) := by decide +kernel
theorem dX1_isSum_6 : decode cX1_isSum 6 = .ok (.iload_n 2, 1) := by decide +kernel
theorem dX1_isSum_7 : decode cX1_isSum 7 = .ok (.ldc 65, 2) := by decide +kernel
theorem dX1_isSum_9 : decode cX1_isSum 9 = .ok (.if_icmp .eq 14, 3) := by decide +kernel
theorem dX1_isSum_12 : decode cX1_isSum 12 = .ok (.iload_n 0, 1) := by decide +kernel
theorem dX1_isSum_13 : decode cX1_isSum 13 = .ok (.i2l, 1) := by decide +kernel
theorem dX1_isSum_14 : decode cX1_isSum 14 = .ok (.iload_n 1, 1) := by decide +kernel
theorem dX1_isSum_15 : decode cX1_isSum 15 = .ok (.i2l, 1) := by decide +kernel
theorem dX1_isSum_16 : decode cX1_isSum 16 = .ok (.ladd, 1) := by decide +kernel
theorem dX1_isSum_17 : decode cX1_isSum 17 = .ok (.iload_n 2, 1) := by decide +kernel
theorem dX1_isSum_18 : decode cX1_isSum 18 = .ok (.i2l, 1) := by decide +kernel
theorem dX1_isSum_19 : decode cX1_isSum 19 = .ok (.lcmp, 1) := by decide +kernel
theorem dX1_isSum_20 : decode cX1_isSum 20 = .ok (.ifCond .ne 7, 3) := by decide +kernel
theorem dX1_isSum_23 : decode cX1_isSum 23 = .ok (.iconst 1, 1) := by decide +kernel
theorem dX1_isSum_24 : decode cX1_isSum 24 = .ok (.goto 4, 3) := by decide +kernel
theorem dX1_isSum_27 : decode cX1_isSum 27 = .ok (.iconst 0, 1) := by decide +kernel
theorem dX1_isSum_28 : decode cX1_isSum 28 = .ok (.ireturn, 1) := by decide +kernel
def is_X1_isSum (Rt : np_Rt) : List (Nat × np_Op) := [(0, np_ild 1 1), (1, np_push 2 (.int (-2147483648))), (3, nq_ic (fun x y => x = y) 23), (6, np_ild 1 2), (7, np_push 2 (.int (-2147483648))), (9, nq_ic (fun x y => x = y) 23), (12, np_ild 1 0), (13, np_i2l), (14, np_ild 1 1), (15, np_i2l), (16, np_lb (fun x y => x + y)), (17, np_ild 1 2), (18, np_i2l), (19, np_lcmp), (20, nq_ifne 27), (23, np_push 1 (.int 1)), (24, np_goto 28), (27, np_push 1 (.int 0)), (28, np_ret Rt)]
set_option maxRecDepth 20000 in
theorem so_X1_isSum {X : np_Ctx} {Rt : np_Rt} (hX : np_ok RX1 cX1_isSum 3 0 0 0 0 .ireturn X) (hR : ∀ st w ce sl, Rt st w ce sl → X.2.2.1 st w ce sl) : ∀ q ∈ is_X1_isSum Rt, np_S X q.1 q.2 :=
  List.forall_mem_cons.mpr ⟨np_s_iload_n hX dX1_isSum_0 rfl, List.forall_mem_cons.mpr ⟨np_s_ldc hX dX1_isSum_1 gw913, List.forall_mem_cons.mpr ⟨np_S.mono (op := np_ic (fun x y => x = y) 23) (np_s_icmp_eq hX dX1_isSum_3 (by decide)) nq_ic_le, List.forall_mem_cons.mpr ⟨np_s_iload_n hX dX1_isSum_6 rfl, List.forall_mem_cons.mpr ⟨np_s_ldc hX dX1_isSum_7 gw913, List.forall_mem_cons.mpr ⟨np_S.mono (op := np_ic (fun x y => x = y) 23) (np_s_icmp_eq hX dX1_isSum_9 (by decide)) nq_ic_le, List.forall_mem_cons.mpr ⟨np_s_iload_n hX dX1_isSum_12 rfl, List.forall_mem_cons.mpr ⟨np_s_i2l hX dX1_isSum_13, List.forall_mem_cons.mpr ⟨np_s_iload_n hX dX1_isSum_14 rfl, List.forall_mem_cons.mpr ⟨np_s_i2l hX dX1_isSum_15, List.forall_mem_cons.mpr ⟨np_s_ladd hX dX1_isSum_16, List.forall_mem_cons.mpr ⟨np_s_iload_n hX dX1_isSum_17 rfl, List.forall_mem_cons.mpr ⟨np_s_i2l hX dX1_isSum_18, List.forall_mem_cons.mpr ⟨np_s_lcmp hX dX1_isSum_19, List.forall_mem_cons.mpr ⟨np_S.mono (op := np_ifne 27) (np_s_if_ne hX dX1_isSum_20 (by decide)) nq_ifne_le, List.forall_mem_cons.mpr ⟨np_s_iconst hX dX1_isSum_23 (by decide), List.forall_mem_cons.mpr ⟨np_s_goto hX dX1_isSum_24 (by decide), List.forall_mem_cons.mpr ⟨np_s_iconst hX dX1_isSum_27 (by decide), List.forall_mem_cons.mpr ⟨np_S.mono (op := np_ret X.2.2.1) (np_s_ret hX dX1_isSum_28) (nq_ret_le hR), fun _ h => nomatch h⟩⟩⟩⟩⟩⟩⟩⟩⟩⟩⟩⟩⟩⟩⟩⟩⟩⟩⟩
noncomputable def m_X1_isSum (S : pw_S) (x0 : Int32) (x1 : Int32) (x2 : Int32) : pw_R Int32 :=
 if x1 = (-2147483648) then
 (some (S, 1))
 else
 (if x2 = (-2147483648) then
 (some (S, 1))
 else
 (if (lg_cmp ((x0 : Int32).toInt64 + (x1 : Int32).toInt64) (x2 : Int32).toInt64) = 0 then
 (some (S, 1))
 else
 (some (S, 0))))
def sp_X1_isSum : np_Sp := fun vs w Q => ∃ (q : Nat) (S : pw_S) (x0 : Int32) (x1 : Int32) (x2 : Int32), vs = [.int x0, .int x1, .int x2] ∧ pw_W q w S ∧ pw_p (m_X1_isSum S x0 x1 x2) (fun S' r => ∀ f', pw_W q (w.1, f') S' → Q (some (.int r)) (w.1, f'))
set_option maxRecDepth 100000 in
set_option maxHeartbeats 8000000 in
theorem C_X1_isSum : np_C yX1_isSum cX1_isSum 3 (some .boolean) 0 0 0 0 sp_X1_isSum := by
  refine np_of (by decide) ?_
  intro X vs w Q hsp hX hmn hRt hlt
  obtain ⟨q, S, x0, x1, x2, rfl, hW, h⟩ := hsp
  obtain ⟨n, f⟩ := w
  unfold m_X1_isSum at h
  have hR : ∀ st w ce sl, np_rt (some .boolean) 0 0 Q st w ce sl → X.2.2.1 st w ce sl := fun _ _ _ _ h => by rw [hRt]; exact h
  refine np_soundW (so_X1_isSum hX hR) [] 400 0 _ _ _ _ _ ?_
  conv => whnf
  refine pw_br h (fun _ h => ?_) (fun _ h => ?_)
  · conv => whnf
    exact ⟨Nat.le_of_ble_eq_true rfl, Nat.le_of_ble_eq_true rfl, ⟨_, rfl, by decide⟩, _, fun _ _ h9 => h9, pw_ps h _ hW⟩
  · conv => whnf
    refine pw_br h (fun _ h => ?_) (fun _ h => ?_)
    · conv => whnf
      exact ⟨Nat.le_of_ble_eq_true rfl, Nat.le_of_ble_eq_true rfl, ⟨_, rfl, by decide⟩, _, fun _ _ h9 => h9, pw_ps h _ hW⟩
    · conv => whnf
      refine pw_br h (fun _ h => ?_) (fun _ h => ?_)
      · conv => whnf
        exact ⟨Nat.le_of_ble_eq_true rfl, Nat.le_of_ble_eq_true rfl, ⟨_, rfl, by decide⟩, _, fun _ _ h9 => h9, pw_ps h _ hW⟩
      · conv => whnf
        exact ⟨Nat.le_of_ble_eq_true rfl, Nat.le_of_ble_eq_true rfl, ⟨_, rfl, by decide⟩, _, fun _ _ h9 => h9, pw_ps h _ hW⟩
theorem dX1_holds_0 : decode cX1_holds 0 = .ok (.aload_n 0, 1) := by decide +kernel
theorem dX1_holds_1 : decode cX1_holds 1 = .ok (.getfield 25, 3) := by decide +kernel
theorem dX1_holds_4 : decode cX1_holds 4 = .ok (.iload_n 1, 1) := by decide +kernel
theorem dX1_holds_5 : decode cX1_holds 5 = .ok (.iconst 0, 1) := by decide +kernel
theorem dX1_holds_6 : decode cX1_holds 6 = .ok (.invokestatic 57, 3) := by decide +kernel
theorem dX1_holds_9 : decode cX1_holds 9 = .ok (.istore_n 3, 1) := by decide +kernel
theorem dX1_holds_10 : decode cX1_holds 10 = .ok (.aload_n 0, 1) := by decide +kernel
theorem dX1_holds_11 : decode cX1_holds 11 = .ok (.getfield 22, 3) := by decide +kernel
theorem dX1_holds_14 : decode cX1_holds 14 = .ok (.iload_n 1, 1) := by decide +kernel
theorem dX1_holds_15 : decode cX1_holds 15 = .ok (.iconst (-1), 1) := by decide +kernel
theorem dX1_holds_16 : decode cX1_holds 16 = .ok (.invokestatic 57, 3) := by decide +kernel
theorem dX1_holds_19 : decode cX1_holds 19 = .ok (.aload_n 2, 1) := by decide +kernel
theorem dX1_holds_20 : decode cX1_holds 20 = .ok (.invokestatic 61, 3) := by decide +kernel
theorem dX1_holds_23 : decode cX1_holds 23 = .ok (.istore 4, 2) := by decide +kernel
theorem dX1_holds_25 : decode cX1_holds 25 = .ok (.iload 4, 2) := by decide +kernel
theorem dX1_holds_27 : decode cX1_holds 27 = .ok (.ldc 65, 2) := by decide +kernel
theorem dX1_holds_29 : decode cX1_holds 29 = .ok (.if_icmp .ne 5, 3) := by decide +kernel
theorem dX1_holds_32 : decode cX1_holds 32 = .ok (.iconst 1, 1) := by decide +kernel
theorem dX1_holds_33 : decode cX1_holds 33 = .ok (.ireturn, 1) := by decide +kernel
theorem dX1_holds_34 : decode cX1_holds 34 = .ok (.aload_n 0, 1) := by decide +kernel
theorem dX1_holds_35 : decode cX1_holds 35 = .ok (.getfield 18, 3) := by decide +kernel
theorem dX1_holds_38 : decode cX1_holds 38 = .ok (.iload_n 1, 1) := by decide +kernel
theorem dX1_holds_39 : decode cX1_holds 39 = .ok (.iconst (-1), 1) := by decide +kernel
theorem dX1_holds_40 : decode cX1_holds 40 = .ok (.invokestatic 57, 3) := by decide +kernel
theorem dX1_holds_43 : decode cX1_holds 43 = .ok (.tableswitch 108 0 3 #[29, 55, 67, 91], 29) := by decide +kernel
theorem dX1_holds_72 : decode cX1_holds 72 = .ok (.iload_n 3, 1) := by decide +kernel
theorem dX1_holds_73 : decode cX1_holds 73 = .ok (.aload_n 2, 1) := by decide +kernel
theorem dX1_holds_74 : decode cX1_holds 74 = .ok (.invokestatic 61, 3) := by decide +kernel
theorem dX1_holds_77 : decode cX1_holds 77 = .ok (.ldc 65, 2) := by decide +kernel
theorem dX1_holds_79 : decode cX1_holds 79 = .ok (.if_icmp .eq 13, 3) := by decide +kernel
theorem dX1_holds_82 : decode cX1_holds 82 = .ok (.iload 4, 2) := by decide +kernel
theorem dX1_holds_84 : decode cX1_holds 84 = .ok (.iload_n 3, 1) := by decide +kernel
theorem dX1_holds_85 : decode cX1_holds 85 = .ok (.aload_n 2, 1) := by decide +kernel
theorem dX1_holds_86 : decode cX1_holds 86 = .ok (.invokestatic 61, 3) := by decide +kernel
theorem dX1_holds_89 : decode cX1_holds 89 = .ok (.if_icmp .ge 7, 3) := by decide +kernel
theorem dX1_holds_92 : decode cX1_holds 92 = .ok (.iconst 1, 1) := by decide +kernel
theorem dX1_holds_93 : decode cX1_holds 93 = .ok (.goto 4, 3) := by decide +kernel
theorem dX1_holds_96 : decode cX1_holds 96 = .ok (.iconst 0, 1) := by decide +kernel
theorem dX1_holds_97 : decode cX1_holds 97 = .ok (.ireturn, 1) := by decide +kernel
theorem dX1_holds_98 : decode cX1_holds 98 = .ok (.iload 4, 2) := by decide +kernel
theorem dX1_holds_100 : decode cX1_holds 100 = .ok (.iload_n 3, 1) := by decide +kernel
theorem dX1_holds_101 : decode cX1_holds 101 = .ok (.if_icmp .ne 7, 3) := by decide +kernel
theorem dX1_holds_104 : decode cX1_holds 104 = .ok (.iconst 1, 1) := by decide +kernel
theorem dX1_holds_105 : decode cX1_holds 105 = .ok (.goto 4, 3) := by decide +kernel
theorem dX1_holds_108 : decode cX1_holds 108 = .ok (.iconst 0, 1) := by decide +kernel
theorem dX1_holds_109 : decode cX1_holds 109 = .ok (.ireturn, 1) := by decide +kernel
theorem dX1_holds_110 : decode cX1_holds 110 = .ok (.iload 4, 2) := by decide +kernel
theorem dX1_holds_112 : decode cX1_holds 112 = .ok (.iload_n 3, 1) := by decide +kernel
theorem dX1_holds_113 : decode cX1_holds 113 = .ok (.aload_n 2, 1) := by decide +kernel
theorem dX1_holds_114 : decode cX1_holds 114 = .ok (.invokestatic 61, 3) := by decide +kernel
theorem dX1_holds_117 : decode cX1_holds 117 = .ok (.aload_n 0, 1) := by decide +kernel
theorem dX1_holds_118 : decode cX1_holds 118 = .ok (.getfield 28, 3) := by decide +kernel
theorem dX1_holds_121 : decode cX1_holds 121 = .ok (.iload_n 1, 1) := by decide +kernel
theorem dX1_holds_122 : decode cX1_holds 122 = .ok (.iconst (-1), 1) := by decide +kernel
theorem dX1_holds_123 : decode cX1_holds 123 = .ok (.invokestatic 57, 3) := by decide +kernel
theorem dX1_holds_126 : decode cX1_holds 126 = .ok (.aload_n 2, 1) := by decide +kernel
theorem dX1_holds_127 : decode cX1_holds 127 = .ok (.invokestatic 61, 3) := by decide +kernel
theorem dX1_holds_130 : decode cX1_holds 130 = .ok (.invokestatic 66, 3) := by decide +kernel
theorem dX1_holds_133 : decode cX1_holds 133 = .ok (.ireturn, 1) := by decide +kernel
theorem dX1_holds_134 : decode cX1_holds 134 = .ok (.iload_n 3, 1) := by decide +kernel
theorem dX1_holds_135 : decode cX1_holds 135 = .ok (.ifCond .eq 10, 3) := by decide +kernel
theorem dX1_holds_138 : decode cX1_holds 138 = .ok (.iload 4, 2) := by decide +kernel
theorem dX1_holds_140 : decode cX1_holds 140 = .ok (.iload_n 3, 1) := by decide +kernel
theorem dX1_holds_141 : decode cX1_holds 141 = .ok (.irem, 1) := by decide +kernel
theorem dX1_holds_142 : decode cX1_holds 142 = .ok (.ifCond .ne 7, 3) := by decide +kernel
theorem dX1_holds_145 : decode cX1_holds 145 = .ok (.iconst 1, 1) := by decide +kernel
theorem dX1_holds_146 : decode cX1_holds 146 = .ok (.goto 4, 3) := by decide +kernel
theorem dX1_holds_149 : decode cX1_holds 149 = .ok (.iconst 0, 1) := by decide +kernel
theorem dX1_holds_150 : decode cX1_holds 150 = .ok (.ireturn, 1) := by decide +kernel
theorem dX1_holds_151 : decode cX1_holds 151 = .ok (.iconst 1, 1) := by decide +kernel
theorem dX1_holds_152 : decode cX1_holds 152 = .ok (.ireturn, 1) := by decide +kernel
def is_X1_holds (Rt : np_Rt) : List (Nat × np_Op) := [(0, np_ald 1 0), (1, nw_getf 1 3), (4, np_ild 1 1), (5, np_push 1 (.int 0)), (6, nq_call 3 sp_X11_at 3 0 0 0 0), (9, nw_ist 1 3), (10, np_ald 1 0), (11, nw_getf 1 2), (14, np_ild 1 1), (15, np_push 1 (.int (-1))), (16, nq_call 3 sp_X11_at 3 0 0 0 0), (19, np_ald 1 2), (20, nq_call 2 sp_X1_valueOf 2 0 0 0 0), (23, nw_ist 2 4), (25, np_ild 2 4), (27, np_push 2 (.int (-2147483648))), (29, nq_icne 34), (32, np_push 1 (.int 1)), (33, np_ret Rt), (34, np_ald 1 0), (35, nw_getf 1 1), (38, np_ild 1 1), (39, np_push 1 (.int (-1))), (40, nq_call 3 sp_X11_at 3 0 0 0 0), (43, nq_tsw (0) [72, 98, 110, 134] 151), (72, np_ild 1 3), (73, np_ald 1 2), (74, nq_call 2 sp_X1_valueOf 2 0 0 0 0), (77, np_push 2 (.int (-2147483648))), (79, nq_ic (fun x y => x = y) 92), (82, np_ild 2 4), (84, np_ild 1 3), (85, np_ald 1 2), (86, nq_call 2 sp_X1_valueOf 2 0 0 0 0), (89, nq_ic (fun x y => y ≤ x) 96), (92, np_push 1 (.int 1)), (93, np_goto 97), (96, np_push 1 (.int 0)), (97, np_ret Rt), (98, np_ild 2 4), (100, np_ild 1 3), (101, nq_icne 108), (104, np_push 1 (.int 1)), (105, np_goto 109), (108, np_push 1 (.int 0)), (109, np_ret Rt), (110, np_ild 2 4), (112, np_ild 1 3), (113, np_ald 1 2), (114, nq_call 2 sp_X1_valueOf 2 0 0 0 0), (117, np_ald 1 0), (118, nw_getf 1 4), (121, np_ild 1 1), (122, np_push 1 (.int (-1))), (123, nq_call 3 sp_X11_at 3 0 0 0 0), (126, np_ald 1 2), (127, nq_call 2 sp_X1_valueOf 2 0 0 0 0), (130, nq_call 3 sp_X1_isSum 3 0 0 0 0), (133, np_ret Rt), (134, np_ild 1 3), (135, nq_if (fun x => x = 0) 145), (138, np_ild 2 4), (140, np_ild 1 3), (141, nq_ibn (fun x y => x - x / y * y)), (142, nq_ifne 149), (145, np_push 1 (.int 1)), (146, np_goto 150), (149, np_push 1 (.int 0)), (150, np_ret Rt), (151, np_push 1 (.int 1)), (152, np_ret Rt)]
set_option maxRecDepth 20000 in
theorem so_X1_holds {X : np_Ctx} {Rt : np_Rt} (hX : np_ok RX1 cX1_holds 5 2 43 0 0 .ireturn X) (hR : ∀ st w ce sl, Rt st w ce sl → X.2.2.1 st w ce sl) : ∀ q ∈ is_X1_holds Rt, np_S X q.1 q.2 :=
  List.forall_mem_cons.mpr ⟨np_s_aload_n hX dX1_holds_0 rfl, List.forall_mem_cons.mpr ⟨np_S.mono (op := np_getf 1 3) (np_s_getf hX dX1_holds_1 (C := RX1) (T := TX1) (N := 7) rfl guX1 (by decide) gw318) nw_getf_le, List.forall_mem_cons.mpr ⟨np_s_iload_n hX dX1_holds_4 rfl, List.forall_mem_cons.mpr ⟨np_s_iconst hX dX1_holds_5 (by decide), List.forall_mem_cons.mpr ⟨np_S.mono (op := np_call 3 sp_X11_at 3 0 0 0 0) (np_s_callSN hX C_X11_at dX1_holds_6 gw653 gw63 gw907 gw652 ⟨by decide, by decide, by decide⟩ (by decide) (by decide)) nq_call_le, List.forall_mem_cons.mpr ⟨np_S.mono (op := np_ist 1 3) (np_s_istore_n hX dX1_holds_9 rfl (by decide)) nw_ist_le, List.forall_mem_cons.mpr ⟨np_s_aload_n hX dX1_holds_10 rfl, List.forall_mem_cons.mpr ⟨np_S.mono (op := np_getf 1 2) (np_s_getf hX dX1_holds_11 (C := RX1) (T := TX1) (N := 7) rfl guX1 (by decide) gw317) nw_getf_le, List.forall_mem_cons.mpr ⟨np_s_iload_n hX dX1_holds_14 rfl, List.forall_mem_cons.mpr ⟨np_s_iconst hX dX1_holds_15 (by decide), List.forall_mem_cons.mpr ⟨np_S.mono (op := np_call 3 sp_X11_at 3 0 0 0 0) (np_s_callSN hX C_X11_at dX1_holds_16 gw653 gw63 gw907 gw652 ⟨by decide, by decide, by decide⟩ (by decide) (by decide)) nq_call_le, List.forall_mem_cons.mpr ⟨np_s_aload_n hX dX1_holds_19 rfl, List.forall_mem_cons.mpr ⟨np_S.mono (op := np_call 2 sp_X1_valueOf 2 0 0 0 0) (np_s_callS hX C_X1_valueOf dX1_holds_20 gw910 gw71 gw908 gw909 ⟨by decide, by decide, by decide⟩ (by decide) (by decide)) nq_call_le, List.forall_mem_cons.mpr ⟨np_S.mono (op := np_ist 2 4) (np_s_istore hX dX1_holds_23 (by decide)) nw_ist_le, List.forall_mem_cons.mpr ⟨np_s_iload hX dX1_holds_25, List.forall_mem_cons.mpr ⟨np_s_ldc hX dX1_holds_27 gw913, List.forall_mem_cons.mpr ⟨np_S.mono (op := np_icne 34) (np_s_icmp_ne hX dX1_holds_29 (by decide)) nq_icne_le, List.forall_mem_cons.mpr ⟨np_s_iconst hX dX1_holds_32 (by decide), List.forall_mem_cons.mpr ⟨np_S.mono (op := np_ret X.2.2.1) (np_s_ret hX dX1_holds_33) (nq_ret_le hR), List.forall_mem_cons.mpr ⟨np_s_aload_n hX dX1_holds_34 rfl, List.forall_mem_cons.mpr ⟨np_S.mono (op := np_getf 1 1) (np_s_getf hX dX1_holds_35 (C := RX1) (T := TX1) (N := 7) rfl guX1 (by decide) gw316) nw_getf_le, List.forall_mem_cons.mpr ⟨np_s_iload_n hX dX1_holds_38 rfl, List.forall_mem_cons.mpr ⟨np_s_iconst hX dX1_holds_39 (by decide), List.forall_mem_cons.mpr ⟨np_S.mono (op := np_call 3 sp_X11_at 3 0 0 0 0) (np_s_callSN hX C_X11_at dX1_holds_40 gw653 gw63 gw907 gw652 ⟨by decide, by decide, by decide⟩ (by decide) (by decide)) nq_call_le, List.forall_mem_cons.mpr ⟨np_S.mono (op := np_tsw (0) (3) [72, 98, 110, 134] 151) (np_s_tsw hX dX1_holds_43 (by decide) (by decide) (by decide)) (nq_tsw_le (by decide)), List.forall_mem_cons.mpr ⟨np_s_iload_n hX dX1_holds_72 rfl, List.forall_mem_cons.mpr ⟨np_s_aload_n hX dX1_holds_73 rfl, List.forall_mem_cons.mpr ⟨np_S.mono (op := np_call 2 sp_X1_valueOf 2 0 0 0 0) (np_s_callS hX C_X1_valueOf dX1_holds_74 gw910 gw71 gw908 gw909 ⟨by decide, by decide, by decide⟩ (by decide) (by decide)) nq_call_le, List.forall_mem_cons.mpr ⟨np_s_ldc hX dX1_holds_77 gw913, List.forall_mem_cons.mpr ⟨np_S.mono (op := np_ic (fun x y => x = y) 92) (np_s_icmp_eq hX dX1_holds_79 (by decide)) nq_ic_le, List.forall_mem_cons.mpr ⟨np_s_iload hX dX1_holds_82, List.forall_mem_cons.mpr ⟨np_s_iload_n hX dX1_holds_84 rfl, List.forall_mem_cons.mpr ⟨np_s_aload_n hX dX1_holds_85 rfl, List.forall_mem_cons.mpr ⟨np_S.mono (op := np_call 2 sp_X1_valueOf 2 0 0 0 0) (np_s_callS hX C_X1_valueOf dX1_holds_86 gw910 gw71 gw908 gw909 ⟨by decide, by decide, by decide⟩ (by decide) (by decide)) nq_call_le, List.forall_mem_cons.mpr ⟨np_S.mono (op := np_ic (fun x y => y ≤ x) 96) (np_s_icmp_ge hX dX1_holds_89 (by decide)) nq_ic_le, List.forall_mem_cons.mpr ⟨np_s_iconst hX dX1_holds_92 (by decide), List.forall_mem_cons.mpr ⟨np_s_goto hX dX1_holds_93 (by decide), List.forall_mem_cons.mpr ⟨np_s_iconst hX dX1_holds_96 (by decide), List.forall_mem_cons.mpr ⟨np_S.mono (op := np_ret X.2.2.1) (np_s_ret hX dX1_holds_97) (nq_ret_le hR), List.forall_mem_cons.mpr ⟨np_s_iload hX dX1_holds_98, List.forall_mem_cons.mpr ⟨np_s_iload_n hX dX1_holds_100 rfl, List.forall_mem_cons.mpr ⟨np_S.mono (op := np_icne 108) (np_s_icmp_ne hX dX1_holds_101 (by decide)) nq_icne_le, List.forall_mem_cons.mpr ⟨np_s_iconst hX dX1_holds_104 (by decide), List.forall_mem_cons.mpr ⟨np_s_goto hX dX1_holds_105 (by decide), List.forall_mem_cons.mpr ⟨np_s_iconst hX dX1_holds_108 (by decide), List.forall_mem_cons.mpr ⟨np_S.mono (op := np_ret X.2.2.1) (np_s_ret hX dX1_holds_109) (nq_ret_le hR), List.forall_mem_cons.mpr ⟨np_s_iload hX dX1_holds_110, List.forall_mem_cons.mpr ⟨np_s_iload_n hX dX1_holds_112 rfl, List.forall_mem_cons.mpr ⟨np_s_aload_n hX dX1_holds_113 rfl, List.forall_mem_cons.mpr ⟨np_S.mono (op := np_call 2 sp_X1_valueOf 2 0 0 0 0) (np_s_callS hX C_X1_valueOf dX1_holds_114 gw910 gw71 gw908 gw909 ⟨by decide, by decide, by decide⟩ (by decide) (by decide)) nq_call_le, List.forall_mem_cons.mpr ⟨np_s_aload_n hX dX1_holds_117 rfl, List.forall_mem_cons.mpr ⟨np_S.mono (op := np_getf 1 4) (np_s_getf hX dX1_holds_118 (C := RX1) (T := TX1) (N := 7) rfl guX1 (by decide) gw319) nw_getf_le, List.forall_mem_cons.mpr ⟨np_s_iload_n hX dX1_holds_121 rfl, List.forall_mem_cons.mpr ⟨np_s_iconst hX dX1_holds_122 (by decide), List.forall_mem_cons.mpr ⟨np_S.mono (op := np_call 3 sp_X11_at 3 0 0 0 0) (np_s_callSN hX C_X11_at dX1_holds_123 gw653 gw63 gw907 gw652 ⟨by decide, by decide, by decide⟩ (by decide) (by decide)) nq_call_le, List.forall_mem_cons.mpr ⟨np_s_aload_n hX dX1_holds_126 rfl, List.forall_mem_cons.mpr ⟨np_S.mono (op := np_call 2 sp_X1_valueOf 2 0 0 0 0) (np_s_callS hX C_X1_valueOf dX1_holds_127 gw910 gw71 gw908 gw909 ⟨by decide, by decide, by decide⟩ (by decide) (by decide)) nq_call_le, List.forall_mem_cons.mpr ⟨np_S.mono (op := np_call 3 sp_X1_isSum 3 0 0 0 0) (np_s_callS hX C_X1_isSum dX1_holds_130 gw916 gw71 gw914 gw915 ⟨by decide, by decide, by decide⟩ (by decide) (by decide)) nq_call_le, List.forall_mem_cons.mpr ⟨np_S.mono (op := np_ret X.2.2.1) (np_s_ret hX dX1_holds_133) (nq_ret_le hR), List.forall_mem_cons.mpr ⟨np_s_iload_n hX dX1_holds_134 rfl, List.forall_mem_cons.mpr ⟨np_S.mono (op := np_if (fun x => x = 0) 145) (np_s_if_eq hX dX1_holds_135 (by decide)) nq_if_le, List.forall_mem_cons.mpr ⟨np_s_iload hX dX1_holds_138, List.forall_mem_cons.mpr ⟨np_s_iload_n hX dX1_holds_140 rfl, List.forall_mem_cons.mpr ⟨np_S.mono (op := np_ibn (fun x y => x - x / y * y)) (np_s_irem hX dX1_holds_141) nq_ibn_le, List.forall_mem_cons.mpr ⟨np_S.mono (op := np_ifne 149) (np_s_if_ne hX dX1_holds_142 (by decide)) nq_ifne_le, List.forall_mem_cons.mpr ⟨np_s_iconst hX dX1_holds_145 (by decide), List.forall_mem_cons.mpr ⟨np_s_goto hX dX1_holds_146 (by decide), List.forall_mem_cons.mpr ⟨np_s_iconst hX dX1_holds_149 (by decide), List.forall_mem_cons.mpr ⟨np_S.mono (op := np_ret X.2.2.1) (np_s_ret hX dX1_holds_150) (nq_ret_le hR), List.forall_mem_cons.mpr ⟨np_s_iconst hX dX1_holds_151 (by decide), List.forall_mem_cons.mpr ⟨np_S.mono (op := np_ret X.2.2.1) (np_s_ret hX dX1_holds_152) (nq_ret_le hR), fun _ h => nomatch h⟩⟩⟩⟩⟩⟩⟩⟩⟩⟩⟩⟩⟩⟩⟩⟩⟩⟩⟩⟩⟩⟩⟩⟩⟩⟩⟩⟩⟩⟩⟩⟩⟩⟩⟩⟩⟩⟩⟩⟩⟩⟩⟩⟩⟩⟩⟩⟩⟩⟩⟩⟩⟩⟩⟩⟩⟩⟩⟩⟩⟩⟩⟩⟩⟩⟩⟩⟩⟩⟩⟩
noncomputable def m_X1_holds (S : pw_S) (i0 : Nat) (x1 : Int32) (a2 : Nat) (i2 : Nat) : pw_R Int32 :=
 pw_b (m_X11_at S 8 i0 x1 0) fun S1 r4 =>
 pw_l (r4 : Int32) fun z6 =>
 pw_b (m_X11_at S1 7 i0 x1 (-1)) fun S7 r10 =>
 pw_b (m_X1_valueOf S7 r10 a2 i2) fun S12 r15 =>
 pw_l (r15 : Int32) fun z17 =>
 if z17 = (-2147483648) then
 (some (S12, 1))
 else
 (pw_b (m_X11_at S12 6 i0 x1 (-1)) fun S18 r21 =>
 if (r21 : Int32).toInt = 0 then
 (pw_b (m_X1_valueOf S18 z6 a2 i2) fun S23 r26 =>
 if r26 = (-2147483648) then
 (some (S23, 1))
 else
 (pw_b (m_X1_valueOf S23 z6 a2 i2) fun S28 r31 =>
 if r31 ≤ z17 then
 (some (S28, 0))
 else
 (some (S28, 1))))
 else if (r21 : Int32).toInt = (0 + 1) then
 (if z17 = z6 then
 (some (S18, 1))
 else
 (some (S18, 0)))
 else if (r21 : Int32).toInt = ((0 + 1) + 1) then
 (pw_b (m_X1_valueOf S18 z6 a2 i2) fun S33 r36 =>
 pw_b (m_X11_at S33 9 i0 x1 (-1)) fun S38 r41 =>
 pw_b (m_X1_valueOf S38 r41 a2 i2) fun S43 r46 =>
 pw_b (m_X1_isSum S43 z17 r36 r46) fun S48 r51 =>
 pw_c (decide (r51 = 0) || decide (r51 = 1)) <|
 some (S48, r51))
 else if (r21 : Int32).toInt = (((0 + 1) + 1) + 1) then
 (if z6 = 0 then
 (some (S18, 1))
 else
 (pw_c (!decide (z6 = 0)) <|
 if (z17 - z17 / z6 * z6) = 0 then
 (some (S18, 1))
 else
 (some (S18, 0))))
 else 
 (some (S18, 1)))
def sp_X1_holds : np_Sp := fun vs w Q => ∃ (q : Nat) (S : pw_S) (i0 : Nat) (x1 : Int32) (a2 : Nat) (i2 : Nat), vs = [.ref (pw_pl 52 i0), .int x1, .ref (pw_pl a2 i2)] ∧ pw_ok q 52 i0 = true ∧ pw_arr a2 = true ∧ pw_ok q a2 i2 = true ∧ pw_W q w S ∧ pw_p (m_X1_holds S i0 x1 a2 i2) (fun S' r => ∀ f', pw_W q (w.1, f') S' → Q (some (.int r)) (w.1, f'))
set_option maxRecDepth 100000 in
set_option maxHeartbeats 8000000 in
theorem C_X1_holds : np_C yX1_holds cX1_holds 5 (some .boolean) 2 43 0 0 sp_X1_holds := by
  refine np_of (by decide) ?_
  intro X vs w Q hsp hX hmn hRt hlt
  obtain ⟨q, S, i0, x1, a2, i2, rfl, hi0, ha2, hi2, hW, h⟩ := hsp
  obtain ⟨n, f⟩ := w
  unfold m_X1_holds at h
  have hR : ∀ st w ce sl, np_rt (some .boolean) 0 0 Q st w ce sl → X.2.2.1 st w ce sl := fun _ _ _ _ h => by rw [hRt]; exact h
  refine np_soundW (so_X1_holds hX hR) [] 400 0 _ _ _ _ _ ?_
  conv => whnf
  refine np_rd_i (hW.g hi0) ?_
  conv => whnf
  refine ⟨q, S, 8, i0, x1, 0, rfl, rfl, hi0, hW, pw_bd h (fun S1 r4 h f2 hW3 => ?_)⟩
  conv => whnf
  refine pw_st h (fun z6 h => ?_)
  conv => whnf
  refine np_rd_i (hW3.g hi0) ?_
  conv => whnf
  refine ⟨q, S1, 7, i0, x1, (-1), rfl, rfl, hi0, hW3, pw_bd h (fun S7 r10 h f8 hW9 => ?_)⟩
  conv => whnf
  refine ⟨q, S7, r10, a2, i2, rfl, ha2, hi2, hW9, pw_bd h (fun S12 r15 h f13 hW14 => ?_)⟩
  conv => whnf
  refine pw_st h (fun z17 h => ?_)
  conv => whnf
  refine pw_br h (fun _ h => ?_) (fun _ h => ?_)
  · conv => whnf
    exact ⟨Nat.le_of_ble_eq_true rfl, Nat.le_of_ble_eq_true rfl, ⟨_, rfl, by decide⟩, _, fun _ _ h9 => h9, pw_ps h _ hW14⟩
  · conv => whnf
    refine np_rd_i (hW14.g hi0) ?_
    conv => whnf
    refine ⟨q, S12, 6, i0, x1, (-1), rfl, rfl, hi0, hW14, pw_bd h (fun S18 r21 h f19 hW20 => ?_)⟩
    conv => whnf
    refine pw_br h (fun _ h => ?_) (fun _ h => ?_)
    · conv => whnf
      refine ⟨q, S18, z6, a2, i2, rfl, ha2, hi2, hW20, pw_bd h (fun S23 r26 h f24 hW25 => ?_)⟩
      conv => whnf
      refine pw_br h (fun _ h => ?_) (fun _ h => ?_)
      · conv => whnf
        exact ⟨Nat.le_of_ble_eq_true rfl, Nat.le_of_ble_eq_true rfl, ⟨_, rfl, by decide⟩, _, fun _ _ h9 => h9, pw_ps h _ hW25⟩
      · conv => whnf
        refine ⟨q, S23, z6, a2, i2, rfl, ha2, hi2, hW25, pw_bd h (fun S28 r31 h f29 hW30 => ?_)⟩
        conv => whnf
        refine pw_br h (fun _ h => ?_) (fun _ h => ?_)
        · conv => whnf
          exact ⟨Nat.le_of_ble_eq_true rfl, Nat.le_of_ble_eq_true rfl, ⟨_, rfl, by decide⟩, _, fun _ _ h9 => h9, pw_ps h _ hW30⟩
        · conv => whnf
          exact ⟨Nat.le_of_ble_eq_true rfl, Nat.le_of_ble_eq_true rfl, ⟨_, rfl, by decide⟩, _, fun _ _ h9 => h9, pw_ps h _ hW30⟩
    conv => whnf
    refine pw_br h (fun _ h => ?_) (fun _ h => ?_)
    · conv => whnf
      refine pw_br h (fun _ h => ?_) (fun _ h => ?_)
      · conv => whnf
        exact ⟨Nat.le_of_ble_eq_true rfl, Nat.le_of_ble_eq_true rfl, ⟨_, rfl, by decide⟩, _, fun _ _ h9 => h9, pw_ps h _ hW20⟩
      · conv => whnf
        exact ⟨Nat.le_of_ble_eq_true rfl, Nat.le_of_ble_eq_true rfl, ⟨_, rfl, by decide⟩, _, fun _ _ h9 => h9, pw_ps h _ hW20⟩
    conv => whnf
    refine pw_br h (fun _ h => ?_) (fun _ h => ?_)
    · conv => whnf
      refine ⟨q, S18, z6, a2, i2, rfl, ha2, hi2, hW20, pw_bd h (fun S33 r36 h f34 hW35 => ?_)⟩
      conv => whnf
      refine np_rd_i (hW35.g hi0) ?_
      conv => whnf
      refine ⟨q, S33, 9, i0, x1, (-1), rfl, rfl, hi0, hW35, pw_bd h (fun S38 r41 h f39 hW40 => ?_)⟩
      conv => whnf
      refine ⟨q, S38, r41, a2, i2, rfl, ha2, hi2, hW40, pw_bd h (fun S43 r46 h f44 hW45 => ?_)⟩
      conv => whnf
      refine ⟨q, S43, z17, r36, r46, rfl, hW45, pw_bd h (fun S48 r51 h f49 hW50 => ?_)⟩
      conv => whnf
      obtain ⟨hb53, h⟩ := pw_ck1 h
      conv => whnf
      exact ⟨Nat.le_of_ble_eq_true rfl, Nat.le_of_ble_eq_true rfl, ⟨_, rfl, pw_nz hb53⟩, _, fun _ _ h9 => h9, pw_ps h _ hW50⟩
    conv => whnf
    refine pw_br h (fun _ h => ?_) (fun _ h => ?_)
    · conv => whnf
      refine pw_br h (fun _ h => ?_) (fun _ h => ?_)
      · conv => whnf
        exact ⟨Nat.le_of_ble_eq_true rfl, Nat.le_of_ble_eq_true rfl, ⟨_, rfl, by decide⟩, _, fun _ _ h9 => h9, pw_ps h _ hW20⟩
      · conv => whnf
        refine pw_ck h (fun _ h => ?_)
        conv => whnf
        refine pw_br h (fun _ h => ?_) (fun _ h => ?_)
        · conv => whnf
          exact ⟨Nat.le_of_ble_eq_true rfl, Nat.le_of_ble_eq_true rfl, ⟨_, rfl, by decide⟩, _, fun _ _ h9 => h9, pw_ps h _ hW20⟩
        · conv => whnf
          exact ⟨Nat.le_of_ble_eq_true rfl, Nat.le_of_ble_eq_true rfl, ⟨_, rfl, by decide⟩, _, fun _ _ h9 => h9, pw_ps h _ hW20⟩
    conv => whnf
    exact ⟨Nat.le_of_ble_eq_true rfl, Nat.le_of_ble_eq_true rfl, ⟨_, rfl, by decide⟩, _, fun _ _ h9 => h9, pw_ps h _ hW20⟩
theorem dX1_firstBroken_0 : decode cX1_firstBroken 0 = .ok (.iconst 0, 1) := by decide +kernel
theorem dX1_firstBroken_1 : decode cX1_firstBroken 1 = .ok (.istore_n 2, 1) := by decide +kernel
theorem dX1_firstBroken_2 : decode cX1_firstBroken 2 = .ok (.iload_n 2, 1) := by decide +kernel
theorem dX1_firstBroken_3 : decode cX1_firstBroken 3 = .ok (.aload_n 0, 1) := by decide +kernel
theorem dX1_firstBroken_4 : decode cX1_firstBroken 4 = .ok (.getfield 45, 3) := by decide +kernel
theorem dX1_firstBroken_7 : decode cX1_firstBroken 7 = .ok (.if_icmp .ge 28, 3) := by decide +kernel
theorem dX1_firstBroken_10 : decode cX1_firstBroken 10 = .ok (.aload_n 0, 1) := by decide +kernel
theorem dX1_firstBroken_11 : decode cX1_firstBroken 11 = .ok (.iload_n 2, 1) := by decide +kernel
theorem dX1_firstBroken_12 : decode cX1_firstBroken 12 = .ok (.aload_n 1, 1) := by decide +kernel
theorem dX1_firstBroken_13 : decode cX1_firstBroken 13 = .ok (.invokevirtual 53, 3) := by decide +kernel
theorem dX1_firstBroken_16 : decode cX1_firstBroken 16 = .ok (.ifCond .ne 13, 3) := by decide +kernel
theorem dX1_firstBroken_19 : decode cX1_firstBroken 19 = .ok (.aload_n 0, 1) := by decide +kernel
theorem dX1_firstBroken_20 : decode cX1_firstBroken 20 = .ok (.getfield 31, 3) := by decide +kernel
theorem dX1_firstBroken_23 : decode cX1_firstBroken 23 = .ok (.iload_n 2, 1) := by decide +kernel
theorem dX1_firstBroken_24 : decode cX1_firstBroken 24 = .ok (.iconst 0, 1) := by decide +kernel
theorem dX1_firstBroken_25 : decode cX1_firstBroken 25 = .ok (.invokestatic 57, 3) := by decide +kernel
theorem dX1_firstBroken_28 : decode cX1_firstBroken 28 = .ok (.ireturn, 1) := by decide +kernel
theorem dX1_firstBroken_29 : decode cX1_firstBroken 29 = .ok (.iinc 2 1, 3) := by decide +kernel
theorem dX1_firstBroken_32 : decode cX1_firstBroken 32 = .ok (.goto (-30), 3) := by decide +kernel
theorem dX1_firstBroken_35 : decode cX1_firstBroken 35 = .ok (.iconst 0, 1) := by decide +kernel
theorem dX1_firstBroken_36 : decode cX1_firstBroken 36 = .ok (.ireturn, 1) := by decide +kernel
def is_X1_firstBroken (Rt : np_Rt) : List (Nat × np_Op) := [(0, np_push 1 (.int 0)), (1, nw_ist 1 2), (2, np_ild 1 2), (3, np_ald 1 0), (4, nw_getf 1 6), (7, nq_ic (fun x y => y ≤ x) 35), (10, np_ald 1 0), (11, np_ild 1 2), (12, np_ald 1 1), (13, nw_callV 1 3 sp_X1_holds 5 0 0 0 0), (16, nq_ifne 29), (19, np_ald 1 0), (20, nw_getf 1 5), (23, np_ild 1 2), (24, np_push 1 (.int 0)), (25, nq_call 3 sp_X11_at 3 0 0 0 0), (28, np_ret Rt), (29, nw_iinc 2 1), (32, np_goto 2), (35, np_push 1 (.int 0)), (36, np_ret Rt)]
set_option maxRecDepth 20000 in
theorem so_X1_firstBroken {X : np_Ctx} {Rt : np_Rt} (hX : np_ok RX1 cX1_firstBroken 3 3 67 0 0 .ireturn X) (hR : ∀ st w ce sl, Rt st w ce sl → X.2.2.1 st w ce sl) : ∀ q ∈ is_X1_firstBroken Rt, np_S X q.1 q.2 :=
  List.forall_mem_cons.mpr ⟨np_s_iconst hX dX1_firstBroken_0 (by decide), List.forall_mem_cons.mpr ⟨np_S.mono (op := np_ist 1 2) (np_s_istore_n hX dX1_firstBroken_1 rfl (by decide)) nw_ist_le, List.forall_mem_cons.mpr ⟨np_s_iload_n hX dX1_firstBroken_2 rfl, List.forall_mem_cons.mpr ⟨np_s_aload_n hX dX1_firstBroken_3 rfl, List.forall_mem_cons.mpr ⟨np_S.mono (op := np_getf 1 6) (np_s_getf hX dX1_firstBroken_4 (C := RX1) (T := TX1) (N := 7) rfl guX1 (by decide) gw321) nw_getf_le, List.forall_mem_cons.mpr ⟨np_S.mono (op := np_ic (fun x y => y ≤ x) 35) (np_s_icmp_ge hX dX1_firstBroken_7 (by decide)) nq_ic_le, List.forall_mem_cons.mpr ⟨np_s_aload_n hX dX1_firstBroken_10 rfl, List.forall_mem_cons.mpr ⟨np_s_iload_n hX dX1_firstBroken_11 rfl, List.forall_mem_cons.mpr ⟨np_s_aload_n hX dX1_firstBroken_12 rfl, List.forall_mem_cons.mpr ⟨np_S.mono (op := np_callV 1 3 sp_X1_holds 5 0 0 0 0) (np_s_callV hX C_X1_holds dX1_firstBroken_13 (q := (RX1, TX1, 7)) rfl rfl gw906 gw71 gw903 gw905 gw16 ⟨by decide, by decide, by decide⟩ (by decide) (by decide)) nw_callV_le, List.forall_mem_cons.mpr ⟨np_S.mono (op := np_ifne 29) (np_s_if_ne hX dX1_firstBroken_16 (by decide)) nq_ifne_le, List.forall_mem_cons.mpr ⟨np_s_aload_n hX dX1_firstBroken_19 rfl, List.forall_mem_cons.mpr ⟨np_S.mono (op := np_getf 1 5) (np_s_getf hX dX1_firstBroken_20 (C := RX1) (T := TX1) (N := 7) rfl guX1 (by decide) gw320) nw_getf_le, List.forall_mem_cons.mpr ⟨np_s_iload_n hX dX1_firstBroken_23 rfl, List.forall_mem_cons.mpr ⟨np_s_iconst hX dX1_firstBroken_24 (by decide), List.forall_mem_cons.mpr ⟨np_S.mono (op := np_call 3 sp_X11_at 3 0 0 0 0) (np_s_callSN hX C_X11_at dX1_firstBroken_25 gw653 gw63 gw907 gw652 ⟨by decide, by decide, by decide⟩ (by decide) (by decide)) nq_call_le, List.forall_mem_cons.mpr ⟨np_S.mono (op := np_ret X.2.2.1) (np_s_ret hX dX1_firstBroken_28) (nq_ret_le hR), List.forall_mem_cons.mpr ⟨np_S.mono (op := np_iinc 2 1) (np_s_iinc hX dX1_firstBroken_29 (by decide)) nw_iinc_le, List.forall_mem_cons.mpr ⟨np_s_goto hX dX1_firstBroken_32 (by decide), List.forall_mem_cons.mpr ⟨np_s_iconst hX dX1_firstBroken_35 (by decide), List.forall_mem_cons.mpr ⟨np_S.mono (op := np_ret X.2.2.1) (np_s_ret hX dX1_firstBroken_36) (nq_ret_le hR), fun _ h => nomatch h⟩⟩⟩⟩⟩⟩⟩⟩⟩⟩⟩⟩⟩⟩⟩⟩⟩⟩⟩⟩⟩
noncomputable def m_X1_firstBroken_2 : Nat → pw_S → Nat → Nat → Nat → Int32 → pw_R Int32
| 0, _, _, _, _, _ => none
| N + 1, S, v0, va1, vi1, v2 =>
 if (S 52 v0 6) ≤ v2 then
 (some (S, 0))
 else
 (pw_b (m_X1_holds S v0 v2 va1 vi1) fun S1 r4 =>
 if r4 = 0 then
 (pw_b (m_X11_at S1 10 v0 v2 0) fun S6 r9 =>
 some (S6, r9))
 else
 (pw_l (v2 + 1 : Int32) fun z11 =>
 m_X1_firstBroken_2 N S1 v0 va1 vi1 z11))
set_option maxRecDepth 100000 in
set_option maxHeartbeats 8000000 in
theorem L_X1_firstBroken_2 {X : np_Ctx} (hX : np_ok RX1 cX1_firstBroken 3 3 67 0 0 .ireturn X) {Q : Option Value → np_W → Prop} {q n : Nat} (hR : ∀ st w ce sl, np_rt (some .int) 0 0 Q st w ce sl → X.2.2.1 st w ce sl) : ∀ (N : Nat) (S : pw_S) (v0 : Nat) (va1 : Nat) (vi1 : Nat) (v2 : Int32) (f : Nat → Option np_E) (hv0 : pw_ok q 52 v0 = true) (ha1 : pw_arr va1 = true) (hi1 : pw_ok q va1 vi1 = true), pw_W q (n, f) S → pw_p (m_X1_firstBroken_2 N S v0 va1 vi1 v2) (fun S' r => ∀ f', pw_W q (n, f') S' → Q (some (.int r)) (n, f')) → np_G X 2 [(0, .ref (pw_pl 52 v0)), (1, .ref (pw_pl va1 vi1)), (2, .int v2)] [] (n, f) 0 0 := by
  intro N
  induction N with
  | zero =>
    intro S v0 va1 vi1 v2 f hv0 ha1 hi1 hW h
    exact (pw_pn h).elim
  | succ N ih =>
    intro S v0 va1 vi1 v2 f hv0 ha1 hi1 hW h
    unfold m_X1_firstBroken_2 at h
    refine np_soundW (so_X1_firstBroken hX hR) [2] 400 2 _ _ _ _ _ ?_
    conv => whnf
    refine np_rd_i (hW.g hv0) ?_
    conv => whnf
    refine pw_br h (fun _ h => ?_) (fun _ h => ?_)
    · conv => whnf
      exact ⟨Nat.le_of_ble_eq_true rfl, Nat.le_of_ble_eq_true rfl, ⟨_, rfl⟩, _, fun _ _ h9 => h9, pw_ps h _ hW⟩
    · conv => whnf
      refine np_rd_i (hW.g hv0) ?_
      conv => whnf
      refine ⟨q, S, v0, v2, va1, vi1, rfl, hv0, ha1, hi1, hW, pw_bd h (fun S1 r4 h f2 hW3 => ?_)⟩
      conv => whnf
      refine pw_br h (fun _ h => ?_) (fun _ h => ?_)
      · conv => whnf
        refine np_rd_i (hW3.g hv0) ?_
        conv => whnf
        refine ⟨q, S1, 10, v0, v2, 0, rfl, rfl, hv0, hW3, pw_bd h (fun S6 r9 h f7 hW8 => ?_)⟩
        conv => whnf
        exact ⟨Nat.le_of_ble_eq_true rfl, Nat.le_of_ble_eq_true rfl, ⟨_, rfl⟩, _, fun _ _ h9 => h9, pw_ps h _ hW8⟩
      · conv => whnf
        refine pw_st h (fun z11 h => ?_)
        conv => whnf
        exact np_gl (ih S1 v0 va1 vi1 z11 f2 hv0 ha1 hi1 hW3 h) ⟨rfl, rfl, rfl, trivial⟩
noncomputable def m_X1_firstBroken (S : pw_S) (i0 : Nat) (a1 : Nat) (i1 : Nat) : pw_R Int32 :=
 pw_l (0 : Int32) fun z12 =>
 m_X1_firstBroken_2 (pw_F 20000) S i0 a1 i1 z12
def sp_X1_firstBroken : np_Sp := fun vs w Q => ∃ (q : Nat) (S : pw_S) (i0 : Nat) (a1 : Nat) (i1 : Nat), vs = [.ref (pw_pl 52 i0), .ref (pw_pl a1 i1)] ∧ pw_ok q 52 i0 = true ∧ pw_arr a1 = true ∧ pw_ok q a1 i1 = true ∧ pw_W q w S ∧ pw_p (m_X1_firstBroken S i0 a1 i1) (fun S' r => ∀ f', pw_W q (w.1, f') S' → Q (some (.int r)) (w.1, f'))
set_option maxRecDepth 100000 in
set_option maxHeartbeats 8000000 in
theorem C_X1_firstBroken : np_C yX1_firstBroken cX1_firstBroken 3 (some .int) 3 67 0 0 sp_X1_firstBroken := by
  refine np_of (by decide) ?_
  intro X vs w Q hsp hX hmn hRt hlt
  obtain ⟨q, S, i0, a1, i1, rfl, hi0, ha1, hi1, hW, h⟩ := hsp
  obtain ⟨n, f⟩ := w
  unfold m_X1_firstBroken at h
  have hR : ∀ st w ce sl, np_rt (some .int) 0 0 Q st w ce sl → X.2.2.1 st w ce sl := fun _ _ _ _ h => by rw [hRt]; exact h
  refine np_soundW (so_X1_firstBroken hX hR) [2] 400 0 _ _ _ _ _ ?_
  conv => whnf
  refine pw_st h (fun z12 h => ?_)
  conv => whnf
  exact np_gl (L_X1_firstBroken_2 hX hR (pw_F 20000) S i0 a1 i1 z12 f hi0 ha1 hi1 hW h) ⟨rfl, rfl, rfl, trivial⟩
theorem dX2_tellsSlot_0 : decode cX2_tellsSlot 0 = .ok (.iload_n 0, 1) := by decide +kernel
theorem dX2_tellsSlot_1 : decode cX2_tellsSlot 1 = .ok (.ifCond .lt 23, 3) := by decide +kernel
theorem dX2_tellsSlot_4 : decode cX2_tellsSlot 4 = .ok (.iload_n 0, 1) := by decide +kernel
theorem dX2_tellsSlot_5 : decode cX2_tellsSlot 5 = .ok (.bipush 9, 2) := by decide +kernel
theorem dX2_tellsSlot_7 : decode cX2_tellsSlot 7 = .ok (.if_icmp .gt 17, 3) := by decide +kernel
theorem dX2_tellsSlot_10 : decode cX2_tellsSlot 10 = .ok (.iload_n 0, 1) := by decide +kernel
theorem dX2_tellsSlot_11 : decode cX2_tellsSlot 11 = .ok (.iconst 4, 1) := by decide +kernel
theorem dX2_tellsSlot_12 : decode cX2_tellsSlot 12 = .ok (.if_icmp .eq 12, 3) := by decide +kernel
theorem dX2_tellsSlot_15 : decode cX2_tellsSlot 15 = .ok (.iload_n 0, 1) := by decide +kernel
theorem dX2_tellsSlot_16 : decode cX2_tellsSlot 16 = .ok (.iconst 5, 1) := by decide +kernel
theorem dX2_tellsSlot_17 : decode cX2_tellsSlot 17 = .ok (.if_icmp .eq 7, 3) := by decide +kernel
theorem dX2_tellsSlot_20 : decode cX2_tellsSlot 20 = .ok (.iconst 1, 1) := by decide +kernel
theorem dX2_tellsSlot_21 : decode cX2_tellsSlot 21 = .ok (.goto 4, 3) := by decide +kernel
theorem dX2_tellsSlot_24 : decode cX2_tellsSlot 24 = .ok (.iconst 0, 1) := by decide +kernel
theorem dX2_tellsSlot_25 : decode cX2_tellsSlot 25 = .ok (.ireturn, 1) := by decide +kernel
def is_X2_tellsSlot (Rt : np_Rt) : List (Nat × np_Op) := [(0, np_ild 1 0), (1, nq_if (fun x => x < 0) 24), (4, np_ild 1 0), (5, np_push 2 (.int 9)), (7, nq_ic (fun x y => y < x) 24), (10, np_ild 1 0), (11, np_push 1 (.int 4)), (12, nq_ic (fun x y => x = y) 24), (15, np_ild 1 0), (16, np_push 1 (.int 5)), (17, nq_ic (fun x y => x = y) 24), (20, np_push 1 (.int 1)), (21, np_goto 25), (24, np_push 1 (.int 0)), (25, np_ret Rt)]
set_option maxRecDepth 20000 in
theorem so_X2_tellsSlot {X : np_Ctx} {Rt : np_Rt} (hX : np_ok RX2 cX2_tellsSlot 1 0 0 0 0 .ireturn X) (hR : ∀ st w ce sl, Rt st w ce sl → X.2.2.1 st w ce sl) : ∀ q ∈ is_X2_tellsSlot Rt, np_S X q.1 q.2 :=
  List.forall_mem_cons.mpr ⟨np_s_iload_n hX dX2_tellsSlot_0 rfl, List.forall_mem_cons.mpr ⟨np_S.mono (op := np_if (fun x => x < 0) 24) (np_s_if_lt hX dX2_tellsSlot_1 (by decide)) nq_if_le, List.forall_mem_cons.mpr ⟨np_s_iload_n hX dX2_tellsSlot_4 rfl, List.forall_mem_cons.mpr ⟨np_s_bipush hX dX2_tellsSlot_5 (by decide), List.forall_mem_cons.mpr ⟨np_S.mono (op := np_ic (fun x y => y < x) 24) (np_s_icmp_gt hX dX2_tellsSlot_7 (by decide)) nq_ic_le, List.forall_mem_cons.mpr ⟨np_s_iload_n hX dX2_tellsSlot_10 rfl, List.forall_mem_cons.mpr ⟨np_s_iconst hX dX2_tellsSlot_11 (by decide), List.forall_mem_cons.mpr ⟨np_S.mono (op := np_ic (fun x y => x = y) 24) (np_s_icmp_eq hX dX2_tellsSlot_12 (by decide)) nq_ic_le, List.forall_mem_cons.mpr ⟨np_s_iload_n hX dX2_tellsSlot_15 rfl, List.forall_mem_cons.mpr ⟨np_s_iconst hX dX2_tellsSlot_16 (by decide), List.forall_mem_cons.mpr ⟨np_S.mono (op := np_ic (fun x y => x = y) 24) (np_s_icmp_eq hX dX2_tellsSlot_17 (by decide)) nq_ic_le, List.forall_mem_cons.mpr ⟨np_s_iconst hX dX2_tellsSlot_20 (by decide), List.forall_mem_cons.mpr ⟨np_s_goto hX dX2_tellsSlot_21 (by decide), List.forall_mem_cons.mpr ⟨np_s_iconst hX dX2_tellsSlot_24 (by decide), List.forall_mem_cons.mpr ⟨np_S.mono (op := np_ret X.2.2.1) (np_s_ret hX dX2_tellsSlot_25) (nq_ret_le hR), fun _ h => nomatch h⟩⟩⟩⟩⟩⟩⟩⟩⟩⟩⟩⟩⟩⟩⟩
noncomputable def m_X2_tellsSlot (S : pw_S) (x0 : Int32) : pw_R Int32 :=
 if x0 < 0 then
 (some (S, 0))
 else
 (if 9 < x0 then
 (some (S, 0))
 else
 (if x0 = 4 then
 (some (S, 0))
 else
 (if x0 = 5 then
 (some (S, 0))
 else
 (some (S, 1)))))
def sp_X2_tellsSlot : np_Sp := fun vs w Q => ∃ (q : Nat) (S : pw_S) (x0 : Int32), vs = [.int x0] ∧ pw_W q w S ∧ pw_p (m_X2_tellsSlot S x0) (fun S' r => ∀ f', pw_W q (w.1, f') S' → Q (some (.int r)) (w.1, f'))
set_option maxRecDepth 100000 in
set_option maxHeartbeats 8000000 in
theorem C_X2_tellsSlot : np_C yX2_tellsSlot cX2_tellsSlot 1 (some .boolean) 0 0 0 0 sp_X2_tellsSlot := by
  refine np_of (by decide) ?_
  intro X vs w Q hsp hX hmn hRt hlt
  obtain ⟨q, S, x0, rfl, hW, h⟩ := hsp
  obtain ⟨n, f⟩ := w
  unfold m_X2_tellsSlot at h
  have hR : ∀ st w ce sl, np_rt (some .boolean) 0 0 Q st w ce sl → X.2.2.1 st w ce sl := fun _ _ _ _ h => by rw [hRt]; exact h
  refine np_soundW (so_X2_tellsSlot hX hR) [] 400 0 _ _ _ _ _ ?_
  conv => whnf
  refine pw_br h (fun _ h => ?_) (fun _ h => ?_)
  · conv => whnf
    exact ⟨Nat.le_of_ble_eq_true rfl, Nat.le_of_ble_eq_true rfl, ⟨_, rfl, by decide⟩, _, fun _ _ h9 => h9, pw_ps h _ hW⟩
  · conv => whnf
    refine pw_br h (fun _ h => ?_) (fun _ h => ?_)
    · conv => whnf
      exact ⟨Nat.le_of_ble_eq_true rfl, Nat.le_of_ble_eq_true rfl, ⟨_, rfl, by decide⟩, _, fun _ _ h9 => h9, pw_ps h _ hW⟩
    · conv => whnf
      refine pw_br h (fun _ h => ?_) (fun _ h => ?_)
      · conv => whnf
        exact ⟨Nat.le_of_ble_eq_true rfl, Nat.le_of_ble_eq_true rfl, ⟨_, rfl, by decide⟩, _, fun _ _ h9 => h9, pw_ps h _ hW⟩
      · conv => whnf
        refine pw_br h (fun _ h => ?_) (fun _ h => ?_)
        · conv => whnf
          exact ⟨Nat.le_of_ble_eq_true rfl, Nat.le_of_ble_eq_true rfl, ⟨_, rfl, by decide⟩, _, fun _ _ h9 => h9, pw_ps h _ hW⟩
        · conv => whnf
          exact ⟨Nat.le_of_ble_eq_true rfl, Nat.le_of_ble_eq_true rfl, ⟨_, rfl, by decide⟩, _, fun _ _ h9 => h9, pw_ps h _ hW⟩
theorem dX2_inRange_0 : decode cX2_inRange 0 = .ok (.iload_n 0, 1) := by decide +kernel
theorem dX2_inRange_1 : decode cX2_inRange 1 = .ok (.tableswitch 260 0 9 #[55, 93, 118, 139, 159, 177, 246, 202, 221, 246], 55) := by decide +kernel
theorem dX2_inRange_56 : decode cX2_inRange 56 = .ok (.iload_n 2, 1) := by decide +kernel
theorem dX2_inRange_57 : decode cX2_inRange 57 = .ok (.iconst 1, 1) := by decide +kernel
theorem dX2_inRange_58 : decode cX2_inRange 58 = .ok (.bipush 8, 2) := by decide +kernel
theorem dX2_inRange_60 : decode cX2_inRange 60 = .ok (.invokestatic 24, 3) := by decide +kernel
theorem dX2_inRange_63 : decode cX2_inRange 63 = .ok (.ifCond .eq 29, 3) := by decide +kernel
theorem dX2_inRange_66 : decode cX2_inRange 66 = .ok (.iload_n 3, 1) := by decide +kernel
theorem dX2_inRange_67 : decode cX2_inRange 67 = .ok (.iconst 0, 1) := by decide +kernel
theorem dX2_inRange_68 : decode cX2_inRange 68 = .ok (.bipush 8, 2) := by decide +kernel
theorem dX2_inRange_70 : decode cX2_inRange 70 = .ok (.invokestatic 24, 3) := by decide +kernel
theorem dX2_inRange_73 : decode cX2_inRange 73 = .ok (.ifCond .eq 19, 3) := by decide +kernel
theorem dX2_inRange_76 : decode cX2_inRange 76 = .ok (.iload_n 3, 1) := by decide +kernel
theorem dX2_inRange_77 : decode cX2_inRange 77 = .ok (.iconst 3, 1) := by decide +kernel
theorem dX2_inRange_78 : decode cX2_inRange 78 = .ok (.if_icmp .lt 10, 3) := by decide +kernel
theorem dX2_inRange_81 : decode cX2_inRange 81 = .ok (.iload_n 3, 1) := by decide +kernel
theorem dX2_inRange_82 : decode cX2_inRange 82 = .ok (.iconst 3, 1) := by decide +kernel
theorem dX2_inRange_83 : decode cX2_inRange 83 = .ok (.irem, 1) := by decide +kernel
theorem dX2_inRange_84 : decode cX2_inRange 84 = .ok (.iconst 1, 1) := by decide +kernel
theorem dX2_inRange_85 : decode cX2_inRange 85 = .ok (.if_icmp .eq 7, 3) := by decide +kernel
theorem dX2_inRange_88 : decode cX2_inRange 88 = .ok (.iconst 1, 1) := by decide +kernel
theorem dX2_inRange_89 : decode cX2_inRange 89 = .ok (.goto 4, 3) := by decide +kernel
theorem dX2_inRange_92 : decode cX2_inRange 92 = .ok (.iconst 0, 1) := by decide +kernel
theorem dX2_inRange_93 : decode cX2_inRange 93 = .ok (.ireturn, 1) := by decide +kernel
theorem dX2_inRange_94 : decode cX2_inRange 94 = .ok (.iload_n 2, 1) := by decide +kernel
theorem dX2_inRange_95 : decode cX2_inRange 95 = .ok (.iconst 1, 1) := by decide +kernel
theorem dX2_inRange_96 : decode cX2_inRange 96 = .ok (.bipush 9, 2) := by decide +kernel
theorem dX2_inRange_98 : decode cX2_inRange 98 = .ok (.invokestatic 24, 3) := by decide +kernel
theorem dX2_inRange_101 : decode cX2_inRange 101 = .ok (.ifCond .eq 16, 3) := by decide +kernel
theorem dX2_inRange_104 : decode cX2_inRange 104 = .ok (.iload_n 3, 1) := by decide +kernel
theorem dX2_inRange_105 : decode cX2_inRange 105 = .ok (.iconst 0, 1) := by decide +kernel
theorem dX2_inRange_106 : decode cX2_inRange 106 = .ok (.iconst 2, 1) := by decide +kernel
theorem dX2_inRange_107 : decode cX2_inRange 107 = .ok (.invokestatic 24, 3) := by decide +kernel
theorem dX2_inRange_110 : decode cX2_inRange 110 = .ok (.ifCond .eq 7, 3) := by decide +kernel
theorem dX2_inRange_113 : decode cX2_inRange 113 = .ok (.iconst 1, 1) := by decide +kernel
theorem dX2_inRange_114 : decode cX2_inRange 114 = .ok (.goto 4, 3) := by decide +kernel
theorem dX2_inRange_117 : decode cX2_inRange 117 = .ok (.iconst 0, 1) := by decide +kernel
theorem dX2_inRange_118 : decode cX2_inRange 118 = .ok (.ireturn, 1) := by decide +kernel
theorem dX2_inRange_119 : decode cX2_inRange 119 = .ok (.iload_n 2, 1) := by decide +kernel
theorem dX2_inRange_120 : decode cX2_inRange 120 = .ok (.bipush 33, 2) := by decide +kernel
theorem dX2_inRange_122 : decode cX2_inRange 122 = .ok (.bipush 126, 2) := by decide +kernel
theorem dX2_inRange_124 : decode cX2_inRange 124 = .ok (.invokestatic 24, 3) := by decide +kernel
theorem dX2_inRange_127 : decode cX2_inRange 127 = .ok (.ifCond .eq 11, 3) := by decide +kernel
theorem dX2_inRange_130 : decode cX2_inRange 130 = .ok (.iload_n 3, 1) := by decide +kernel
theorem dX2_inRange_131 : decode cX2_inRange 131 = .ok (.ifCond .ne 7, 3) := by decide +kernel
theorem dX2_inRange_134 : decode cX2_inRange 134 = .ok (.iconst 1, 1) := by decide +kernel
theorem dX2_inRange_135 : decode cX2_inRange 135 = .ok (.goto 4, 3) := by decide +kernel
theorem dX2_inRange_138 : decode cX2_inRange 138 = .ok (.iconst 0, 1) := by decide +kernel
theorem dX2_inRange_139 : decode cX2_inRange 139 = .ok (.ireturn, 1) := by decide +kernel
theorem dX2_inRange_140 : decode cX2_inRange 140 = .ok (.iload_n 2, 1) := by decide +kernel
theorem dX2_inRange_141 : decode cX2_inRange 141 = .ok (.iconst 1, 1) := by decide +kernel
theorem dX2_inRange_142 : decode cX2_inRange 142 = .ok (.bipush 8, 2) := by decide +kernel
theorem dX2_inRange_144 : decode cX2_inRange 144 = .ok (.invokestatic 24, 3) := by decide +kernel
theorem dX2_inRange_147 : decode cX2_inRange 147 = .ok (.ifCond .eq 11, 3) := by decide +kernel
theorem dX2_inRange_150 : decode cX2_inRange 150 = .ok (.iload_n 3, 1) := by decide +kernel
theorem dX2_inRange_151 : decode cX2_inRange 151 = .ok (.ifCond .ne 7, 3) := by decide +kernel
theorem dX2_inRange_154 : decode cX2_inRange 154 = .ok (.iconst 1, 1) := by decide +kernel
theorem dX2_inRange_155 : decode cX2_inRange 155 = .ok (.goto 4, 3) := by decide +kernel
theorem dX2_inRange_158 : decode cX2_inRange 158 = .ok (.iconst 0, 1) := by decide +kernel
theorem dX2_inRange_159 : decode cX2_inRange 159 = .ok (.ireturn, 1) := by decide +kernel
theorem dX2_inRange_160 : decode cX2_inRange 160 = .ok (.iload_n 1, 1) := by decide +kernel
theorem dX2_inRange_161 : decode cX2_inRange 161 = .ok (.ifCond .ne 15, 3) := by decide +kernel
theorem dX2_inRange_164 : decode cX2_inRange 164 = .ok (.iload_n 2, 1) := by decide +kernel
theorem dX2_inRange_165 : decode cX2_inRange 165 = .ok (.ifCond .ne 11, 3) := by decide +kernel
theorem dX2_inRange_168 : decode cX2_inRange 168 = .ok (.iload_n 3, 1) := by decide +kernel
theorem dX2_inRange_169 : decode cX2_inRange 169 = .ok (.ifCond .ne 7, 3) := by decide +kernel
theorem dX2_inRange_172 : decode cX2_inRange 172 = .ok (.iconst 1, 1) := by decide +kernel
theorem dX2_inRange_173 : decode cX2_inRange 173 = .ok (.goto 4, 3) := by decide +kernel
theorem dX2_inRange_176 : decode cX2_inRange 176 = .ok (.iconst 0, 1) := by decide +kernel
theorem dX2_inRange_177 : decode cX2_inRange 177 = .ok (.ireturn, 1) := by decide +kernel
theorem dX2_inRange_178 : decode cX2_inRange 178 = .ok (.iload_n 1, 1) := by decide +kernel
theorem dX2_inRange_179 : decode cX2_inRange 179 = .ok (.bipush 32, 2) := by decide +kernel
theorem dX2_inRange_181 : decode cX2_inRange 181 = .ok (.bipush 126, 2) := by decide +kernel
theorem dX2_inRange_183 : decode cX2_inRange 183 = .ok (.invokestatic 24, 3) := by decide +kernel
theorem dX2_inRange_186 : decode cX2_inRange 186 = .ok (.ifCond .eq 15, 3) := by decide +kernel
theorem dX2_inRange_189 : decode cX2_inRange 189 = .ok (.iload_n 2, 1) := by decide +kernel
theorem dX2_inRange_190 : decode cX2_inRange 190 = .ok (.ifCond .ne 11, 3) := by decide +kernel
theorem dX2_inRange_193 : decode cX2_inRange 193 = .ok (.iload_n 3, 1) := by decide +kernel
theorem dX2_inRange_194 : decode cX2_inRange 194 = .ok (.ifCond .ne 7, 3) := by decide +kernel
theorem dX2_inRange_197 : decode cX2_inRange 197 = .ok (.iconst 1, 1) := by decide +kernel
theorem dX2_inRange_198 : decode cX2_inRange 198 = .ok (.goto 4, 3) := by decide +kernel
theorem dX2_inRange_201 : decode cX2_inRange 201 = .ok (.iconst 0, 1) := by decide +kernel
theorem dX2_inRange_202 : decode cX2_inRange 202 = .ok (.ireturn, 1) := by decide +kernel
theorem dX2_inRange_203 : decode cX2_inRange 203 = .ok (.iload_n 2, 1) := by decide +kernel
theorem dX2_inRange_204 : decode cX2_inRange 204 = .ok (.iconst 1, 1) := by decide +kernel
theorem dX2_inRange_205 : decode cX2_inRange 205 = .ok (.iconst 3, 1) := by decide +kernel
theorem dX2_inRange_206 : decode cX2_inRange 206 = .ok (.invokestatic 24, 3) := by decide +kernel
theorem dX2_inRange_209 : decode cX2_inRange 209 = .ok (.ifCond .eq 11, 3) := by decide +kernel
theorem dX2_inRange_212 : decode cX2_inRange 212 = .ok (.iload_n 3, 1) := by decide +kernel
theorem dX2_inRange_213 : decode cX2_inRange 213 = .ok (.ifCond .ne 7, 3) := by decide +kernel
theorem dX2_inRange_216 : decode cX2_inRange 216 = .ok (.iconst 1, 1) := by decide +kernel
theorem dX2_inRange_217 : decode cX2_inRange 217 = .ok (.goto 4, 3) := by decide +kernel
theorem dX2_inRange_220 : decode cX2_inRange 220 = .ok (.iconst 0, 1) := by decide +kernel
theorem dX2_inRange_221 : decode cX2_inRange 221 = .ok (.ireturn, 1) := by decide +kernel
theorem dX2_inRange_222 : decode cX2_inRange 222 = .ok (.iload_n 2, 1) := by decide +kernel
theorem dX2_inRange_223 : decode cX2_inRange 223 = .ok (.iconst 1, 1) := by decide +kernel
theorem dX2_inRange_224 : decode cX2_inRange 224 = .ok (.iconst 3, 1) := by decide +kernel
theorem dX2_inRange_225 : decode cX2_inRange 225 = .ok (.invokestatic 24, 3) := by decide +kernel
theorem dX2_inRange_228 : decode cX2_inRange 228 = .ok (.ifCond .eq 17, 3) := by decide +kernel
theorem dX2_inRange_231 : decode cX2_inRange 231 = .ok (.iload_n 3, 1) := by decide +kernel
theorem dX2_inRange_232 : decode cX2_inRange 232 = .ok (.iconst 0, 1) := by decide +kernel
theorem dX2_inRange_233 : decode cX2_inRange 233 = .ok (.bipush 99, 2) := by decide +kernel
theorem dX2_inRange_235 : decode cX2_inRange 235 = .ok (.invokestatic 24, 3) := by decide +kernel
theorem dX2_inRange_238 : decode cX2_inRange 238 = .ok (.ifCond .eq 7, 3) := by decide +kernel
theorem dX2_inRange_241 : decode cX2_inRange 241 = .ok (.iconst 1, 1) := by decide +kernel
theorem dX2_inRange_242 : decode cX2_inRange 242 = .ok (.goto 4, 3) := by decide +kernel
theorem dX2_inRange_245 : decode cX2_inRange 245 = .ok (.iconst 0, 1) := by decide +kernel
theorem dX2_inRange_246 : decode cX2_inRange 246 = .ok (.ireturn, 1) := by decide +kernel
theorem dX2_inRange_247 : decode cX2_inRange 247 = .ok (.iload_n 2, 1) := by decide +kernel
theorem dX2_inRange_248 : decode cX2_inRange 248 = .ok (.ifCond .ne 11, 3) := by decide +kernel
theorem dX2_inRange_251 : decode cX2_inRange 251 = .ok (.iload_n 3, 1) := by decide +kernel
theorem dX2_inRange_252 : decode cX2_inRange 252 = .ok (.ifCond .ne 7, 3) := by decide +kernel
theorem dX2_inRange_255 : decode cX2_inRange 255 = .ok (.iconst 1, 1) := by decide +kernel
theorem dX2_inRange_256 : decode cX2_inRange 256 = .ok (.goto 4, 3) := by decide +kernel
theorem dX2_inRange_259 : decode cX2_inRange 259 = .ok (.iconst 0, 1) := by decide +kernel
theorem dX2_inRange_260 : decode cX2_inRange 260 = .ok (.ireturn, 1) := by decide +kernel
theorem dX2_inRange_261 : decode cX2_inRange 261 = .ok (.iconst 0, 1) := by decide +kernel
theorem dX2_inRange_262 : decode cX2_inRange 262 = .ok (.ireturn, 1) := by decide +kernel
def is_X2_inRange (Rt : np_Rt) : List (Nat × np_Op) := [(0, np_ild 1 0), (1, nq_tsw (0) [56, 94, 119, 140, 160, 178, 247, 203, 222, 247] 261), (56, np_ild 1 2), (57, np_push 1 (.int 1)), (58, np_push 2 (.int 8)), (60, nq_call 3 sp_X11_isBetween 3 0 0 0 0), (63, nq_if (fun x => x = 0) 92), (66, np_ild 1 3), (67, np_push 1 (.int 0)), (68, np_push 2 (.int 8)), (70, nq_call 3 sp_X11_isBetween 3 0 0 0 0), (73, nq_if (fun x => x = 0) 92), (76, np_ild 1 3), (77, np_push 1 (.int 3)), (78, nq_ic (fun x y => x < y) 88), (81, np_ild 1 3), (82, np_push 1 (.int 3)), (83, nq_ibn (fun x y => x - x / y * y)), (84, np_push 1 (.int 1)), (85, nq_ic (fun x y => x = y) 92), (88, np_push 1 (.int 1)), (89, np_goto 93), (92, np_push 1 (.int 0)), (93, np_ret Rt), (94, np_ild 1 2), (95, np_push 1 (.int 1)), (96, np_push 2 (.int 9)), (98, nq_call 3 sp_X11_isBetween 3 0 0 0 0), (101, nq_if (fun x => x = 0) 117), (104, np_ild 1 3), (105, np_push 1 (.int 0)), (106, np_push 1 (.int 2)), (107, nq_call 3 sp_X11_isBetween 3 0 0 0 0), (110, nq_if (fun x => x = 0) 117), (113, np_push 1 (.int 1)), (114, np_goto 118), (117, np_push 1 (.int 0)), (118, np_ret Rt), (119, np_ild 1 2), (120, np_push 2 (.int 33)), (122, np_push 2 (.int 126)), (124, nq_call 3 sp_X11_isBetween 3 0 0 0 0), (127, nq_if (fun x => x = 0) 138), (130, np_ild 1 3), (131, nq_ifne 138), (134, np_push 1 (.int 1)), (135, np_goto 139), (138, np_push 1 (.int 0)), (139, np_ret Rt), (140, np_ild 1 2), (141, np_push 1 (.int 1)), (142, np_push 2 (.int 8)), (144, nq_call 3 sp_X11_isBetween 3 0 0 0 0), (147, nq_if (fun x => x = 0) 158), (150, np_ild 1 3), (151, nq_ifne 158), (154, np_push 1 (.int 1)), (155, np_goto 159), (158, np_push 1 (.int 0)), (159, np_ret Rt), (160, np_ild 1 1), (161, nq_ifne 176), (164, np_ild 1 2), (165, nq_ifne 176), (168, np_ild 1 3), (169, nq_ifne 176), (172, np_push 1 (.int 1)), (173, np_goto 177), (176, np_push 1 (.int 0)), (177, np_ret Rt), (178, np_ild 1 1), (179, np_push 2 (.int 32)), (181, np_push 2 (.int 126)), (183, nq_call 3 sp_X11_isBetween 3 0 0 0 0), (186, nq_if (fun x => x = 0) 201), (189, np_ild 1 2), (190, nq_ifne 201), (193, np_ild 1 3), (194, nq_ifne 201), (197, np_push 1 (.int 1)), (198, np_goto 202), (201, np_push 1 (.int 0)), (202, np_ret Rt), (203, np_ild 1 2), (204, np_push 1 (.int 1)), (205, np_push 1 (.int 3)), (206, nq_call 3 sp_X11_isBetween 3 0 0 0 0), (209, nq_if (fun x => x = 0) 220), (212, np_ild 1 3), (213, nq_ifne 220), (216, np_push 1 (.int 1)), (217, np_goto 221), (220, np_push 1 (.int 0)), (221, np_ret Rt), (222, np_ild 1 2), (223, np_push 1 (.int 1)), (224, np_push 1 (.int 3)), (225, nq_call 3 sp_X11_isBetween 3 0 0 0 0), (228, nq_if (fun x => x = 0) 245), (231, np_ild 1 3), (232, np_push 1 (.int 0)), (233, np_push 2 (.int 99)), (235, nq_call 3 sp_X11_isBetween 3 0 0 0 0), (238, nq_if (fun x => x = 0) 245), (241, np_push 1 (.int 1)), (242, np_goto 246), (245, np_push 1 (.int 0)), (246, np_ret Rt), (247, np_ild 1 2), (248, nq_ifne 259), (251, np_ild 1 3), (252, nq_ifne 259), (255, np_push 1 (.int 1)), (256, np_goto 260), (259, np_push 1 (.int 0)), (260, np_ret Rt), (261, np_push 1 (.int 0)), (262, np_ret Rt)]
set_option maxRecDepth 20000 in
theorem so_X2_inRange {X : np_Ctx} {Rt : np_Rt} (hX : np_ok RX2 cX2_inRange 4 1 22 0 0 .ireturn X) (hR : ∀ st w ce sl, Rt st w ce sl → X.2.2.1 st w ce sl) : ∀ q ∈ is_X2_inRange Rt, np_S X q.1 q.2 :=
  List.forall_mem_cons.mpr ⟨np_s_iload_n hX dX2_inRange_0 rfl, List.forall_mem_cons.mpr ⟨np_S.mono (op := np_tsw (0) (9) [56, 94, 119, 140, 160, 178, 247, 203, 222, 247] 261) (np_s_tsw hX dX2_inRange_1 (by decide) (by decide) (by decide)) (nq_tsw_le (by decide)), List.forall_mem_cons.mpr ⟨np_s_iload_n hX dX2_inRange_56 rfl, List.forall_mem_cons.mpr ⟨np_s_iconst hX dX2_inRange_57 (by decide), List.forall_mem_cons.mpr ⟨np_s_bipush hX dX2_inRange_58 (by decide), List.forall_mem_cons.mpr ⟨np_S.mono (op := np_call 3 sp_X11_isBetween 3 0 0 0 0) (np_s_callSN hX C_X11_isBetween dX2_inRange_60 gw589 gw63 gw587 gw588 ⟨by decide, by decide, by decide⟩ (by decide) (by decide)) nq_call_le, List.forall_mem_cons.mpr ⟨np_S.mono (op := np_if (fun x => x = 0) 92) (np_s_if_eq hX dX2_inRange_63 (by decide)) nq_if_le, List.forall_mem_cons.mpr ⟨np_s_iload_n hX dX2_inRange_66 rfl, List.forall_mem_cons.mpr ⟨np_s_iconst hX dX2_inRange_67 (by decide), List.forall_mem_cons.mpr ⟨np_s_bipush hX dX2_inRange_68 (by decide), List.forall_mem_cons.mpr ⟨np_S.mono (op := np_call 3 sp_X11_isBetween 3 0 0 0 0) (np_s_callSN hX C_X11_isBetween dX2_inRange_70 gw589 gw63 gw587 gw588 ⟨by decide, by decide, by decide⟩ (by decide) (by decide)) nq_call_le, List.forall_mem_cons.mpr ⟨np_S.mono (op := np_if (fun x => x = 0) 92) (np_s_if_eq hX dX2_inRange_73 (by decide)) nq_if_le, List.forall_mem_cons.mpr ⟨np_s_iload_n hX dX2_inRange_76 rfl, List.forall_mem_cons.mpr ⟨np_s_iconst hX dX2_inRange_77 (by decide), List.forall_mem_cons.mpr ⟨np_S.mono (op := np_ic (fun x y => x < y) 88) (np_s_icmp_lt hX dX2_inRange_78 (by decide)) nq_ic_le, List.forall_mem_cons.mpr ⟨np_s_iload_n hX dX2_inRange_81 rfl, List.forall_mem_cons.mpr ⟨np_s_iconst hX dX2_inRange_82 (by decide), List.forall_mem_cons.mpr ⟨np_S.mono (op := np_ibn (fun x y => x - x / y * y)) (np_s_irem hX dX2_inRange_83) nq_ibn_le, List.forall_mem_cons.mpr ⟨np_s_iconst hX dX2_inRange_84 (by decide), List.forall_mem_cons.mpr ⟨np_S.mono (op := np_ic (fun x y => x = y) 92) (np_s_icmp_eq hX dX2_inRange_85 (by decide)) nq_ic_le, List.forall_mem_cons.mpr ⟨np_s_iconst hX dX2_inRange_88 (by decide), List.forall_mem_cons.mpr ⟨np_s_goto hX dX2_inRange_89 (by decide), List.forall_mem_cons.mpr ⟨np_s_iconst hX dX2_inRange_92 (by decide), List.forall_mem_cons.mpr ⟨np_S.mono (op := np_ret X.2.2.1) (np_s_ret hX dX2_inRange_93) (nq_ret_le hR), List.forall_mem_cons.mpr ⟨np_s_iload_n hX dX2_inRange_94 rfl, List.forall_mem_cons.mpr ⟨np_s_iconst hX dX2_inRange_95 (by decide), List.forall_mem_cons.mpr ⟨np_s_bipush hX dX2_inRange_96 (by decide), List.forall_mem_cons.mpr ⟨np_S.mono (op := np_call 3 sp_X11_isBetween 3 0 0 0 0) (np_s_callSN hX C_X11_isBetween dX2_inRange_98 gw589 gw63 gw587 gw588 ⟨by decide, by decide, by decide⟩ (by decide) (by decide)) nq_call_le, List.forall_mem_cons.mpr ⟨np_S.mono (op := np_if (fun x => x = 0) 117) (np_s_if_eq hX dX2_inRange_101 (by decide)) nq_if_le, List.forall_mem_cons.mpr ⟨np_s_iload_n hX dX2_inRange_104 rfl, List.forall_mem_cons.mpr ⟨np_s_iconst hX dX2_inRange_105 (by decide), List.forall_mem_cons.mpr ⟨np_s_iconst hX dX2_inRange_106 (by decide), List.forall_mem_cons.mpr ⟨np_S.mono (op := np_call 3 sp_X11_isBetween 3 0 0 0 0) (np_s_callSN hX C_X11_isBetween dX2_inRange_107 gw589 gw63 gw587 gw588 ⟨by decide, by decide, by decide⟩ (by decide) (by decide)) nq_call_le, List.forall_mem_cons.mpr ⟨np_S.mono (op := np_if (fun x => x = 0) 117) (np_s_if_eq hX dX2_inRange_110 (by decide)) nq_if_le, List.forall_mem_cons.mpr ⟨np_s_iconst hX dX2_inRange_113 (by decide), List.forall_mem_cons.mpr ⟨np_s_goto hX dX2_inRange_114 (by decide), List.forall_mem_cons.mpr ⟨np_s_iconst hX dX2_inRange_117 (by decide), List.forall_mem_cons.mpr ⟨np_S.mono (op := np_ret X.2.2.1) (np_s_ret hX dX2_inRange_118) (nq_ret_le hR), List.forall_mem_cons.mpr ⟨np_s_iload_n hX dX2_inRange_119 rfl, List.forall_mem_cons.mpr ⟨np_s_bipush hX dX2_inRange_120 (by decide), List.forall_mem_cons.mpr ⟨np_s_bipush hX dX2_inRange_122 (by decide), List.forall_mem_cons.mpr ⟨np_S.mono (op := np_call 3 sp_X11_isBetween 3 0 0 0 0) (np_s_callSN hX C_X11_isBetween dX2_inRange_124 gw589 gw63 gw587 gw588 ⟨by decide, by decide, by decide⟩ (by decide) (by decide)) nq_call_le, List.forall_mem_cons.mpr ⟨np_S.mono (op := np_if (fun x => x = 0) 138) (np_s_if_eq hX dX2_inRange_127 (by decide)) nq_if_le, List.forall_mem_cons.mpr ⟨np_s_iload_n hX dX2_inRange_130 rfl, List.forall_mem_cons.mpr ⟨np_S.mono (op := np_ifne 138) (np_s_if_ne hX dX2_inRange_131 (by decide)) nq_ifne_le, List.forall_mem_cons.mpr ⟨np_s_iconst hX dX2_inRange_134 (by decide), List.forall_mem_cons.mpr ⟨np_s_goto hX dX2_inRange_135 (by decide), List.forall_mem_cons.mpr ⟨np_s_iconst hX dX2_inRange_138 (by decide), List.forall_mem_cons.mpr ⟨np_S.mono (op := np_ret X.2.2.1) (np_s_ret hX dX2_inRange_139) (nq_ret_le hR), List.forall_mem_cons.mpr ⟨np_s_iload_n hX dX2_inRange_140 rfl, List.forall_mem_cons.mpr ⟨np_s_iconst hX dX2_inRange_141 (by decide), List.forall_mem_cons.mpr ⟨np_s_bipush hX dX2_inRange_142 (by decide), List.forall_mem_cons.mpr ⟨np_S.mono (op := np_call 3 sp_X11_isBetween 3 0 0 0 0) (np_s_callSN hX C_X11_isBetween dX2_inRange_144 gw589 gw63 gw587 gw588 ⟨by decide, by decide, by decide⟩ (by decide) (by decide)) nq_call_le, List.forall_mem_cons.mpr ⟨np_S.mono (op := np_if (fun x => x = 0) 158) (np_s_if_eq hX dX2_inRange_147 (by decide)) nq_if_le, List.forall_mem_cons.mpr ⟨np_s_iload_n hX dX2_inRange_150 rfl, List.forall_mem_cons.mpr ⟨np_S.mono (op := np_ifne 158) (np_s_if_ne hX dX2_inRange_151 (by decide)) nq_ifne_le, List.forall_mem_cons.mpr ⟨np_s_iconst hX dX2_inRange_154 (by decide), List.forall_mem_cons.mpr ⟨np_s_goto hX dX2_inRange_155 (by decide), List.forall_mem_cons.mpr ⟨np_s_iconst hX dX2_inRange_158 (by decide), List.forall_mem_cons.mpr ⟨np_S.mono (op := np_ret X.2.2.1) (np_s_ret hX dX2_inRange_159) (nq_ret_le hR), List.forall_mem_cons.mpr ⟨np_s_iload_n hX dX2_inRange_160 rfl, List.forall_mem_cons.mpr ⟨np_S.mono (op := np_ifne 176) (np_s_if_ne hX dX2_inRange_161 (by decide)) nq_ifne_le, List.forall_mem_cons.mpr ⟨np_s_iload_n hX dX2_inRange_164 rfl, List.forall_mem_cons.mpr ⟨np_S.mono (op := np_ifne 176) (np_s_if_ne hX dX2_inRange_165 (by decide)) nq_ifne_le, List.forall_mem_cons.mpr ⟨np_s_iload_n hX dX2_inRange_168 rfl, List.forall_mem_cons.mpr ⟨np_S.mono (op := np_ifne 176) (np_s_if_ne hX dX2_inRange_169 (by decide)) nq_ifne_le, List.forall_mem_cons.mpr ⟨np_s_iconst hX dX2_inRange_172 (by decide), List.forall_mem_cons.mpr ⟨np_s_goto hX dX2_inRange_173 (by decide), List.forall_mem_cons.mpr ⟨np_s_iconst hX dX2_inRange_176 (by decide), List.forall_mem_cons.mpr ⟨np_S.mono (op := np_ret X.2.2.1) (np_s_ret hX dX2_inRange_177) (nq_ret_le hR), List.forall_mem_cons.mpr ⟨np_s_iload_n hX dX2_inRange_178 rfl, List.forall_mem_cons.mpr ⟨np_s_bipush hX dX2_inRange_179 (by decide), List.forall_mem_cons.mpr ⟨np_s_bipush hX dX2_inRange_181 (by decide), List.forall_mem_cons.mpr ⟨np_S.mono (op := np_call 3 sp_X11_isBetween 3 0 0 0 0) (np_s_callSN hX C_X11_isBetween dX2_inRange_183 gw589 gw63 gw587 gw588 ⟨by decide, by decide, by decide⟩ (by decide) (by decide)) nq_call_le, List.forall_mem_cons.mpr ⟨np_S.mono (op := np_if (fun x => x = 0) 201) (np_s_if_eq hX dX2_inRange_186 (by decide)) nq_if_le, List.forall_mem_cons.mpr ⟨np_s_iload_n hX dX2_inRange_189 rfl, List.forall_mem_cons.mpr ⟨np_S.mono (op := np_ifne 201) (np_s_if_ne hX dX2_inRange_190 (by decide)) nq_ifne_le, List.forall_mem_cons.mpr ⟨np_s_iload_n hX dX2_inRange_193 rfl, List.forall_mem_cons.mpr ⟨np_S.mono (op := np_ifne 201) (np_s_if_ne hX dX2_inRange_194 (by decide)) nq_ifne_le, List.forall_mem_cons.mpr ⟨np_s_iconst hX dX2_inRange_197 (by decide), List.forall_mem_cons.mpr ⟨np_s_goto hX dX2_inRange_198 (by decide), List.forall_mem_cons.mpr ⟨np_s_iconst hX dX2_inRange_201 (by decide), List.forall_mem_cons.mpr ⟨np_S.mono (op := np_ret X.2.2.1) (np_s_ret hX dX2_inRange_202) (nq_ret_le hR), List.forall_mem_cons.mpr ⟨np_s_iload_n hX dX2_inRange_203 rfl, List.forall_mem_cons.mpr ⟨np_s_iconst hX dX2_inRange_204 (by decide), List.forall_mem_cons.mpr ⟨np_s_iconst hX dX2_inRange_205 (by decide), List.forall_mem_cons.mpr ⟨np_S.mono (op := np_call 3 sp_X11_isBetween 3 0 0 0 0) (np_s_callSN hX C_X11_isBetween dX2_inRange_206 gw589 gw63 gw587 gw588 ⟨by decide, by decide, by decide⟩ (by decide) (by decide)) nq_call_le, List.forall_mem_cons.mpr ⟨np_S.mono (op := np_if (fun x => x = 0) 220) (np_s_if_eq hX dX2_inRange_209 (by decide)) nq_if_le, List.forall_mem_cons.mpr ⟨np_s_iload_n hX dX2_inRange_212 rfl, List.forall_mem_cons.mpr ⟨np_S.mono (op := np_ifne 220) (np_s_if_ne hX dX2_inRange_213 (by decide)) nq_ifne_le, List.forall_mem_cons.mpr ⟨np_s_iconst hX dX2_inRange_216 (by decide), List.forall_mem_cons.mpr ⟨np_s_goto hX dX2_inRange_217 (by decide), List.forall_mem_cons.mpr ⟨np_s_iconst hX dX2_inRange_220 (by decide), List.forall_mem_cons.mpr ⟨np_S.mono (op := np_ret X.2.2.1) (np_s_ret hX dX2_inRange_221) (nq_ret_le hR), List.forall_mem_cons.mpr ⟨np_s_iload_n hX dX2_inRange_222 rfl, List.forall_mem_cons.mpr ⟨np_s_iconst hX dX2_inRange_223 (by decide), List.forall_mem_cons.mpr ⟨np_s_iconst hX dX2_inRange_224 (by decide), List.forall_mem_cons.mpr ⟨np_S.mono (op := np_call 3 sp_X11_isBetween 3 0 0 0 0) (np_s_callSN hX C_X11_isBetween dX2_inRange_225 gw589 gw63 gw587 gw588 ⟨by decide, by decide, by decide⟩ (by decide) (by decide)) nq_call_le, List.forall_mem_cons.mpr ⟨np_S.mono (op := np_if (fun x => x = 0) 245) (np_s_if_eq hX dX2_inRange_228 (by decide)) nq_if_le, List.forall_mem_cons.mpr ⟨np_s_iload_n hX dX2_inRange_231 rfl, List.forall_mem_cons.mpr ⟨np_s_iconst hX dX2_inRange_232 (by decide), List.forall_mem_cons.mpr ⟨np_s_bipush hX dX2_inRange_233 (by decide), List.forall_mem_cons.mpr ⟨np_S.mono (op := np_call 3 sp_X11_isBetween 3 0 0 0 0) (np_s_callSN hX C_X11_isBetween dX2_inRange_235 gw589 gw63 gw587 gw588 ⟨by decide, by decide, by decide⟩ (by decide) (by decide)) nq_call_le, List.forall_mem_cons.mpr ⟨np_S.mono (op := np_if (fun x => x = 0) 245) (np_s_if_eq hX dX2_inRange_238 (by decide)) nq_if_le, List.forall_mem_cons.mpr ⟨np_s_iconst hX dX2_inRange_241 (by decide), List.forall_mem_cons.mpr ⟨np_s_goto hX dX2_inRange_242 (by decide), List.forall_mem_cons.mpr ⟨np_s_iconst hX dX2_inRange_245 (by decide), List.forall_mem_cons.mpr ⟨np_S.mono (op := np_ret X.2.2.1) (np_s_ret hX dX2_inRange_246) (nq_ret_le hR), List.forall_mem_cons.mpr ⟨np_s_iload_n hX dX2_inRange_247 rfl, List.forall_mem_cons.mpr ⟨np_S.mono (op := np_ifne 259) (np_s_if_ne hX dX2_inRange_248 (by decide)) nq_ifne_le, List.forall_mem_cons.mpr ⟨np_s_iload_n hX dX2_inRange_251 rfl, List.forall_mem_cons.mpr ⟨np_S.mono (op := np_ifne 259) (np_s_if_ne hX dX2_inRange_252 (by decide)) nq_ifne_le, List.forall_mem_cons.mpr ⟨np_s_iconst hX dX2_inRange_255 (by decide), List.forall_mem_cons.mpr ⟨np_s_goto hX dX2_inRange_256 (by decide), List.forall_mem_cons.mpr ⟨np_s_iconst hX dX2_inRange_259 (by decide), List.forall_mem_cons.mpr ⟨np_S.mono (op := np_ret X.2.2.1) (np_s_ret hX dX2_inRange_260) (nq_ret_le hR), List.forall_mem_cons.mpr ⟨np_s_iconst hX dX2_inRange_261 (by decide), List.forall_mem_cons.mpr ⟨np_S.mono (op := np_ret X.2.2.1) (np_s_ret hX dX2_inRange_262) (nq_ret_le hR), fun _ h => nomatch h⟩⟩⟩⟩⟩⟩⟩⟩⟩⟩⟩⟩⟩⟩⟩⟩⟩⟩⟩⟩⟩⟩⟩⟩⟩⟩⟩⟩⟩⟩⟩⟩⟩⟩⟩⟩⟩⟩⟩⟩⟩⟩⟩⟩⟩⟩⟩⟩⟩⟩⟩⟩⟩⟩⟩⟩⟩⟩⟩⟩⟩⟩⟩⟩⟩⟩⟩⟩⟩⟩⟩⟩⟩⟩⟩⟩⟩⟩⟩⟩⟩⟩⟩⟩⟩⟩⟩⟩⟩⟩⟩⟩⟩⟩⟩⟩⟩⟩⟩⟩⟩⟩⟩⟩⟩⟩⟩⟩⟩⟩⟩⟩⟩⟩⟩⟩⟩⟩
noncomputable def m_X2_inRange (S : pw_S) (x0 : Int32) (x1 : Int32) (x2 : Int32) (x3 : Int32) : pw_R Int32 :=
 if (x0 : Int32).toInt = 0 then
 (pw_b (m_X11_isBetween S x2 1 8) fun S1 r4 =>
 if r4 = 0 then
 (some (S1, 0))
 else
 (pw_b (m_X11_isBetween S1 x3 0 8) fun S6 r9 =>
 if r9 = 0 then
 (some (S6, 0))
 else
 (if x3 < 3 then
 (some (S6, 1))
 else
 (if (x3 - x3 / 3 * 3) = 1 then
 (some (S6, 0))
 else
 (some (S6, 1))))))
 else if (x0 : Int32).toInt = (0 + 1) then
 (pw_b (m_X11_isBetween S x2 1 9) fun S11 r14 =>
 if r14 = 0 then
 (some (S11, 0))
 else
 (pw_b (m_X11_isBetween S11 x3 0 2) fun S16 r19 =>
 if r19 = 0 then
 (some (S16, 0))
 else
 (some (S16, 1))))
 else if (x0 : Int32).toInt = ((0 + 1) + 1) then
 (pw_b (m_X11_isBetween S x2 33 126) fun S21 r24 =>
 if r24 = 0 then
 (some (S21, 0))
 else
 (if x3 = 0 then
 (some (S21, 1))
 else
 (some (S21, 0))))
 else if (x0 : Int32).toInt = (((0 + 1) + 1) + 1) then
 (pw_b (m_X11_isBetween S x2 1 8) fun S26 r29 =>
 if r29 = 0 then
 (some (S26, 0))
 else
 (if x3 = 0 then
 (some (S26, 1))
 else
 (some (S26, 0))))
 else if (x0 : Int32).toInt = ((((0 + 1) + 1) + 1) + 1) then
 (if x1 = 0 then
 (if x2 = 0 then
 (if x3 = 0 then
 (some (S, 1))
 else
 (some (S, 0)))
 else
 (some (S, 0)))
 else
 (some (S, 0)))
 else if (x0 : Int32).toInt = (((((0 + 1) + 1) + 1) + 1) + 1) then
 (pw_b (m_X11_isBetween S x1 32 126) fun S31 r34 =>
 if r34 = 0 then
 (some (S31, 0))
 else
 (if x2 = 0 then
 (if x3 = 0 then
 (some (S31, 1))
 else
 (some (S31, 0)))
 else
 (some (S31, 0))))
 else if (x0 : Int32).toInt = ((((((0 + 1) + 1) + 1) + 1) + 1) + 1) then
 (if x2 = 0 then
 (if x3 = 0 then
 (some (S, 1))
 else
 (some (S, 0)))
 else
 (some (S, 0)))
 else if (x0 : Int32).toInt = (((((((0 + 1) + 1) + 1) + 1) + 1) + 1) + 1) then
 (pw_b (m_X11_isBetween S x2 1 3) fun S36 r39 =>
 if r39 = 0 then
 (some (S36, 0))
 else
 (if x3 = 0 then
 (some (S36, 1))
 else
 (some (S36, 0))))
 else if (x0 : Int32).toInt = ((((((((0 + 1) + 1) + 1) + 1) + 1) + 1) + 1) + 1) then
 (pw_b (m_X11_isBetween S x2 1 3) fun S41 r44 =>
 if r44 = 0 then
 (some (S41, 0))
 else
 (pw_b (m_X11_isBetween S41 x3 0 99) fun S46 r49 =>
 if r49 = 0 then
 (some (S46, 0))
 else
 (some (S46, 1))))
 else if (x0 : Int32).toInt = (((((((((0 + 1) + 1) + 1) + 1) + 1) + 1) + 1) + 1) + 1) then
 (if x2 = 0 then
 (if x3 = 0 then
 (some (S, 1))
 else
 (some (S, 0)))
 else
 (some (S, 0)))
 else 
 (some (S, 0))
def sp_X2_inRange : np_Sp := fun vs w Q => ∃ (q : Nat) (S : pw_S) (x0 : Int32) (x1 : Int32) (x2 : Int32) (x3 : Int32), vs = [.int x0, .int x1, .int x2, .int x3] ∧ pw_W q w S ∧ pw_p (m_X2_inRange S x0 x1 x2 x3) (fun S' r => ∀ f', pw_W q (w.1, f') S' → Q (some (.int r)) (w.1, f'))
set_option maxRecDepth 100000 in
set_option maxHeartbeats 8000000 in
theorem C_X2_inRange : np_C yX2_inRange cX2_inRange 4 (some .boolean) 1 22 0 0 sp_X2_inRange := by
  refine np_of (by decide) ?_
  intro X vs w Q hsp hX hmn hRt hlt
  obtain ⟨q, S, x0, x1, x2, x3, rfl, hW, h⟩ := hsp
  obtain ⟨n, f⟩ := w
  unfold m_X2_inRange at h
  have hR : ∀ st w ce sl, np_rt (some .boolean) 0 0 Q st w ce sl → X.2.2.1 st w ce sl := fun _ _ _ _ h => by rw [hRt]; exact h
  refine np_soundW (so_X2_inRange hX hR) [] 400 0 _ _ _ _ _ ?_
  conv => whnf
  refine pw_br h (fun _ h => ?_) (fun _ h => ?_)
  · conv => whnf
    refine ⟨q, S, x2, 1, 8, rfl, hW, pw_bd h (fun S1 r4 h f2 hW3 => ?_)⟩
    conv => whnf
    refine pw_br h (fun _ h => ?_) (fun _ h => ?_)
    · conv => whnf
      exact ⟨Nat.le_of_ble_eq_true rfl, Nat.le_of_ble_eq_true rfl, ⟨_, rfl, by decide⟩, _, fun _ _ h9 => h9, pw_ps h _ hW3⟩
    · conv => whnf
      refine ⟨q, S1, x3, 0, 8, rfl, hW3, pw_bd h (fun S6 r9 h f7 hW8 => ?_)⟩
      conv => whnf
      refine pw_br h (fun _ h => ?_) (fun _ h => ?_)
      · conv => whnf
        exact ⟨Nat.le_of_ble_eq_true rfl, Nat.le_of_ble_eq_true rfl, ⟨_, rfl, by decide⟩, _, fun _ _ h9 => h9, pw_ps h _ hW8⟩
      · conv => whnf
        refine pw_br h (fun _ h => ?_) (fun _ h => ?_)
        · conv => whnf
          exact ⟨Nat.le_of_ble_eq_true rfl, Nat.le_of_ble_eq_true rfl, ⟨_, rfl, by decide⟩, _, fun _ _ h9 => h9, pw_ps h _ hW8⟩
        · conv => whnf
          refine pw_br h (fun _ h => ?_) (fun _ h => ?_)
          · conv => whnf
            exact ⟨Nat.le_of_ble_eq_true rfl, Nat.le_of_ble_eq_true rfl, ⟨_, rfl, by decide⟩, _, fun _ _ h9 => h9, pw_ps h _ hW8⟩
          · conv => whnf
            exact ⟨Nat.le_of_ble_eq_true rfl, Nat.le_of_ble_eq_true rfl, ⟨_, rfl, by decide⟩, _, fun _ _ h9 => h9, pw_ps h _ hW8⟩
  conv => whnf
  refine pw_br h (fun _ h => ?_) (fun _ h => ?_)
  · conv => whnf
    refine ⟨q, S, x2, 1, 9, rfl, hW, pw_bd h (fun S11 r14 h f12 hW13 => ?_)⟩
    conv => whnf
    refine pw_br h (fun _ h => ?_) (fun _ h => ?_)
    · conv => whnf
      exact ⟨Nat.le_of_ble_eq_true rfl, Nat.le_of_ble_eq_true rfl, ⟨_, rfl, by decide⟩, _, fun _ _ h9 => h9, pw_ps h _ hW13⟩
    · conv => whnf
      refine ⟨q, S11, x3, 0, 2, rfl, hW13, pw_bd h (fun S16 r19 h f17 hW18 => ?_)⟩
      conv => whnf
      refine pw_br h (fun _ h => ?_) (fun _ h => ?_)
      · conv => whnf
        exact ⟨Nat.le_of_ble_eq_true rfl, Nat.le_of_ble_eq_true rfl, ⟨_, rfl, by decide⟩, _, fun _ _ h9 => h9, pw_ps h _ hW18⟩
      · conv => whnf
        exact ⟨Nat.le_of_ble_eq_true rfl, Nat.le_of_ble_eq_true rfl, ⟨_, rfl, by decide⟩, _, fun _ _ h9 => h9, pw_ps h _ hW18⟩
  conv => whnf
  refine pw_br h (fun _ h => ?_) (fun _ h => ?_)
  · conv => whnf
    refine ⟨q, S, x2, 33, 126, rfl, hW, pw_bd h (fun S21 r24 h f22 hW23 => ?_)⟩
    conv => whnf
    refine pw_br h (fun _ h => ?_) (fun _ h => ?_)
    · conv => whnf
      exact ⟨Nat.le_of_ble_eq_true rfl, Nat.le_of_ble_eq_true rfl, ⟨_, rfl, by decide⟩, _, fun _ _ h9 => h9, pw_ps h _ hW23⟩
    · conv => whnf
      refine pw_br h (fun _ h => ?_) (fun _ h => ?_)
      · conv => whnf
        exact ⟨Nat.le_of_ble_eq_true rfl, Nat.le_of_ble_eq_true rfl, ⟨_, rfl, by decide⟩, _, fun _ _ h9 => h9, pw_ps h _ hW23⟩
      · conv => whnf
        exact ⟨Nat.le_of_ble_eq_true rfl, Nat.le_of_ble_eq_true rfl, ⟨_, rfl, by decide⟩, _, fun _ _ h9 => h9, pw_ps h _ hW23⟩
  conv => whnf
  refine pw_br h (fun _ h => ?_) (fun _ h => ?_)
  · conv => whnf
    refine ⟨q, S, x2, 1, 8, rfl, hW, pw_bd h (fun S26 r29 h f27 hW28 => ?_)⟩
    conv => whnf
    refine pw_br h (fun _ h => ?_) (fun _ h => ?_)
    · conv => whnf
      exact ⟨Nat.le_of_ble_eq_true rfl, Nat.le_of_ble_eq_true rfl, ⟨_, rfl, by decide⟩, _, fun _ _ h9 => h9, pw_ps h _ hW28⟩
    · conv => whnf
      refine pw_br h (fun _ h => ?_) (fun _ h => ?_)
      · conv => whnf
        exact ⟨Nat.le_of_ble_eq_true rfl, Nat.le_of_ble_eq_true rfl, ⟨_, rfl, by decide⟩, _, fun _ _ h9 => h9, pw_ps h _ hW28⟩
      · conv => whnf
        exact ⟨Nat.le_of_ble_eq_true rfl, Nat.le_of_ble_eq_true rfl, ⟨_, rfl, by decide⟩, _, fun _ _ h9 => h9, pw_ps h _ hW28⟩
  conv => whnf
  refine pw_br h (fun _ h => ?_) (fun _ h => ?_)
  · conv => whnf
    refine pw_br h (fun _ h => ?_) (fun _ h => ?_)
    · conv => whnf
      refine pw_br h (fun _ h => ?_) (fun _ h => ?_)
      · conv => whnf
        refine pw_br h (fun _ h => ?_) (fun _ h => ?_)
        · conv => whnf
          exact ⟨Nat.le_of_ble_eq_true rfl, Nat.le_of_ble_eq_true rfl, ⟨_, rfl, by decide⟩, _, fun _ _ h9 => h9, pw_ps h _ hW⟩
        · conv => whnf
          exact ⟨Nat.le_of_ble_eq_true rfl, Nat.le_of_ble_eq_true rfl, ⟨_, rfl, by decide⟩, _, fun _ _ h9 => h9, pw_ps h _ hW⟩
      · conv => whnf
        exact ⟨Nat.le_of_ble_eq_true rfl, Nat.le_of_ble_eq_true rfl, ⟨_, rfl, by decide⟩, _, fun _ _ h9 => h9, pw_ps h _ hW⟩
    · conv => whnf
      exact ⟨Nat.le_of_ble_eq_true rfl, Nat.le_of_ble_eq_true rfl, ⟨_, rfl, by decide⟩, _, fun _ _ h9 => h9, pw_ps h _ hW⟩
  conv => whnf
  refine pw_br h (fun _ h => ?_) (fun _ h => ?_)
  · conv => whnf
    refine ⟨q, S, x1, 32, 126, rfl, hW, pw_bd h (fun S31 r34 h f32 hW33 => ?_)⟩
    conv => whnf
    refine pw_br h (fun _ h => ?_) (fun _ h => ?_)
    · conv => whnf
      exact ⟨Nat.le_of_ble_eq_true rfl, Nat.le_of_ble_eq_true rfl, ⟨_, rfl, by decide⟩, _, fun _ _ h9 => h9, pw_ps h _ hW33⟩
    · conv => whnf
      refine pw_br h (fun _ h => ?_) (fun _ h => ?_)
      · conv => whnf
        refine pw_br h (fun _ h => ?_) (fun _ h => ?_)
        · conv => whnf
          exact ⟨Nat.le_of_ble_eq_true rfl, Nat.le_of_ble_eq_true rfl, ⟨_, rfl, by decide⟩, _, fun _ _ h9 => h9, pw_ps h _ hW33⟩
        · conv => whnf
          exact ⟨Nat.le_of_ble_eq_true rfl, Nat.le_of_ble_eq_true rfl, ⟨_, rfl, by decide⟩, _, fun _ _ h9 => h9, pw_ps h _ hW33⟩
      · conv => whnf
        exact ⟨Nat.le_of_ble_eq_true rfl, Nat.le_of_ble_eq_true rfl, ⟨_, rfl, by decide⟩, _, fun _ _ h9 => h9, pw_ps h _ hW33⟩
  conv => whnf
  refine pw_br h (fun _ h => ?_) (fun _ h => ?_)
  · conv => whnf
    refine pw_br h (fun _ h => ?_) (fun _ h => ?_)
    · conv => whnf
      refine pw_br h (fun _ h => ?_) (fun _ h => ?_)
      · conv => whnf
        exact ⟨Nat.le_of_ble_eq_true rfl, Nat.le_of_ble_eq_true rfl, ⟨_, rfl, by decide⟩, _, fun _ _ h9 => h9, pw_ps h _ hW⟩
      · conv => whnf
        exact ⟨Nat.le_of_ble_eq_true rfl, Nat.le_of_ble_eq_true rfl, ⟨_, rfl, by decide⟩, _, fun _ _ h9 => h9, pw_ps h _ hW⟩
    · conv => whnf
      exact ⟨Nat.le_of_ble_eq_true rfl, Nat.le_of_ble_eq_true rfl, ⟨_, rfl, by decide⟩, _, fun _ _ h9 => h9, pw_ps h _ hW⟩
  conv => whnf
  refine pw_br h (fun _ h => ?_) (fun _ h => ?_)
  · conv => whnf
    refine ⟨q, S, x2, 1, 3, rfl, hW, pw_bd h (fun S36 r39 h f37 hW38 => ?_)⟩
    conv => whnf
    refine pw_br h (fun _ h => ?_) (fun _ h => ?_)
    · conv => whnf
      exact ⟨Nat.le_of_ble_eq_true rfl, Nat.le_of_ble_eq_true rfl, ⟨_, rfl, by decide⟩, _, fun _ _ h9 => h9, pw_ps h _ hW38⟩
    · conv => whnf
      refine pw_br h (fun _ h => ?_) (fun _ h => ?_)
      · conv => whnf
        exact ⟨Nat.le_of_ble_eq_true rfl, Nat.le_of_ble_eq_true rfl, ⟨_, rfl, by decide⟩, _, fun _ _ h9 => h9, pw_ps h _ hW38⟩
      · conv => whnf
        exact ⟨Nat.le_of_ble_eq_true rfl, Nat.le_of_ble_eq_true rfl, ⟨_, rfl, by decide⟩, _, fun _ _ h9 => h9, pw_ps h _ hW38⟩
  conv => whnf
  refine pw_br h (fun _ h => ?_) (fun _ h => ?_)
  · conv => whnf
    refine ⟨q, S, x2, 1, 3, rfl, hW, pw_bd h (fun S41 r44 h f42 hW43 => ?_)⟩
    conv => whnf
    refine pw_br h (fun _ h => ?_) (fun _ h => ?_)
    · conv => whnf
      exact ⟨Nat.le_of_ble_eq_true rfl, Nat.le_of_ble_eq_true rfl, ⟨_, rfl, by decide⟩, _, fun _ _ h9 => h9, pw_ps h _ hW43⟩
    · conv => whnf
      refine ⟨q, S41, x3, 0, 99, rfl, hW43, pw_bd h (fun S46 r49 h f47 hW48 => ?_)⟩
      conv => whnf
      refine pw_br h (fun _ h => ?_) (fun _ h => ?_)
      · conv => whnf
        exact ⟨Nat.le_of_ble_eq_true rfl, Nat.le_of_ble_eq_true rfl, ⟨_, rfl, by decide⟩, _, fun _ _ h9 => h9, pw_ps h _ hW48⟩
      · conv => whnf
        exact ⟨Nat.le_of_ble_eq_true rfl, Nat.le_of_ble_eq_true rfl, ⟨_, rfl, by decide⟩, _, fun _ _ h9 => h9, pw_ps h _ hW48⟩
  conv => whnf
  refine pw_br h (fun _ h => ?_) (fun _ h => ?_)
  · conv => whnf
    refine pw_br h (fun _ h => ?_) (fun _ h => ?_)
    · conv => whnf
      refine pw_br h (fun _ h => ?_) (fun _ h => ?_)
      · conv => whnf
        exact ⟨Nat.le_of_ble_eq_true rfl, Nat.le_of_ble_eq_true rfl, ⟨_, rfl, by decide⟩, _, fun _ _ h9 => h9, pw_ps h _ hW⟩
      · conv => whnf
        exact ⟨Nat.le_of_ble_eq_true rfl, Nat.le_of_ble_eq_true rfl, ⟨_, rfl, by decide⟩, _, fun _ _ h9 => h9, pw_ps h _ hW⟩
    · conv => whnf
      exact ⟨Nat.le_of_ble_eq_true rfl, Nat.le_of_ble_eq_true rfl, ⟨_, rfl, by decide⟩, _, fun _ _ h9 => h9, pw_ps h _ hW⟩
  conv => whnf
  exact ⟨Nat.le_of_ble_eq_true rfl, Nat.le_of_ble_eq_true rfl, ⟨_, rfl, by decide⟩, _, fun _ _ h9 => h9, pw_ps h _ hW⟩
