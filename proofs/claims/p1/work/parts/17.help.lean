theorem gw44 : (Jvm.Cond.selects "NotationPress$Upgrade" ({ cls := "NotationPress$Upgrade", name := "addStep", desc := "(III)V" } : Jvm.MethodName) ({ cls := "NotationPress$Upgrade", name := "addStep", desc := "(III)V" } : Jvm.MethodName)) ∈ np_gw := np_gwi 44 (by decide +kernel) rfl
theorem gw63 : (Jvm.Cond.selects "NotationPressModel" ({ cls := "NotationPressModel", name := "can", desc := "(I)Z" } : Jvm.MethodName) ({ cls := "NotationPressModel", name := "can", desc := "(I)Z" } : Jvm.MethodName)) ∈ np_gw := np_gwi 63 (by decide +kernel) rfl
theorem gw67 : (Jvm.Cond.selects "NotationPressModel" ({ cls := "NotationPressModel", name := "isDescription", desc := "(I)Z" } : Jvm.MethodName) ({ cls := "NotationPressModel", name := "isDescription", desc := "(I)Z" } : Jvm.MethodName)) ∈ np_gw := np_gwi 67 (by decide +kernel) rfl
theorem gw110 : (Jvm.Cond.selects "NotationPressModel" ({ cls := "NotationPressModel", name := "isRow", desc := "(II)Z" } : Jvm.MethodName) ({ cls := "NotationPressModel", name := "isRow", desc := "(II)Z" } : Jvm.MethodName)) ∈ np_gw := np_gwi 110 (by decide +kernel) rfl
theorem gw170 : (Jvm.Cond.fieldLink "NotationPress$Items" (28 : Nat) "NotationPress$Items" "count" "I") ∈ np_gw := np_gwi 170 (by decide +kernel) rfl
theorem gw275 : (Jvm.Cond.fieldLink "NotationPress$Text" (19 : Nat) "NotationPress$Text" "length" "I") ∈ np_gw := np_gwi 275 (by decide +kernel) rfl
theorem gw357 : (Jvm.Cond.fieldLinkNest "NotationPress$Upgrade" (49 : Nat) "NotationPress$UpgradeDraft" "kinds" "[I" "NotationPress") ∈ np_nw := np_nwi 357 (by decide +kernel) rfl
theorem gw359 : (Jvm.Cond.fieldLinkNest "NotationPress$Upgrade" (52 : Nat) "NotationPress$UpgradeDraft" "firsts" "[I" "NotationPress") ∈ np_nw := np_nwi 359 (by decide +kernel) rfl
theorem gw361 : (Jvm.Cond.fieldLinkNest "NotationPress$Upgrade" (55 : Nat) "NotationPress$UpgradeDraft" "seconds" "[I" "NotationPress") ∈ np_nw := np_nwi 361 (by decide +kernel) rfl
theorem gw421 : (Jvm.Cond.fieldLink "NotationPress$Table" (39 : Nat) "NotationPress$Table" "rowCount" "I") ∈ np_gw := np_gwi 421 (by decide +kernel) rfl
theorem gw462 : (Jvm.Cond.fieldLink "NotationPress$Column" (22 : Nat) "NotationPress$Column" "kind" "I") ∈ np_gw := np_gwi 462 (by decide +kernel) rfl
theorem gw463 : (Jvm.Cond.fieldLink "NotationPress$Column" (26 : Nat) "NotationPress$Column" "slot" "I") ∈ np_gw := np_gwi 463 (by decide +kernel) rfl
theorem gw464 : (Jvm.Cond.fieldLink "NotationPress$Column" (29 : Nat) "NotationPress$Column" "window" "I") ∈ np_gw := np_gwi 464 (by decide +kernel) rfl
theorem gw489 : (Jvm.Cond.fieldLink "NotationPress$Upgrade" (41 : Nat) "NotationPress$Upgrade" "length" "I") ∈ np_gw := np_gwi 489 (by decide +kernel) rfl
theorem gw508 : (Jvm.Cond.fieldLink "NotationPress" (132 : Nat) "NotationPress" "descriptionCount" "I") ∈ np_gw := np_gwi 508 (by decide +kernel) rfl
theorem gw516 : (Jvm.Cond.fieldLink "NotationPress" (348 : Nat) "NotationPress" "columnCount" "I") ∈ np_gw := np_gwi 516 (by decide +kernel) rfl
theorem gw519 : (Jvm.Cond.fieldLink "NotationPress" (390 : Nat) "NotationPress" "upgradeCount" "I") ∈ np_gw := np_gwi 519 (by decide +kernel) rfl
theorem gw570 : (Jvm.Cond.methodLink "NotationPress" (93 : Nat) ({ cls := "NotationPress", name := "isSlot", desc := "(I)Z" } : Jvm.MethodName)) ∈ np_gw := np_gwi 570 (by decide +kernel) rfl
theorem gw571 : (Jvm.Cond.static ({ cls := "NotationPress", name := "isSlot", desc := "(I)Z" } : Jvm.MethodName)) ∈ np_gw := np_gwi 571 (by decide +kernel) rfl
theorem gw572 : (Jvm.Cond.code ({ cls := "NotationPress", name := "isSlot", desc := "(I)Z" } : Jvm.MethodName) prog_1_method_47_code (1 : Nat) (Option.some Jvm.ClassFile.FieldType.boolean)) ∈ np_gw := np_gwi 572 (by decide +kernel) rfl
theorem gw644 : (Jvm.Cond.methodLinkNest "NotationPress$Items" (24 : Nat) ({ cls := "NotationPress", name := "isBetween", desc := "(III)Z" } : Jvm.MethodName) "NotationPress") ∈ np_nw := np_nwi 644 (by decide +kernel) rfl
theorem gw645 : (Jvm.Cond.static ({ cls := "NotationPress", name := "isBetween", desc := "(III)Z" } : Jvm.MethodName)) ∈ np_gw := np_gwi 645 (by decide +kernel) rfl
theorem gw646 : (Jvm.Cond.code ({ cls := "NotationPress", name := "isBetween", desc := "(III)Z" } : Jvm.MethodName) prog_1_method_50_code (3 : Nat) (Option.some Jvm.ClassFile.FieldType.boolean)) ∈ np_gw := np_gwi 646 (by decide +kernel) rfl
theorem gw687 : (Jvm.Cond.methodLinkNest "NotationPress$Items" (32 : Nat) ({ cls := "NotationPress", name := "put", desc := "([III)V" } : Jvm.MethodName) "NotationPress") ∈ np_nw := np_nwi 687 (by decide +kernel) rfl
theorem gw688 : (Jvm.Cond.static ({ cls := "NotationPress", name := "put", desc := "([III)V" } : Jvm.MethodName)) ∈ np_gw := np_gwi 688 (by decide +kernel) rfl
theorem gw689 : (Jvm.Cond.code ({ cls := "NotationPress", name := "put", desc := "([III)V" } : Jvm.MethodName) prog_1_method_43_code (3 : Nat) (Option.none : Option Jvm.ClassFile.FieldType)) ∈ np_gw := np_gwi 689 (by decide +kernel) rfl
theorem gw711 : (Jvm.Cond.static ({ cls := "NotationPress", name := "at", desc := "([III)I" } : Jvm.MethodName)) ∈ np_gw := np_gwi 711 (by decide +kernel) rfl
theorem gw712 : (Jvm.Cond.code ({ cls := "NotationPress", name := "at", desc := "([III)I" } : Jvm.MethodName) prog_1_method_42_code (3 : Nat) (Option.some Jvm.ClassFile.FieldType.int)) ∈ np_gw := np_gwi 712 (by decide +kernel) rfl
theorem gw975 : (Jvm.Cond.methodLink "NotationPress" (440 : Nat) ({ cls := "NotationPress", name := "isBetween", desc := "(III)Z" } : Jvm.MethodName)) ∈ np_gw := np_gwi 975 (by decide +kernel) rfl
theorem gw1279 : (Jvm.Cond.constant "NotationPress$Table" (52 : Nat) (-2147483648 : Int32)) ∈ np_gw := np_gwi 1279 (by decide +kernel) rfl
theorem gw1280 : (Jvm.Cond.methodLinkNest "NotationPress$Table" (53 : Nat) ({ cls := "NotationPress", name := "at", desc := "([III)I" } : Jvm.MethodName) "NotationPress") ∈ np_nw := np_nwi 1280 (by decide +kernel) rfl
theorem gw1281 : (Jvm.Cond.methodLink "NotationPress$Table" (92 : Nat) ({ cls := "NotationPress$Table", name := "bucketOf", desc := "(II)I" } : Jvm.MethodName)) ∈ np_gw := np_gwi 1281 (by decide +kernel) rfl
theorem gw1282 : (Jvm.Cond.static ({ cls := "NotationPress$Table", name := "bucketOf", desc := "(II)I" } : Jvm.MethodName)) ∈ np_gw := np_gwi 1282 (by decide +kernel) rfl
theorem gw1283 : (Jvm.Cond.code ({ cls := "NotationPress$Table", name := "bucketOf", desc := "(II)I" } : Jvm.MethodName) prog_8_method_10_code (2 : Nat) (Option.some Jvm.ClassFile.FieldType.int)) ∈ np_gw := np_gwi 1283 (by decide +kernel) rfl
theorem gw1417 : (Jvm.Cond.methodLinkNest "NotationPress$UpgradeDraft" (25 : Nat) ({ cls := "NotationPress", name := "isBetween", desc := "(III)Z" } : Jvm.MethodName) "NotationPress") ∈ np_nw := np_nwi 1417 (by decide +kernel) rfl
theorem gw1418 : (Jvm.Cond.methodLinkNest "NotationPress$UpgradeDraft" (29 : Nat) ({ cls := "NotationPress", name := "isSlot", desc := "(I)Z" } : Jvm.MethodName) "NotationPress") ∈ np_nw := np_nwi 1418 (by decide +kernel) rfl
theorem gw1424 : (Jvm.Cond.methodLinkNest "NotationPress$UpgradeDraft" (33 : Nat) ({ cls := "NotationPress", name := "put", desc := "([III)V" } : Jvm.MethodName) "NotationPress") ∈ np_nw := np_nwi 1424 (by decide +kernel) rfl
theorem gw1445 : (Jvm.Cond.methodLinkNest "NotationPress$Upgrade" (34 : Nat) ({ cls := "NotationPress", name := "at", desc := "([III)I" } : Jvm.MethodName) "NotationPress") ∈ np_nw := np_nwi 1445 (by decide +kernel) rfl
theorem gw1446 : (Jvm.Cond.methodLink "NotationPress$Upgrade" (58 : Nat) ({ cls := "NotationPress$Upgrade", name := "addStep", desc := "(III)V" } : Jvm.MethodName)) ∈ np_gw := np_gwi 1446 (by decide +kernel) rfl
theorem gw1448 : (Jvm.Cond.instanceMethod ({ cls := "NotationPress$Upgrade", name := "addStep", desc := "(III)V" } : Jvm.MethodName)) ∈ np_gw := np_gwi 1448 (by decide +kernel) rfl
theorem gw1449 : (Jvm.Cond.code ({ cls := "NotationPress$Upgrade", name := "addStep", desc := "(III)V" } : Jvm.MethodName) prog_11_method_9_code (4 : Nat) (Option.none : Option Jvm.ClassFile.FieldType)) ∈ np_gw := np_gwi 1449 (by decide +kernel) rfl
theorem gw1454 : (Jvm.Cond.methodLinkNest "NotationPress$Upgrade" (45 : Nat) ({ cls := "NotationPress", name := "put", desc := "([III)V" } : Jvm.MethodName) "NotationPress") ∈ np_nw := np_nwi 1454 (by decide +kernel) rfl
theorem gw1641 : (Jvm.Cond.fieldLink "NotationPressModel" (188 : Nat) "NotationPressModel" "descriptions" "I") ∈ np_gw := np_gwi 1641 (by decide +kernel) rfl
theorem gw1655 : (Jvm.Cond.fieldLink "NotationPressModel" (235 : Nat) "NotationPressModel" "recordHas" "I") ∈ np_gw := np_gwi 1655 (by decide +kernel) rfl
theorem gw1669 : (Jvm.Cond.fieldLink "NotationPressModel" (447 : Nat) "NotationPressModel" "columns" "I") ∈ np_gw := np_gwi 1669 (by decide +kernel) rfl
theorem gw1677 : (Jvm.Cond.fieldLink "NotationPressModel" (462 : Nat) "NotationPressModel" "upgrades" "I") ∈ np_gw := np_gwi 1677 (by decide +kernel) rfl
theorem gw1682 : (Jvm.Cond.fieldLink "NotationPressModel" (459 : Nat) "NotationPressModel" "made" "I") ∈ np_gw := np_gwi 1682 (by decide +kernel) rfl
theorem gw1712 : (Jvm.Cond.fieldLink "NotationPressModel" (180 : Nat) "NotationPressModel" "thrown" "I") ∈ np_gw := np_gwi 1712 (by decide +kernel) rfl
theorem gw1878 : (Jvm.Cond.methodLink "NotationPressModel" (184 : Nat) ({ cls := "NotationPressModel", name := "isIn", desc := "(III)Z" } : Jvm.MethodName)) ∈ np_gw := np_gwi 1878 (by decide +kernel) rfl
theorem gw1879 : (Jvm.Cond.static ({ cls := "NotationPressModel", name := "isIn", desc := "(III)Z" } : Jvm.MethodName)) ∈ np_gw := np_gwi 1879 (by decide +kernel) rfl
theorem gw1880 : (Jvm.Cond.code ({ cls := "NotationPressModel", name := "isIn", desc := "(III)Z" } : Jvm.MethodName) prog_14_method_4_code (3 : Nat) (Option.some Jvm.ClassFile.FieldType.boolean)) ∈ np_gw := np_gwi 1880 (by decide +kernel) rfl
theorem gw1881 : (Jvm.Cond.methodLink "NotationPressModel" (191 : Nat) ({ cls := "NotationPressModel", name := "isSlot", desc := "(I)Z" } : Jvm.MethodName)) ∈ np_gw := np_gwi 1881 (by decide +kernel) rfl
theorem gw1882 : (Jvm.Cond.static ({ cls := "NotationPressModel", name := "isSlot", desc := "(I)Z" } : Jvm.MethodName)) ∈ np_gw := np_gwi 1882 (by decide +kernel) rfl
theorem gw1883 : (Jvm.Cond.code ({ cls := "NotationPressModel", name := "isSlot", desc := "(I)Z" } : Jvm.MethodName) prog_14_method_5_code (1 : Nat) (Option.some Jvm.ClassFile.FieldType.boolean)) ∈ np_gw := np_gwi 1883 (by decide +kernel) rfl
theorem gw1887 : (Jvm.Cond.methodLink "NotationPressModel" (202 : Nat) ({ cls := "NotationPressModel", name := "can", desc := "(I)Z" } : Jvm.MethodName)) ∈ np_gw := np_gwi 1887 (by decide +kernel) rfl
theorem gw1889 : (Jvm.Cond.instanceMethod ({ cls := "NotationPressModel", name := "can", desc := "(I)Z" } : Jvm.MethodName)) ∈ np_gw := np_gwi 1889 (by decide +kernel) rfl
theorem gw1890 : (Jvm.Cond.code ({ cls := "NotationPressModel", name := "can", desc := "(I)Z" } : Jvm.MethodName) prog_14_method_3_code (2 : Nat) (Option.some Jvm.ClassFile.FieldType.boolean)) ∈ np_gw := np_gwi 1890 (by decide +kernel) rfl
theorem gw1918 : (Jvm.Cond.methodLink "NotationPressModel" (219 : Nat) ({ cls := "NotationPressModel", name := "isDescription", desc := "(I)Z" } : Jvm.MethodName)) ∈ np_gw := np_gwi 1918 (by decide +kernel) rfl
theorem gw1920 : (Jvm.Cond.instanceMethod ({ cls := "NotationPressModel", name := "isDescription", desc := "(I)Z" } : Jvm.MethodName)) ∈ np_gw := np_gwi 1920 (by decide +kernel) rfl
theorem gw1921 : (Jvm.Cond.code ({ cls := "NotationPressModel", name := "isDescription", desc := "(I)Z" } : Jvm.MethodName) prog_14_method_7_code (2 : Nat) (Option.some Jvm.ClassFile.FieldType.boolean)) ∈ np_gw := np_gwi 1921 (by decide +kernel) rfl
theorem gw1941 : (Jvm.Cond.methodLink "NotationPressModel" (229 : Nat) ({ cls := "NotationPressModel", name := "has", desc := "(II)Z" } : Jvm.MethodName)) ∈ np_gw := np_gwi 1941 (by decide +kernel) rfl
theorem gw1942 : (Jvm.Cond.static ({ cls := "NotationPressModel", name := "has", desc := "(II)Z" } : Jvm.MethodName)) ∈ np_gw := np_gwi 1942 (by decide +kernel) rfl
theorem gw1943 : (Jvm.Cond.code ({ cls := "NotationPressModel", name := "has", desc := "(II)Z" } : Jvm.MethodName) prog_14_method_8_code (2 : Nat) (Option.some Jvm.ClassFile.FieldType.boolean)) ∈ np_gw := np_gwi 1943 (by decide +kernel) rfl
theorem gw1944 : (Jvm.Cond.constant "NotationPressModel" (238 : Nat) (-2147483648 : Int32)) ∈ np_gw := np_gwi 1944 (by decide +kernel) rfl
theorem gw2057 : (Jvm.Cond.methodLink "NotationPressModel" (353 : Nat) ({ cls := "NotationPressModel", name := "charOf", desc := "(II)I" } : Jvm.MethodName)) ∈ np_gw := np_gwi 2057 (by decide +kernel) rfl
theorem gw2058 : (Jvm.Cond.static ({ cls := "NotationPressModel", name := "charOf", desc := "(II)I" } : Jvm.MethodName)) ∈ np_gw := np_gwi 2058 (by decide +kernel) rfl
theorem gw2059 : (Jvm.Cond.code ({ cls := "NotationPressModel", name := "charOf", desc := "(II)I" } : Jvm.MethodName) prog_14_method_50_code (2 : Nat) (Option.some Jvm.ClassFile.FieldType.int)) ∈ np_gw := np_gwi 2059 (by decide +kernel) rfl
theorem gw2060 : (Jvm.Cond.methodLink "NotationPressModel" (356 : Nat) ({ cls := "NotationPressModel", name := "isFile", desc := "(I)Z" } : Jvm.MethodName)) ∈ np_gw := np_gwi 2060 (by decide +kernel) rfl
theorem gw2061 : (Jvm.Cond.static ({ cls := "NotationPressModel", name := "isFile", desc := "(I)Z" } : Jvm.MethodName)) ∈ np_gw := np_gwi 2061 (by decide +kernel) rfl
theorem gw2062 : (Jvm.Cond.code ({ cls := "NotationPressModel", name := "isFile", desc := "(I)Z" } : Jvm.MethodName) prog_14_method_6_code (1 : Nat) (Option.some Jvm.ClassFile.FieldType.boolean)) ∈ np_gw := np_gwi 2062 (by decide +kernel) rfl
theorem gw2190 : (Jvm.Cond.methodLink "NotationPressModel" (440 : Nat) ({ cls := "NotationPressModel", name := "isRow", desc := "(II)Z" } : Jvm.MethodName)) ∈ np_gw := np_gwi 2190 (by decide +kernel) rfl
theorem gw2192 : (Jvm.Cond.instanceMethod ({ cls := "NotationPressModel", name := "isRow", desc := "(II)Z" } : Jvm.MethodName)) ∈ np_gw := np_gwi 2192 (by decide +kernel) rfl
theorem gw2193 : (Jvm.Cond.code ({ cls := "NotationPressModel", name := "isRow", desc := "(II)Z" } : Jvm.MethodName) prog_14_method_82_code (3 : Nat) (Option.some Jvm.ClassFile.FieldType.boolean)) ∈ np_gw := np_gwi 2193 (by decide +kernel) rfl
theorem dX2_tellsSlot_0 : decode cX2_tellsSlot 0 = .ok (.iload_n 0, 1) := by decide +kernel
theorem dX2_tellsSlot_1 : decode cX2_tellsSlot 1 = .ok (.ifCond .lt 23, 3) := by decide +kernel
theorem dX2_tellsSlot_4 : decode cX2_tellsSlot 4 = .ok (.iload_n 0, 1) := by decide +kernel
theorem dX2_tellsSlot_5 : decode cX2_tellsSlot 5 = .ok (.bipush 9, 2) := by decide +kernel
theorem dX2_tellsSlot_7 : decode cX2_tellsSlot 7 = .ok (.if_icmp .gt 17, 3) := by decide +kernel
theorem dX2_tellsSlot_10 : decode cX2_tellsSlot 10 = .ok (.iload_n 0, 1) := by decide +kernel
theorem dX2_tellsSlot_11 : decode cX2_tellsSlot 11 = .ok (.iconst 4, 1) := by decide +kernel
theorem dX2_tellsSlot_12 : decode cX2_tellsSlot 12 = .ok (.if_icmp .eq 12, 3) := by decide +kernel
theorem dX2_tellsSlot_15 : decode cX2_tellsSlot 15 = .ok (.iload_n 0, 1) := by decide +kernel
theorem dX2_tellsSlot_16 : decode cX2_tellsSlot 16 = .ok (.iconst 5, 1) := by decide +kernel
theorem dX2_tellsSlot_17 : decode cX2_tellsSlot 17 = .ok (.if_icmp .eq 7, 3) := by decide +kernel
theorem dX2_tellsSlot_20 : decode cX2_tellsSlot 20 = .ok (.iconst 1, 1) := by decide +kernel
theorem dX2_tellsSlot_21 : decode cX2_tellsSlot 21 = .ok (.goto 4, 3) := by decide +kernel
theorem dX2_tellsSlot_24 : decode cX2_tellsSlot 24 = .ok (.iconst 0, 1) := by decide +kernel
theorem dX2_tellsSlot_25 : decode cX2_tellsSlot 25 = .ok (.ireturn, 1) := by decide +kernel
def is_X2_tellsSlot (Rt : np_Rt) : List (Nat × np_Op) := [(0, np_ild 1 0), (1, nq_if (fun x => x < 0) 24), (4, np_ild 1 0), (5, np_push 2 (.int 9)), (7, nq_ic (fun x y => y < x) 24), (10, np_ild 1 0), (11, np_push 1 (.int 4)), (12, nq_ic (fun x y => x = y) 24), (15, np_ild 1 0), (16, np_push 1 (.int 5)), (17, nq_ic (fun x y => x = y) 24), (20, np_push 1 (.int 1)), (21, np_goto 25), (24, np_push 1 (.int 0)), (25, np_ret Rt)]
set_option maxRecDepth 20000 in
theorem so_X2_tellsSlot {X : np_Ctx} {Rt : np_Rt} (hX : np_ok RX2 cX2_tellsSlot 1 0 0 0 0 .ireturn X) (hR : ∀ st w ce sl, Rt st w ce sl → X.2.2.1 st w ce sl) : ∀ q ∈ is_X2_tellsSlot Rt, np_S X q.1 q.2 :=
  List.forall_mem_cons.mpr ⟨np_s_iload_n hX dX2_tellsSlot_0 rfl, List.forall_mem_cons.mpr ⟨np_S.mono (op := np_if (fun x => x < 0) 24) (np_s_if_lt hX dX2_tellsSlot_1 (by decide)) nq_if_le, List.forall_mem_cons.mpr ⟨np_s_iload_n hX dX2_tellsSlot_4 rfl, List.forall_mem_cons.mpr ⟨np_s_bipush hX dX2_tellsSlot_5 (by decide), List.forall_mem_cons.mpr ⟨np_S.mono (op := np_ic (fun x y => y < x) 24) (np_s_icmp_gt hX dX2_tellsSlot_7 (by decide)) nq_ic_le, List.forall_mem_cons.mpr ⟨np_s_iload_n hX dX2_tellsSlot_10 rfl, List.forall_mem_cons.mpr ⟨np_s_iconst hX dX2_tellsSlot_11 (by decide), List.forall_mem_cons.mpr ⟨np_S.mono (op := np_ic (fun x y => x = y) 24) (np_s_icmp_eq hX dX2_tellsSlot_12 (by decide)) nq_ic_le, List.forall_mem_cons.mpr ⟨np_s_iload_n hX dX2_tellsSlot_15 rfl, List.forall_mem_cons.mpr ⟨np_s_iconst hX dX2_tellsSlot_16 (by decide), List.forall_mem_cons.mpr ⟨np_S.mono (op := np_ic (fun x y => x = y) 24) (np_s_icmp_eq hX dX2_tellsSlot_17 (by decide)) nq_ic_le, List.forall_mem_cons.mpr ⟨np_s_iconst hX dX2_tellsSlot_20 (by decide), List.forall_mem_cons.mpr ⟨np_s_goto hX dX2_tellsSlot_21 (by decide), List.forall_mem_cons.mpr ⟨np_s_iconst hX dX2_tellsSlot_24 (by decide), List.forall_mem_cons.mpr ⟨np_S.mono (op := np_ret X.2.2.1) (np_s_ret hX dX2_tellsSlot_25) (nq_ret_le hR), fun _ h => nomatch h⟩⟩⟩⟩⟩⟩⟩⟩⟩⟩⟩⟩⟩⟩⟩
abbrev sp_X2_tellsSlot : np_Sp := nq_in is_X2_tellsSlot (some .boolean) 0 0 400
theorem C_X2_tellsSlot : np_C yX2_tellsSlot cX2_tellsSlot 1 (some .boolean) 0 0 0 0 sp_X2_tellsSlot := nq_inC 400 (by decide) (fun X Rt hX hmn hR => so_X2_tellsSlot hX hR)
theorem dX11_isSlot_0 : decode cX11_isSlot 0 = .ok (.iload_n 0, 1) := by decide +kernel
theorem dX11_isSlot_1 : decode cX11_isSlot 1 = .ok (.ifCond .lt 13, 3) := by decide +kernel
theorem dX11_isSlot_4 : decode cX11_isSlot 4 = .ok (.iload_n 0, 1) := by decide +kernel
theorem dX11_isSlot_5 : decode cX11_isSlot 5 = .ok (.bipush 8, 2) := by decide +kernel
theorem dX11_isSlot_7 : decode cX11_isSlot 7 = .ok (.if_icmp .ge 7, 3) := by decide +kernel
theorem dX11_isSlot_10 : decode cX11_isSlot 10 = .ok (.iconst 1, 1) := by decide +kernel
theorem dX11_isSlot_11 : decode cX11_isSlot 11 = .ok (.goto 4, 3) := by decide +kernel
theorem dX11_isSlot_14 : decode cX11_isSlot 14 = .ok (.iconst 0, 1) := by decide +kernel
theorem dX11_isSlot_15 : decode cX11_isSlot 15 = .ok (.ireturn, 1) := by decide +kernel
def is_X11_isSlot (Rt : np_Rt) : List (Nat × np_Op) := [(0, np_ild 1 0), (1, nq_if (fun x => x < 0) 14), (4, np_ild 1 0), (5, np_push 2 (.int 8)), (7, nq_ic (fun x y => y ≤ x) 14), (10, np_push 1 (.int 1)), (11, np_goto 15), (14, np_push 1 (.int 0)), (15, np_ret Rt)]
set_option maxRecDepth 20000 in
theorem so_X11_isSlot {X : np_Ctx} {Rt : np_Rt} (hX : np_ok RX11 cX11_isSlot 1 0 0 0 0 .ireturn X) (hR : ∀ st w ce sl, Rt st w ce sl → X.2.2.1 st w ce sl) : ∀ q ∈ is_X11_isSlot Rt, np_S X q.1 q.2 :=
  List.forall_mem_cons.mpr ⟨np_s_iload_n hX dX11_isSlot_0 rfl, List.forall_mem_cons.mpr ⟨np_S.mono (op := np_if (fun x => x < 0) 14) (np_s_if_lt hX dX11_isSlot_1 (by decide)) nq_if_le, List.forall_mem_cons.mpr ⟨np_s_iload_n hX dX11_isSlot_4 rfl, List.forall_mem_cons.mpr ⟨np_s_bipush hX dX11_isSlot_5 (by decide), List.forall_mem_cons.mpr ⟨np_S.mono (op := np_ic (fun x y => y ≤ x) 14) (np_s_icmp_ge hX dX11_isSlot_7 (by decide)) nq_ic_le, List.forall_mem_cons.mpr ⟨np_s_iconst hX dX11_isSlot_10 (by decide), List.forall_mem_cons.mpr ⟨np_s_goto hX dX11_isSlot_11 (by decide), List.forall_mem_cons.mpr ⟨np_s_iconst hX dX11_isSlot_14 (by decide), List.forall_mem_cons.mpr ⟨np_S.mono (op := np_ret X.2.2.1) (np_s_ret hX dX11_isSlot_15) (nq_ret_le hR), fun _ h => nomatch h⟩⟩⟩⟩⟩⟩⟩⟩⟩
abbrev sp_X11_isSlot : np_Sp := nq_in is_X11_isSlot (some .boolean) 0 0 400
theorem C_X11_isSlot : np_C yX11_isSlot cX11_isSlot 1 (some .boolean) 0 0 0 0 sp_X11_isSlot := nq_inC 400 (by decide) (fun X Rt hX hmn hR => so_X11_isSlot hX hR)
theorem dX11_isBetween_0 : decode cX11_isBetween 0 = .ok (.iload_n 0, 1) := by decide +kernel
theorem dX11_isBetween_1 : decode cX11_isBetween 1 = .ok (.iload_n 1, 1) := by decide +kernel
theorem dX11_isBetween_2 : decode cX11_isBetween 2 = .ok (.if_icmp .lt 12, 3) := by decide +kernel
theorem dX11_isBetween_5 : decode cX11_isBetween 5 = .ok (.iload_n 0, 1) := by decide +kernel
theorem dX11_isBetween_6 : decode cX11_isBetween 6 = .ok (.iload_n 2, 1) := by decide +kernel
theorem dX11_isBetween_7 : decode cX11_isBetween 7 = .ok (.if_icmp .gt 7, 3) := by decide +kernel
theorem dX11_isBetween_10 : decode cX11_isBetween 10 = .ok (.iconst 1, 1) := by decide +kernel
theorem dX11_isBetween_11 : decode cX11_isBetween 11 = .ok (.goto 4, 3) := by decide +kernel
theorem dX11_isBetween_14 : decode cX11_isBetween 14 = .ok (.iconst 0, 1) := by decide +kernel
theorem dX11_isBetween_15 : decode cX11_isBetween 15 = .ok (.ireturn, 1) := by decide +kernel
def is_X11_isBetween (Rt : np_Rt) : List (Nat × np_Op) := [(0, np_ild 1 0), (1, np_ild 1 1), (2, nq_ic (fun x y => x < y) 14), (5, np_ild 1 0), (6, np_ild 1 2), (7, nq_ic (fun x y => y < x) 14), (10, np_push 1 (.int 1)), (11, np_goto 15), (14, np_push 1 (.int 0)), (15, np_ret Rt)]
set_option maxRecDepth 20000 in
theorem so_X11_isBetween {X : np_Ctx} {Rt : np_Rt} (hX : np_ok RX11 cX11_isBetween 3 0 0 0 0 .ireturn X) (hR : ∀ st w ce sl, Rt st w ce sl → X.2.2.1 st w ce sl) : ∀ q ∈ is_X11_isBetween Rt, np_S X q.1 q.2 :=
  List.forall_mem_cons.mpr ⟨np_s_iload_n hX dX11_isBetween_0 rfl, List.forall_mem_cons.mpr ⟨np_s_iload_n hX dX11_isBetween_1 rfl, List.forall_mem_cons.mpr ⟨np_S.mono (op := np_ic (fun x y => x < y) 14) (np_s_icmp_lt hX dX11_isBetween_2 (by decide)) nq_ic_le, List.forall_mem_cons.mpr ⟨np_s_iload_n hX dX11_isBetween_5 rfl, List.forall_mem_cons.mpr ⟨np_s_iload_n hX dX11_isBetween_6 rfl, List.forall_mem_cons.mpr ⟨np_S.mono (op := np_ic (fun x y => y < x) 14) (np_s_icmp_gt hX dX11_isBetween_7 (by decide)) nq_ic_le, List.forall_mem_cons.mpr ⟨np_s_iconst hX dX11_isBetween_10 (by decide), List.forall_mem_cons.mpr ⟨np_s_goto hX dX11_isBetween_11 (by decide), List.forall_mem_cons.mpr ⟨np_s_iconst hX dX11_isBetween_14 (by decide), List.forall_mem_cons.mpr ⟨np_S.mono (op := np_ret X.2.2.1) (np_s_ret hX dX11_isBetween_15) (nq_ret_le hR), fun _ h => nomatch h⟩⟩⟩⟩⟩⟩⟩⟩⟩⟩
abbrev sp_X11_isBetween : np_Sp := nq_in is_X11_isBetween (some .boolean) 0 0 400
theorem C_X11_isBetween : np_C yX11_isBetween cX11_isBetween 3 (some .boolean) 0 0 0 0 sp_X11_isBetween := nq_inC 400 (by decide) (fun X Rt hX hmn hR => so_X11_isBetween hX hR)
theorem dX2_inRange_0 : decode cX2_inRange 0 = .ok (.iload_n 0, 1) := by decide +kernel
theorem dX2_inRange_1 : decode cX2_inRange 1 = .ok (.tableswitch 260 0 9 #[55, 93, 118, 139, 159, 177, 246, 202, 221, 246], 55) := by decide +kernel
theorem dX2_inRange_56 : decode cX2_inRange 56 = .ok (.iload_n 2, 1) := by decide +kernel
theorem dX2_inRange_57 : decode cX2_inRange 57 = .ok (.iconst 1, 1) := by decide +kernel
theorem dX2_inRange_58 : decode cX2_inRange 58 = .ok (.bipush 8, 2) := by decide +kernel
theorem dX2_inRange_60 : decode cX2_inRange 60 = .ok (.invokestatic 24, 3) := by decide +kernel
theorem dX2_inRange_63 : decode cX2_inRange 63 = .ok (.ifCond .eq 29, 3) := by decide +kernel
theorem dX2_inRange_66 : decode cX2_inRange 66 = .ok (.iload_n 3, 1) := by decide +kernel
theorem dX2_inRange_67 : decode cX2_inRange 67 = .ok (.iconst 0, 1) := by decide +kernel
theorem dX2_inRange_68 : decode cX2_inRange 68 = .ok (.bipush 8, 2) := by decide +kernel
theorem dX2_inRange_70 : decode cX2_inRange 70 = .ok (.invokestatic 24, 3) := by decide +kernel
theorem dX2_inRange_73 : decode cX2_inRange 73 = .ok (.ifCond .eq 19, 3) := by decide +kernel
theorem dX2_inRange_76 : decode cX2_inRange 76 = .ok (.iload_n 3, 1) := by decide +kernel
theorem dX2_inRange_77 : decode cX2_inRange 77 = .ok (.iconst 3, 1) := by decide +kernel
theorem dX2_inRange_78 : decode cX2_inRange 78 = .ok (.if_icmp .lt 10, 3) := by decide +kernel
theorem dX2_inRange_81 : decode cX2_inRange 81 = .ok (.iload_n 3, 1) := by decide +kernel
theorem dX2_inRange_82 : decode cX2_inRange 82 = .ok (.iconst 3, 1) := by decide +kernel
theorem dX2_inRange_83 : decode cX2_inRange 83 = .ok (.irem, 1) := by decide +kernel
theorem dX2_inRange_84 : decode cX2_inRange 84 = .ok (.iconst 1, 1) := by decide +kernel
theorem dX2_inRange_85 : decode cX2_inRange 85 = .ok (.if_icmp .eq 7, 3) := by decide +kernel
theorem dX2_inRange_88 : decode cX2_inRange 88 = .ok (.iconst 1, 1) := by decide +kernel
theorem dX2_inRange_89 : decode cX2_inRange 89 = .ok (.goto 4, 3) := by decide +kernel
theorem dX2_inRange_92 : decode cX2_inRange 92 = .ok (.iconst 0, 1) := by decide +kernel
theorem dX2_inRange_93 : decode cX2_inRange 93 = .ok (.ireturn, 1) := by decide +kernel
theorem dX2_inRange_94 : decode cX2_inRange 94 = .ok (.iload_n 2, 1) := by decide +kernel
theorem dX2_inRange_95 : decode cX2_inRange 95 = .ok (.iconst 1, 1) := by decide +kernel
theorem dX2_inRange_96 : decode cX2_inRange 96 = .ok (.bipush 9, 2) := by decide +kernel
theorem dX2_inRange_98 : decode cX2_inRange 98 = .ok (.invokestatic 24, 3) := by decide +kernel
theorem dX2_inRange_101 : decode cX2_inRange 101 = .ok (.ifCond .eq 16, 3) := by decide +kernel
theorem dX2_inRange_104 : decode cX2_inRange 104 = .ok (.iload_n 3, 1) := by decide +kernel
theorem dX2_inRange_105 : decode cX2_inRange 105 = .ok (.iconst 0, 1) := by decide +kernel
theorem dX2_inRange_106 : decode cX2_inRange 106 = .ok (.iconst 2, 1) := by decide +kernel
theorem dX2_inRange_107 : decode cX2_inRange 107 = .ok (.invokestatic 24, 3) := by decide +kernel
theorem dX2_inRange_110 : decode cX2_inRange 110 = .ok (.ifCond .eq 7, 3) := by decide +kernel
theorem dX2_inRange_113 : decode cX2_inRange 113 = .ok (.iconst 1, 1) := by decide +kernel
theorem dX2_inRange_114 : decode cX2_inRange 114 = .ok (.goto 4, 3) := by decide +kernel
theorem dX2_inRange_117 : decode cX2_inRange 117 = .ok (.iconst 0, 1) := by decide +kernel
theorem dX2_inRange_118 : decode cX2_inRange 118 = .ok (.ireturn, 1) := by decide +kernel
theorem dX2_inRange_119 : decode cX2_inRange 119 = .ok (.iload_n 2, 1) := by decide +kernel
theorem dX2_inRange_120 : decode cX2_inRange 120 = .ok (.bipush 33, 2) := by decide +kernel
theorem dX2_inRange_122 : decode cX2_inRange 122 = .ok (.bipush 126, 2) := by decide +kernel
theorem dX2_inRange_124 : decode cX2_inRange 124 = .ok (.invokestatic 24, 3) := by decide +kernel
theorem dX2_inRange_127 : decode cX2_inRange 127 = .ok (.ifCond .eq 11, 3) := by decide +kernel
theorem dX2_inRange_130 : decode cX2_inRange 130 = .ok (.iload_n 3, 1) := by decide +kernel
theorem dX2_inRange_131 : decode cX2_inRange 131 = .ok (.ifCond .ne 7, 3) := by decide +kernel
theorem dX2_inRange_134 : decode cX2_inRange 134 = .ok (.iconst 1, 1) := by decide +kernel
theorem dX2_inRange_135 : decode cX2_inRange 135 = .ok (.goto 4, 3) := by decide +kernel
theorem dX2_inRange_138 : decode cX2_inRange 138 = .ok (.iconst 0, 1) := by decide +kernel
theorem dX2_inRange_139 : decode cX2_inRange 139 = .ok (.ireturn, 1) := by decide +kernel
theorem dX2_inRange_140 : decode cX2_inRange 140 = .ok (.iload_n 2, 1) := by decide +kernel
theorem dX2_inRange_141 : decode cX2_inRange 141 = .ok (.iconst 1, 1) := by decide +kernel
theorem dX2_inRange_142 : decode cX2_inRange 142 = .ok (.bipush 8, 2) := by decide +kernel
theorem dX2_inRange_144 : decode cX2_inRange 144 = .ok (.invokestatic 24, 3) := by decide +kernel
theorem dX2_inRange_147 : decode cX2_inRange 147 = .ok (.ifCond .eq 11, 3) := by decide +kernel
theorem dX2_inRange_150 : decode cX2_inRange 150 = .ok (.iload_n 3, 1) := by decide +kernel
theorem dX2_inRange_151 : decode cX2_inRange 151 = .ok (.ifCond .ne 7, 3) := by decide +kernel
theorem dX2_inRange_154 : decode cX2_inRange 154 = .ok (.iconst 1, 1) := by decide +kernel
theorem dX2_inRange_155 : decode cX2_inRange 155 = .ok (.goto 4, 3) := by decide +kernel
theorem dX2_inRange_158 : decode cX2_inRange 158 = .ok (.iconst 0, 1) := by decide +kernel
theorem dX2_inRange_159 : decode cX2_inRange 159 = .ok (.ireturn, 1) := by decide +kernel
theorem dX2_inRange_160 : decode cX2_inRange 160 = .ok (.iload_n 1, 1) := by decide +kernel
theorem dX2_inRange_161 : decode cX2_inRange 161 = .ok (.ifCond .ne 15, 3) := by decide +kernel
theorem dX2_inRange_164 : decode cX2_inRange 164 = .ok (.iload_n 2, 1) := by decide +kernel
theorem dX2_inRange_165 : decode cX2_inRange 165 = .ok (.ifCond .ne 11, 3) := by decide +kernel
theorem dX2_inRange_168 : decode cX2_inRange 168 = .ok (.iload_n 3, 1) := by decide +kernel
theorem dX2_inRange_169 : decode cX2_inRange 169 = .ok (.ifCond .ne 7, 3) := by decide +kernel
theorem dX2_inRange_172 : decode cX2_inRange 172 = .ok (.iconst 1, 1) := by decide +kernel
theorem dX2_inRange_173 : decode cX2_inRange 173 = .ok (.goto 4, 3) := by decide +kernel
theorem dX2_inRange_176 : decode cX2_inRange 176 = .ok (.iconst 0, 1) := by decide +kernel
theorem dX2_inRange_177 : decode cX2_inRange 177 = .ok (.ireturn, 1) := by decide +kernel
theorem dX2_inRange_178 : decode cX2_inRange 178 = .ok (.iload_n 1, 1) := by decide +kernel
theorem dX2_inRange_179 : decode cX2_inRange 179 = .ok (.bipush 32, 2) := by decide +kernel
theorem dX2_inRange_181 : decode cX2_inRange 181 = .ok (.bipush 126, 2) := by decide +kernel
theorem dX2_inRange_183 : decode cX2_inRange 183 = .ok (.invokestatic 24, 3) := by decide +kernel
theorem dX2_inRange_186 : decode cX2_inRange 186 = .ok (.ifCond .eq 15, 3) := by decide +kernel
theorem dX2_inRange_189 : decode cX2_inRange 189 = .ok (.iload_n 2, 1) := by decide +kernel
theorem dX2_inRange_190 : decode cX2_inRange 190 = .ok (.ifCond .ne 11, 3) := by decide +kernel
theorem dX2_inRange_193 : decode cX2_inRange 193 = .ok (.iload_n 3, 1) := by decide +kernel
theorem dX2_inRange_194 : decode cX2_inRange 194 = .ok (.ifCond .ne 7, 3) := by decide +kernel
theorem dX2_inRange_197 : decode cX2_inRange 197 = .ok (.iconst 1, 1) := by decide +kernel
theorem dX2_inRange_198 : decode cX2_inRange 198 = .ok (.goto 4, 3) := by decide +kernel
theorem dX2_inRange_201 : decode cX2_inRange 201 = .ok (.iconst 0, 1) := by decide +kernel
theorem dX2_inRange_202 : decode cX2_inRange 202 = .ok (.ireturn, 1) := by decide +kernel
theorem dX2_inRange_203 : decode cX2_inRange 203 = .ok (.iload_n 2, 1) := by decide +kernel
theorem dX2_inRange_204 : decode cX2_inRange 204 = .ok (.iconst 1, 1) := by decide +kernel
theorem dX2_inRange_205 : decode cX2_inRange 205 = .ok (.iconst 3, 1) := by decide +kernel
theorem dX2_inRange_206 : decode cX2_inRange 206 = .ok (.invokestatic 24, 3) := by decide +kernel
theorem dX2_inRange_209 : decode cX2_inRange 209 = .ok (.ifCond .eq 11, 3) := by decide +kernel
theorem dX2_inRange_212 : decode cX2_inRange 212 = .ok (.iload_n 3, 1) := by decide +kernel
theorem dX2_inRange_213 : decode cX2_inRange 213 = .ok (.ifCond .ne 7, 3) := by decide +kernel
theorem dX2_inRange_216 : decode cX2_inRange 216 = .ok (.iconst 1, 1) := by decide +kernel
theorem dX2_inRange_217 : decode cX2_inRange 217 = .ok (.goto 4, 3) := by decide +kernel
theorem dX2_inRange_220 : decode cX2_inRange 220 = .ok (.iconst 0, 1) := by decide +kernel
theorem dX2_inRange_221 : decode cX2_inRange 221 = .ok (.ireturn, 1) := by decide +kernel
theorem dX2_inRange_222 : decode cX2_inRange 222 = .ok (.iload_n 2, 1) := by decide +kernel
theorem dX2_inRange_223 : decode cX2_inRange 223 = .ok (.iconst 1, 1) := by decide +kernel
theorem dX2_inRange_224 : decode cX2_inRange 224 = .ok (.iconst 3, 1) := by decide +kernel
theorem dX2_inRange_225 : decode cX2_inRange 225 = .ok (.invokestatic 24, 3) := by decide +kernel
theorem dX2_inRange_228 : decode cX2_inRange 228 = .ok (.ifCond .eq 17, 3) := by decide +kernel
theorem dX2_inRange_231 : decode cX2_inRange 231 = .ok (.iload_n 3, 1) := by decide +kernel
theorem dX2_inRange_232 : decode cX2_inRange 232 = .ok (.iconst 0, 1) := by decide +kernel
theorem dX2_inRange_233 : decode cX2_inRange 233 = .ok (.bipush 99, 2) := by decide +kernel
theorem dX2_inRange_235 : decode cX2_inRange 235 = .ok (.invokestatic 24, 3) := by decide +kernel
theorem dX2_inRange_238 : decode cX2_inRange 238 = .ok (.ifCond .eq 7, 3) := by decide +kernel
theorem dX2_inRange_241 : decode cX2_inRange 241 = .ok (.iconst 1, 1) := by decide +kernel
theorem dX2_inRange_242 : decode cX2_inRange 242 = .ok (.goto 4, 3) := by decide +kernel
theorem dX2_inRange_245 : decode cX2_inRange 245 = .ok (.iconst 0, 1) := by decide +kernel
theorem dX2_inRange_246 : decode cX2_inRange 246 = .ok (.ireturn, 1) := by decide +kernel
theorem dX2_inRange_247 : decode cX2_inRange 247 = .ok (.iload_n 2, 1) := by decide +kernel
theorem dX2_inRange_248 : decode cX2_inRange 248 = .ok (.ifCond .ne 11, 3) := by decide +kernel
theorem dX2_inRange_251 : decode cX2_inRange 251 = .ok (.iload_n 3, 1) := by decide +kernel
theorem dX2_inRange_252 : decode cX2_inRange 252 = .ok (.ifCond .ne 7, 3) := by decide +kernel
theorem dX2_inRange_255 : decode cX2_inRange 255 = .ok (.iconst 1, 1) := by decide +kernel
theorem dX2_inRange_256 : decode cX2_inRange 256 = .ok (.goto 4, 3) := by decide +kernel
theorem dX2_inRange_259 : decode cX2_inRange 259 = .ok (.iconst 0, 1) := by decide +kernel
theorem dX2_inRange_260 : decode cX2_inRange 260 = .ok (.ireturn, 1) := by decide +kernel
theorem dX2_inRange_261 : decode cX2_inRange 261 = .ok (.iconst 0, 1) := by decide +kernel
theorem dX2_inRange_262 : decode cX2_inRange 262 = .ok (.ireturn, 1) := by decide +kernel
def is_X2_inRange (Rt : np_Rt) : List (Nat × np_Op) := [(0, np_ild 1 0), (1, nq_tsw (0) [56, 94, 119, 140, 160, 178, 247, 203, 222, 247] 261), (56, np_ild 1 2), (57, np_push 1 (.int 1)), (58, np_push 2 (.int 8)), (60, nq_call 3 sp_X11_isBetween 3 0 0 0 0), (63, nq_if (fun x => x = 0) 92), (66, np_ild 1 3), (67, np_push 1 (.int 0)), (68, np_push 2 (.int 8)), (70, nq_call 3 sp_X11_isBetween 3 0 0 0 0), (73, nq_if (fun x => x = 0) 92), (76, np_ild 1 3), (77, np_push 1 (.int 3)), (78, nq_ic (fun x y => x < y) 88), (81, np_ild 1 3), (82, np_push 1 (.int 3)), (83, nq_ibn (fun x y => x - x / y * y)), (84, np_push 1 (.int 1)), (85, nq_ic (fun x y => x = y) 92), (88, np_push 1 (.int 1)), (89, np_goto 93), (92, np_push 1 (.int 0)), (93, np_ret Rt), (94, np_ild 1 2), (95, np_push 1 (.int 1)), (96, np_push 2 (.int 9)), (98, nq_call 3 sp_X11_isBetween 3 0 0 0 0), (101, nq_if (fun x => x = 0) 117), (104, np_ild 1 3), (105, np_push 1 (.int 0)), (106, np_push 1 (.int 2)), (107, nq_call 3 sp_X11_isBetween 3 0 0 0 0), (110, nq_if (fun x => x = 0) 117), (113, np_push 1 (.int 1)), (114, np_goto 118), (117, np_push 1 (.int 0)), (118, np_ret Rt), (119, np_ild 1 2), (120, np_push 2 (.int 33)), (122, np_push 2 (.int 126)), (124, nq_call 3 sp_X11_isBetween 3 0 0 0 0), (127, nq_if (fun x => x = 0) 138), (130, np_ild 1 3), (131, nq_ifne 138), (134, np_push 1 (.int 1)), (135, np_goto 139), (138, np_push 1 (.int 0)), (139, np_ret Rt), (140, np_ild 1 2), (141, np_push 1 (.int 1)), (142, np_push 2 (.int 8)), (144, nq_call 3 sp_X11_isBetween 3 0 0 0 0), (147, nq_if (fun x => x = 0) 158), (150, np_ild 1 3), (151, nq_ifne 158), (154, np_push 1 (.int 1)), (155, np_goto 159), (158, np_push 1 (.int 0)), (159, np_ret Rt), (160, np_ild 1 1), (161, nq_ifne 176), (164, np_ild 1 2), (165, nq_ifne 176), (168, np_ild 1 3), (169, nq_ifne 176), (172, np_push 1 (.int 1)), (173, np_goto 177), (176, np_push 1 (.int 0)), (177, np_ret Rt), (178, np_ild 1 1), (179, np_push 2 (.int 32)), (181, np_push 2 (.int 126)), (183, nq_call 3 sp_X11_isBetween 3 0 0 0 0), (186, nq_if (fun x => x = 0) 201), (189, np_ild 1 2), (190, nq_ifne 201), (193, np_ild 1 3), (194, nq_ifne 201), (197, np_push 1 (.int 1)), (198, np_goto 202), (201, np_push 1 (.int 0)), (202, np_ret Rt), (203, np_ild 1 2), (204, np_push 1 (.int 1)), (205, np_push 1 (.int 3)), (206, nq_call 3 sp_X11_isBetween 3 0 0 0 0), (209, nq_if (fun x => x = 0) 220), (212, np_ild 1 3), (213, nq_ifne 220), (216, np_push 1 (.int 1)), (217, np_goto 221), (220, np_push 1 (.int 0)), (221, np_ret Rt), (222, np_ild 1 2), (223, np_push 1 (.int 1)), (224, np_push 1 (.int 3)), (225, nq_call 3 sp_X11_isBetween 3 0 0 0 0), (228, nq_if (fun x => x = 0) 245), (231, np_ild 1 3), (232, np_push 1 (.int 0)), (233, np_push 2 (.int 99)), (235, nq_call 3 sp_X11_isBetween 3 0 0 0 0), (238, nq_if (fun x => x = 0) 245), (241, np_push 1 (.int 1)), (242, np_goto 246), (245, np_push 1 (.int 0)), (246, np_ret Rt), (247, np_ild 1 2), (248, nq_ifne 259), (251, np_ild 1 3), (252, nq_ifne 259), (255, np_push 1 (.int 1)), (256, np_goto 260), (259, np_push 1 (.int 0)), (260, np_ret Rt), (261, np_push 1 (.int 0)), (262, np_ret Rt)]
set_option maxRecDepth 20000 in
theorem so_X2_inRange {X : np_Ctx} {Rt : np_Rt} (hX : np_ok RX2 cX2_inRange 4 1 22 0 0 .ireturn X) (hR : ∀ st w ce sl, Rt st w ce sl → X.2.2.1 st w ce sl) : ∀ q ∈ is_X2_inRange Rt, np_S X q.1 q.2 :=
  List.forall_mem_cons.mpr ⟨np_s_iload_n hX dX2_inRange_0 rfl, List.forall_mem_cons.mpr ⟨np_S.mono (op := np_tsw (0) (9) [56, 94, 119, 140, 160, 178, 247, 203, 222, 247] 261) (np_s_tsw hX dX2_inRange_1 (by decide) (by decide) (by decide)) (nq_tsw_le (by decide)), List.forall_mem_cons.mpr ⟨np_s_iload_n hX dX2_inRange_56 rfl, List.forall_mem_cons.mpr ⟨np_s_iconst hX dX2_inRange_57 (by decide), List.forall_mem_cons.mpr ⟨np_s_bipush hX dX2_inRange_58 (by decide), List.forall_mem_cons.mpr ⟨np_S.mono (op := np_call 3 sp_X11_isBetween 3 0 0 0 0) (np_s_callSN hX C_X11_isBetween dX2_inRange_60 gw646 gw130 gw644 gw645 ⟨by decide, by decide, by decide⟩ (by decide) (by decide)) nq_call_le, List.forall_mem_cons.mpr ⟨np_S.mono (op := np_if (fun x => x = 0) 92) (np_s_if_eq hX dX2_inRange_63 (by decide)) nq_if_le, List.forall_mem_cons.mpr ⟨np_s_iload_n hX dX2_inRange_66 rfl, List.forall_mem_cons.mpr ⟨np_s_iconst hX dX2_inRange_67 (by decide), List.forall_mem_cons.mpr ⟨np_s_bipush hX dX2_inRange_68 (by decide), List.forall_mem_cons.mpr ⟨np_S.mono (op := np_call 3 sp_X11_isBetween 3 0 0 0 0) (np_s_callSN hX C_X11_isBetween dX2_inRange_70 gw646 gw130 gw644 gw645 ⟨by decide, by decide, by decide⟩ (by decide) (by decide)) nq_call_le, List.forall_mem_cons.mpr ⟨np_S.mono (op := np_if (fun x => x = 0) 92) (np_s_if_eq hX dX2_inRange_73 (by decide)) nq_if_le, List.forall_mem_cons.mpr ⟨np_s_iload_n hX dX2_inRange_76 rfl, List.forall_mem_cons.mpr ⟨np_s_iconst hX dX2_inRange_77 (by decide), List.forall_mem_cons.mpr ⟨np_S.mono (op := np_ic (fun x y => x < y) 88) (np_s_icmp_lt hX dX2_inRange_78 (by decide)) nq_ic_le, List.forall_mem_cons.mpr ⟨np_s_iload_n hX dX2_inRange_81 rfl, List.forall_mem_cons.mpr ⟨np_s_iconst hX dX2_inRange_82 (by decide), List.forall_mem_cons.mpr ⟨np_S.mono (op := np_ibn (fun x y => x - x / y * y)) (np_s_irem hX dX2_inRange_83) nq_ibn_le, List.forall_mem_cons.mpr ⟨np_s_iconst hX dX2_inRange_84 (by decide), List.forall_mem_cons.mpr ⟨np_S.mono (op := np_ic (fun x y => x = y) 92) (np_s_icmp_eq hX dX2_inRange_85 (by decide)) nq_ic_le, List.forall_mem_cons.mpr ⟨np_s_iconst hX dX2_inRange_88 (by decide), List.forall_mem_cons.mpr ⟨np_s_goto hX dX2_inRange_89 (by decide), List.forall_mem_cons.mpr ⟨np_s_iconst hX dX2_inRange_92 (by decide), List.forall_mem_cons.mpr ⟨np_S.mono (op := np_ret X.2.2.1) (np_s_ret hX dX2_inRange_93) (nq_ret_le hR), List.forall_mem_cons.mpr ⟨np_s_iload_n hX dX2_inRange_94 rfl, List.forall_mem_cons.mpr ⟨np_s_iconst hX dX2_inRange_95 (by decide), List.forall_mem_cons.mpr ⟨np_s_bipush hX dX2_inRange_96 (by decide), List.forall_mem_cons.mpr ⟨np_S.mono (op := np_call 3 sp_X11_isBetween 3 0 0 0 0) (np_s_callSN hX C_X11_isBetween dX2_inRange_98 gw646 gw130 gw644 gw645 ⟨by decide, by decide, by decide⟩ (by decide) (by decide)) nq_call_le, List.forall_mem_cons.mpr ⟨np_S.mono (op := np_if (fun x => x = 0) 117) (np_s_if_eq hX dX2_inRange_101 (by decide)) nq_if_le, List.forall_mem_cons.mpr ⟨np_s_iload_n hX dX2_inRange_104 rfl, List.forall_mem_cons.mpr ⟨np_s_iconst hX dX2_inRange_105 (by decide), List.forall_mem_cons.mpr ⟨np_s_iconst hX dX2_inRange_106 (by decide), List.forall_mem_cons.mpr ⟨np_S.mono (op := np_call 3 sp_X11_isBetween 3 0 0 0 0) (np_s_callSN hX C_X11_isBetween dX2_inRange_107 gw646 gw130 gw644 gw645 ⟨by decide, by decide, by decide⟩ (by decide) (by decide)) nq_call_le, List.forall_mem_cons.mpr ⟨np_S.mono (op := np_if (fun x => x = 0) 117) (np_s_if_eq hX dX2_inRange_110 (by decide)) nq_if_le, List.forall_mem_cons.mpr ⟨np_s_iconst hX dX2_inRange_113 (by decide), List.forall_mem_cons.mpr ⟨np_s_goto hX dX2_inRange_114 (by decide), List.forall_mem_cons.mpr ⟨np_s_iconst hX dX2_inRange_117 (by decide), List.forall_mem_cons.mpr ⟨np_S.mono (op := np_ret X.2.2.1) (np_s_ret hX dX2_inRange_118) (nq_ret_le hR), List.forall_mem_cons.mpr ⟨np_s_iload_n hX dX2_inRange_119 rfl, List.forall_mem_cons.mpr ⟨np_s_bipush hX dX2_inRange_120 (by decide), List.forall_mem_cons.mpr ⟨np_s_bipush hX dX2_inRange_122 (by decide), List.forall_mem_cons.mpr ⟨np_S.mono (op := np_call 3 sp_X11_isBetween 3 0 0 0 0) (np_s_callSN hX C_X11_isBetween dX2_inRange_124 gw646 gw130 gw644 gw645 ⟨by decide, by decide, by decide⟩ (by decide) (by decide)) nq_call_le, List.forall_mem_cons.mpr ⟨np_S.mono (op := np_if (fun x => x = 0) 138) (np_s_if_eq hX dX2_inRange_127 (by decide)) nq_if_le, List.forall_mem_cons.mpr ⟨np_s_iload_n hX dX2_inRange_130 rfl, List.forall_mem_cons.mpr ⟨np_S.mono (op := np_ifne 138) (np_s_if_ne hX dX2_inRange_131 (by decide)) nq_ifne_le, List.forall_mem_cons.mpr ⟨np_s_iconst hX dX2_inRange_134 (by decide), List.forall_mem_cons.mpr ⟨np_s_goto hX dX2_inRange_135 (by decide), List.forall_mem_cons.mpr ⟨np_s_iconst hX dX2_inRange_138 (by decide), List.forall_mem_cons.mpr ⟨np_S.mono (op := np_ret X.2.2.1) (np_s_ret hX dX2_inRange_139) (nq_ret_le hR), List.forall_mem_cons.mpr ⟨np_s_iload_n hX dX2_inRange_140 rfl, List.forall_mem_cons.mpr ⟨np_s_iconst hX dX2_inRange_141 (by decide), List.forall_mem_cons.mpr ⟨np_s_bipush hX dX2_inRange_142 (by decide), List.forall_mem_cons.mpr ⟨np_S.mono (op := np_call 3 sp_X11_isBetween 3 0 0 0 0) (np_s_callSN hX C_X11_isBetween dX2_inRange_144 gw646 gw130 gw644 gw645 ⟨by decide, by decide, by decide⟩ (by decide) (by decide)) nq_call_le, List.forall_mem_cons.mpr ⟨np_S.mono (op := np_if (fun x => x = 0) 158) (np_s_if_eq hX dX2_inRange_147 (by decide)) nq_if_le, List.forall_mem_cons.mpr ⟨np_s_iload_n hX dX2_inRange_150 rfl, List.forall_mem_cons.mpr ⟨np_S.mono (op := np_ifne 158) (np_s_if_ne hX dX2_inRange_151 (by decide)) nq_ifne_le, List.forall_mem_cons.mpr ⟨np_s_iconst hX dX2_inRange_154 (by decide), List.forall_mem_cons.mpr ⟨np_s_goto hX dX2_inRange_155 (by decide), List.forall_mem_cons.mpr ⟨np_s_iconst hX dX2_inRange_158 (by decide), List.forall_mem_cons.mpr ⟨np_S.mono (op := np_ret X.2.2.1) (np_s_ret hX dX2_inRange_159) (nq_ret_le hR), List.forall_mem_cons.mpr ⟨np_s_iload_n hX dX2_inRange_160 rfl, List.forall_mem_cons.mpr ⟨np_S.mono (op := np_ifne 176) (np_s_if_ne hX dX2_inRange_161 (by decide)) nq_ifne_le, List.forall_mem_cons.mpr ⟨np_s_iload_n hX dX2_inRange_164 rfl, List.forall_mem_cons.mpr ⟨np_S.mono (op := np_ifne 176) (np_s_if_ne hX dX2_inRange_165 (by decide)) nq_ifne_le, List.forall_mem_cons.mpr ⟨np_s_iload_n hX dX2_inRange_168 rfl, List.forall_mem_cons.mpr ⟨np_S.mono (op := np_ifne 176) (np_s_if_ne hX dX2_inRange_169 (by decide)) nq_ifne_le, List.forall_mem_cons.mpr ⟨np_s_iconst hX dX2_inRange_172 (by decide), List.forall_mem_cons.mpr ⟨np_s_goto hX dX2_inRange_173 (by decide), List.forall_mem_cons.mpr ⟨np_s_iconst hX dX2_inRange_176 (by decide), List.forall_mem_cons.mpr ⟨np_S.mono (op := np_ret X.2.2.1) (np_s_ret hX dX2_inRange_177) (nq_ret_le hR), List.forall_mem_cons.mpr ⟨np_s_iload_n hX dX2_inRange_178 rfl, List.forall_mem_cons.mpr ⟨np_s_bipush hX dX2_inRange_179 (by decide), List.forall_mem_cons.mpr ⟨np_s_bipush hX dX2_inRange_181 (by decide), List.forall_mem_cons.mpr ⟨np_S.mono (op := np_call 3 sp_X11_isBetween 3 0 0 0 0) (np_s_callSN hX C_X11_isBetween dX2_inRange_183 gw646 gw130 gw644 gw645 ⟨by decide, by decide, by decide⟩ (by decide) (by decide)) nq_call_le, List.forall_mem_cons.mpr ⟨np_S.mono (op := np_if (fun x => x = 0) 201) (np_s_if_eq hX dX2_inRange_186 (by decide)) nq_if_le, List.forall_mem_cons.mpr ⟨np_s_iload_n hX dX2_inRange_189 rfl, List.forall_mem_cons.mpr ⟨np_S.mono (op := np_ifne 201) (np_s_if_ne hX dX2_inRange_190 (by decide)) nq_ifne_le, List.forall_mem_cons.mpr ⟨np_s_iload_n hX dX2_inRange_193 rfl, List.forall_mem_cons.mpr ⟨np_S.mono (op := np_ifne 201) (np_s_if_ne hX dX2_inRange_194 (by decide)) nq_ifne_le, List.forall_mem_cons.mpr ⟨np_s_iconst hX dX2_inRange_197 (by decide), List.forall_mem_cons.mpr ⟨np_s_goto hX dX2_inRange_198 (by decide), List.forall_mem_cons.mpr ⟨np_s_iconst hX dX2_inRange_201 (by decide), List.forall_mem_cons.mpr ⟨np_S.mono (op := np_ret X.2.2.1) (np_s_ret hX dX2_inRange_202) (nq_ret_le hR), List.forall_mem_cons.mpr ⟨np_s_iload_n hX dX2_inRange_203 rfl, List.forall_mem_cons.mpr ⟨np_s_iconst hX dX2_inRange_204 (by decide), List.forall_mem_cons.mpr ⟨np_s_iconst hX dX2_inRange_205 (by decide), List.forall_mem_cons.mpr ⟨np_S.mono (op := np_call 3 sp_X11_isBetween 3 0 0 0 0) (np_s_callSN hX C_X11_isBetween dX2_inRange_206 gw646 gw130 gw644 gw645 ⟨by decide, by decide, by decide⟩ (by decide) (by decide)) nq_call_le, List.forall_mem_cons.mpr ⟨np_S.mono (op := np_if (fun x => x = 0) 220) (np_s_if_eq hX dX2_inRange_209 (by decide)) nq_if_le, List.forall_mem_cons.mpr ⟨np_s_iload_n hX dX2_inRange_212 rfl, List.forall_mem_cons.mpr ⟨np_S.mono (op := np_ifne 220) (np_s_if_ne hX dX2_inRange_213 (by decide)) nq_ifne_le, List.forall_mem_cons.mpr ⟨np_s_iconst hX dX2_inRange_216 (by decide), List.forall_mem_cons.mpr ⟨np_s_goto hX dX2_inRange_217 (by decide), List.forall_mem_cons.mpr ⟨np_s_iconst hX dX2_inRange_220 (by decide), List.forall_mem_cons.mpr ⟨np_S.mono (op := np_ret X.2.2.1) (np_s_ret hX dX2_inRange_221) (nq_ret_le hR), List.forall_mem_cons.mpr ⟨np_s_iload_n hX dX2_inRange_222 rfl, List.forall_mem_cons.mpr ⟨np_s_iconst hX dX2_inRange_223 (by decide), List.forall_mem_cons.mpr ⟨np_s_iconst hX dX2_inRange_224 (by decide), List.forall_mem_cons.mpr ⟨np_S.mono (op := np_call 3 sp_X11_isBetween 3 0 0 0 0) (np_s_callSN hX C_X11_isBetween dX2_inRange_225 gw646 gw130 gw644 gw645 ⟨by decide, by decide, by decide⟩ (by decide) (by decide)) nq_call_le, List.forall_mem_cons.mpr ⟨np_S.mono (op := np_if (fun x => x = 0) 245) (np_s_if_eq hX dX2_inRange_228 (by decide)) nq_if_le, List.forall_mem_cons.mpr ⟨np_s_iload_n hX dX2_inRange_231 rfl, List.forall_mem_cons.mpr ⟨np_s_iconst hX dX2_inRange_232 (by decide), List.forall_mem_cons.mpr ⟨np_s_bipush hX dX2_inRange_233 (by decide), List.forall_mem_cons.mpr ⟨np_S.mono (op := np_call 3 sp_X11_isBetween 3 0 0 0 0) (np_s_callSN hX C_X11_isBetween dX2_inRange_235 gw646 gw130 gw644 gw645 ⟨by decide, by decide, by decide⟩ (by decide) (by decide)) nq_call_le, List.forall_mem_cons.mpr ⟨np_S.mono (op := np_if (fun x => x = 0) 245) (np_s_if_eq hX dX2_inRange_238 (by decide)) nq_if_le, List.forall_mem_cons.mpr ⟨np_s_iconst hX dX2_inRange_241 (by decide), List.forall_mem_cons.mpr ⟨np_s_goto hX dX2_inRange_242 (by decide), List.forall_mem_cons.mpr ⟨np_s_iconst hX dX2_inRange_245 (by decide), List.forall_mem_cons.mpr ⟨np_S.mono (op := np_ret X.2.2.1) (np_s_ret hX dX2_inRange_246) (nq_ret_le hR), List.forall_mem_cons.mpr ⟨np_s_iload_n hX dX2_inRange_247 rfl, List.forall_mem_cons.mpr ⟨np_S.mono (op := np_ifne 259) (np_s_if_ne hX dX2_inRange_248 (by decide)) nq_ifne_le, List.forall_mem_cons.mpr ⟨np_s_iload_n hX dX2_inRange_251 rfl, List.forall_mem_cons.mpr ⟨np_S.mono (op := np_ifne 259) (np_s_if_ne hX dX2_inRange_252 (by decide)) nq_ifne_le, List.forall_mem_cons.mpr ⟨np_s_iconst hX dX2_inRange_255 (by decide), List.forall_mem_cons.mpr ⟨np_s_goto hX dX2_inRange_256 (by decide), List.forall_mem_cons.mpr ⟨np_s_iconst hX dX2_inRange_259 (by decide), List.forall_mem_cons.mpr ⟨np_S.mono (op := np_ret X.2.2.1) (np_s_ret hX dX2_inRange_260) (nq_ret_le hR), List.forall_mem_cons.mpr ⟨np_s_iconst hX dX2_inRange_261 (by decide), List.forall_mem_cons.mpr ⟨np_S.mono (op := np_ret X.2.2.1) (np_s_ret hX dX2_inRange_262) (nq_ret_le hR), fun _ h => nomatch h⟩⟩⟩⟩⟩⟩⟩⟩⟩⟩⟩⟩⟩⟩⟩⟩⟩⟩⟩⟩⟩⟩⟩⟩⟩⟩⟩⟩⟩⟩⟩⟩⟩⟩⟩⟩⟩⟩⟩⟩⟩⟩⟩⟩⟩⟩⟩⟩⟩⟩⟩⟩⟩⟩⟩⟩⟩⟩⟩⟩⟩⟩⟩⟩⟩⟩⟩⟩⟩⟩⟩⟩⟩⟩⟩⟩⟩⟩⟩⟩⟩⟩⟩⟩⟩⟩⟩⟩⟩⟩⟩⟩⟩⟩⟩⟩⟩⟩⟩⟩⟩⟩⟩⟩⟩⟩⟩⟩⟩⟩⟩⟩⟩⟩⟩⟩⟩⟩
abbrev sp_X2_inRange : np_Sp := nq_in is_X2_inRange (some .boolean) 0 0 400
theorem C_X2_inRange : np_C yX2_inRange cX2_inRange 4 (some .boolean) 1 22 0 0 sp_X2_inRange := nq_inC 400 (by decide) (fun X Rt hX hmn hR => so_X2_inRange hX hR)
theorem dX2_isFull_0 : decode cX2_isFull 0 = .ok (.aload_n 0, 1) := by decide +kernel
theorem dX2_isFull_1 : decode cX2_isFull 1 = .ok (.getfield 28, 3) := by decide +kernel
theorem dX2_isFull_4 : decode cX2_isFull 4 = .ok (.bipush 14, 2) := by decide +kernel
theorem dX2_isFull_6 : decode cX2_isFull 6 = .ok (.if_icmp .lt 7, 3) := by decide +kernel
theorem dX2_isFull_9 : decode cX2_isFull 9 = .ok (.iconst 1, 1) := by decide +kernel
theorem dX2_isFull_10 : decode cX2_isFull 10 = .ok (.goto 4, 3) := by decide +kernel
theorem dX2_isFull_13 : decode cX2_isFull 13 = .ok (.iconst 0, 1) := by decide +kernel
theorem dX2_isFull_14 : decode cX2_isFull 14 = .ok (.ireturn, 1) := by decide +kernel
def is_X2_isFull (Rt : np_Rt) : List (Nat × np_Op) := [(0, np_ald 1 0), (1, nq_getf 2 4), (4, np_push 2 (.int 14)), (6, nq_ic (fun x y => x < y) 13), (9, np_push 1 (.int 1)), (10, np_goto 14), (13, np_push 1 (.int 0)), (14, np_ret Rt)]
set_option maxRecDepth 20000 in
theorem so_X2_isFull {X : np_Ctx} {Rt : np_Rt} (hX : np_ok RX2 cX2_isFull 1 0 0 0 0 .ireturn X) (hR : ∀ st w ce sl, Rt st w ce sl → X.2.2.1 st w ce sl) : ∀ q ∈ is_X2_isFull Rt, np_S X q.1 q.2 :=
  List.forall_mem_cons.mpr ⟨np_s_aload_n hX dX2_isFull_0 rfl, List.forall_mem_cons.mpr ⟨np_S.mono (op := np_getf 2 4) (np_s_getf hX dX2_isFull_1 (C := RX2) (T := TX2) (N := 5) rfl guX2 (by decide) gw170) nq_getf_le, List.forall_mem_cons.mpr ⟨np_s_bipush hX dX2_isFull_4 (by decide), List.forall_mem_cons.mpr ⟨np_S.mono (op := np_ic (fun x y => x < y) 13) (np_s_icmp_lt hX dX2_isFull_6 (by decide)) nq_ic_le, List.forall_mem_cons.mpr ⟨np_s_iconst hX dX2_isFull_9 (by decide), List.forall_mem_cons.mpr ⟨np_s_goto hX dX2_isFull_10 (by decide), List.forall_mem_cons.mpr ⟨np_s_iconst hX dX2_isFull_13 (by decide), List.forall_mem_cons.mpr ⟨np_S.mono (op := np_ret X.2.2.1) (np_s_ret hX dX2_isFull_14) (nq_ret_le hR), fun _ h => nomatch h⟩⟩⟩⟩⟩⟩⟩⟩
abbrev sp_X2_isFull : np_Sp := nq_in is_X2_isFull (some .boolean) 0 0 400
theorem C_X2_isFull : np_C yX2_isFull cX2_isFull 1 (some .boolean) 0 0 0 0 sp_X2_isFull := nq_inC 400 (by decide) (fun X Rt hX hmn hR => so_X2_isFull hX hR)
theorem dX11_put_0 : decode cX11_put 0 = .ok (.iload_n 1, 1) := by decide +kernel
theorem dX11_put_1 : decode cX11_put 1 = .ok (.ifCond .lt 13, 3) := by decide +kernel
theorem dX11_put_4 : decode cX11_put 4 = .ok (.iload_n 1, 1) := by decide +kernel
theorem dX11_put_5 : decode cX11_put 5 = .ok (.aload_n 0, 1) := by decide +kernel
theorem dX11_put_6 : decode cX11_put 6 = .ok (.arraylength, 1) := by decide +kernel
theorem dX11_put_7 : decode cX11_put 7 = .ok (.if_icmp .ge 7, 3) := by decide +kernel
theorem dX11_put_10 : decode cX11_put 10 = .ok (.aload_n 0, 1) := by decide +kernel
theorem dX11_put_11 : decode cX11_put 11 = .ok (.iload_n 1, 1) := by decide +kernel
theorem dX11_put_12 : decode cX11_put 12 = .ok (.iload_n 2, 1) := by decide +kernel
theorem dX11_put_13 : decode cX11_put 13 = .ok (.iastore, 1) := by decide +kernel
theorem dX11_put_14 : decode cX11_put 14 = .ok (.return_, 1) := by decide +kernel
def is_X11_put (Rt : np_Rt) : List (Nat × np_Op) := [(0, np_ild 1 1), (1, nq_if (fun x => x < 0) 14), (4, np_ild 1 1), (5, np_ald 1 0), (6, np_alen), (7, nq_ic (fun x y => y ≤ x) 14), (10, np_ald 1 0), (11, np_ild 1 1), (12, np_ild 1 2), (13, nq_iastT .int), (14, np_ret Rt)]
set_option maxRecDepth 20000 in
theorem so_X11_put {X : np_Ctx} {Rt : np_Rt} (hX : np_ok RX11 cX11_put 3 0 0 0 0 .return_ X) (hR : ∀ st w ce sl, Rt st w ce sl → X.2.2.1 st w ce sl) : ∀ q ∈ is_X11_put Rt, np_S X q.1 q.2 :=
  List.forall_mem_cons.mpr ⟨np_s_iload_n hX dX11_put_0 rfl, List.forall_mem_cons.mpr ⟨np_S.mono (op := np_if (fun x => x < 0) 14) (np_s_if_lt hX dX11_put_1 (by decide)) nq_if_le, List.forall_mem_cons.mpr ⟨np_s_iload_n hX dX11_put_4 rfl, List.forall_mem_cons.mpr ⟨np_s_aload_n hX dX11_put_5 rfl, List.forall_mem_cons.mpr ⟨np_s_alen hX dX11_put_6, List.forall_mem_cons.mpr ⟨np_S.mono (op := np_ic (fun x y => y ≤ x) 14) (np_s_icmp_ge hX dX11_put_7 (by decide)) nq_ic_le, List.forall_mem_cons.mpr ⟨np_s_aload_n hX dX11_put_10 rfl, List.forall_mem_cons.mpr ⟨np_s_iload_n hX dX11_put_11 rfl, List.forall_mem_cons.mpr ⟨np_s_iload_n hX dX11_put_12 rfl, List.forall_mem_cons.mpr ⟨np_S.mono (op := np_iastT .int) (np_s_iast hX dX11_put_13) nq_iastT_le, List.forall_mem_cons.mpr ⟨np_S.mono (op := np_ret X.2.2.1) (np_s_ret hX dX11_put_14) (nq_ret_le hR), fun _ h => nomatch h⟩⟩⟩⟩⟩⟩⟩⟩⟩⟩⟩
abbrev sp_X11_put : np_Sp := nq_in is_X11_put none 0 0 400
theorem C_X11_put : np_C yX11_put cX11_put 3 none 0 0 0 0 sp_X11_put := nq_inC 400 (by decide) (fun X Rt hX hmn hR => so_X11_put hX hR)
theorem dX2_add_0 : decode cX2_add 0 = .ok (.aload_n 0, 1) := by decide +kernel
theorem dX2_add_1 : decode cX2_add 1 = .ok (.getfield 9, 3) := by decide +kernel
theorem dX2_add_4 : decode cX2_add 4 = .ok (.aload_n 0, 1) := by decide +kernel
theorem dX2_add_5 : decode cX2_add 5 = .ok (.getfield 28, 3) := by decide +kernel
theorem dX2_add_8 : decode cX2_add 8 = .ok (.iload_n 1, 1) := by decide +kernel
theorem dX2_add_9 : decode cX2_add 9 = .ok (.invokestatic 32, 3) := by decide +kernel
theorem dX2_add_12 : decode cX2_add 12 = .ok (.aload_n 0, 1) := by decide +kernel
theorem dX2_add_13 : decode cX2_add 13 = .ok (.getfield 15, 3) := by decide +kernel
theorem dX2_add_16 : decode cX2_add 16 = .ok (.aload_n 0, 1) := by decide +kernel
theorem dX2_add_17 : decode cX2_add 17 = .ok (.getfield 28, 3) := by decide +kernel
theorem dX2_add_20 : decode cX2_add 20 = .ok (.iload_n 2, 1) := by decide +kernel
theorem dX2_add_21 : decode cX2_add 21 = .ok (.invokestatic 32, 3) := by decide +kernel
theorem dX2_add_24 : decode cX2_add 24 = .ok (.aload_n 0, 1) := by decide +kernel
theorem dX2_add_25 : decode cX2_add 25 = .ok (.getfield 18, 3) := by decide +kernel
theorem dX2_add_28 : decode cX2_add 28 = .ok (.aload_n 0, 1) := by decide +kernel
theorem dX2_add_29 : decode cX2_add 29 = .ok (.getfield 28, 3) := by decide +kernel
theorem dX2_add_32 : decode cX2_add 32 = .ok (.iload_n 3, 1) := by decide +kernel
theorem dX2_add_33 : decode cX2_add 33 = .ok (.invokestatic 32, 3) := by decide +kernel
theorem dX2_add_36 : decode cX2_add 36 = .ok (.aload_n 0, 1) := by decide +kernel
theorem dX2_add_37 : decode cX2_add 37 = .ok (.getfield 21, 3) := by decide +kernel
theorem dX2_add_40 : decode cX2_add 40 = .ok (.aload_n 0, 1) := by decide +kernel
theorem dX2_add_41 : decode cX2_add 41 = .ok (.getfield 28, 3) := by decide +kernel
theorem dX2_add_44 : decode cX2_add 44 = .ok (.iload 4, 2) := by decide +kernel
theorem dX2_add_46 : decode cX2_add 46 = .ok (.invokestatic 32, 3) := by decide +kernel
theorem dX2_add_49 : decode cX2_add 49 = .ok (.aload_n 0, 1) := by decide +kernel
theorem dX2_add_50 : decode cX2_add 50 = .ok (.dup, 1) := by decide +kernel
theorem dX2_add_51 : decode cX2_add 51 = .ok (.getfield 28, 3) := by decide +kernel
theorem dX2_add_54 : decode cX2_add 54 = .ok (.iconst 1, 1) := by decide +kernel
theorem dX2_add_55 : decode cX2_add 55 = .ok (.iadd, 1) := by decide +kernel
theorem dX2_add_56 : decode cX2_add 56 = .ok (.putfield 28, 3) := by decide +kernel
theorem dX2_add_59 : decode cX2_add 59 = .ok (.return_, 1) := by decide +kernel
def is_X2_add (Rt : np_Rt) : List (Nat × np_Op) := [(0, np_ald 1 0), (1, nq_getf 2 0), (4, np_ald 1 0), (5, nq_getf 2 4), (8, np_ild 1 1), (9, nq_call 3 sp_X11_put 3 0 0 0 0), (12, np_ald 1 0), (13, nq_getf 2 1), (16, np_ald 1 0), (17, nq_getf 2 4), (20, np_ild 1 2), (21, nq_call 3 sp_X11_put 3 0 0 0 0), (24, np_ald 1 0), (25, nq_getf 2 2), (28, np_ald 1 0), (29, nq_getf 2 4), (32, np_ild 1 3), (33, nq_call 3 sp_X11_put 3 0 0 0 0), (36, np_ald 1 0), (37, nq_getf 2 3), (40, np_ald 1 0), (41, nq_getf 2 4), (44, np_ild 2 4), (46, nq_call 3 sp_X11_put 3 0 0 0 0), (49, np_ald 1 0), (50, nq_dup), (51, nq_getf 2 4), (54, np_push 1 (.int 1)), (55, np_ib (fun x y => x + y)), (56, nq_putf 2 4 (.int)), (59, np_ret Rt)]
set_option maxRecDepth 20000 in
theorem so_X2_add {X : np_Ctx} {Rt : np_Rt} (hX : np_ok RX2 cX2_add 5 1 22 0 0 .return_ X) (hR : ∀ st w ce sl, Rt st w ce sl → X.2.2.1 st w ce sl) : ∀ q ∈ is_X2_add Rt, np_S X q.1 q.2 :=
  List.forall_mem_cons.mpr ⟨np_s_aload_n hX dX2_add_0 rfl, List.forall_mem_cons.mpr ⟨np_S.mono (op := np_getf 2 0) (np_s_getf hX dX2_add_1 (C := RX2) (T := TX2) (N := 5) rfl guX2 (by decide) gw165) nq_getf_le, List.forall_mem_cons.mpr ⟨np_s_aload_n hX dX2_add_4 rfl, List.forall_mem_cons.mpr ⟨np_S.mono (op := np_getf 2 4) (np_s_getf hX dX2_add_5 (C := RX2) (T := TX2) (N := 5) rfl guX2 (by decide) gw170) nq_getf_le, List.forall_mem_cons.mpr ⟨np_s_iload_n hX dX2_add_8 rfl, List.forall_mem_cons.mpr ⟨np_S.mono (op := np_call 3 sp_X11_put 3 0 0 0 0) (np_s_callSN hX C_X11_put dX2_add_9 gw689 gw130 gw687 gw688 ⟨by decide, by decide, by decide⟩ (by decide) (by decide)) nq_call_le, List.forall_mem_cons.mpr ⟨np_s_aload_n hX dX2_add_12 rfl, List.forall_mem_cons.mpr ⟨np_S.mono (op := np_getf 2 1) (np_s_getf hX dX2_add_13 (C := RX2) (T := TX2) (N := 5) rfl guX2 (by decide) gw166) nq_getf_le, List.forall_mem_cons.mpr ⟨np_s_aload_n hX dX2_add_16 rfl, List.forall_mem_cons.mpr ⟨np_S.mono (op := np_getf 2 4) (np_s_getf hX dX2_add_17 (C := RX2) (T := TX2) (N := 5) rfl guX2 (by decide) gw170) nq_getf_le, List.forall_mem_cons.mpr ⟨np_s_iload_n hX dX2_add_20 rfl, List.forall_mem_cons.mpr ⟨np_S.mono (op := np_call 3 sp_X11_put 3 0 0 0 0) (np_s_callSN hX C_X11_put dX2_add_21 gw689 gw130 gw687 gw688 ⟨by decide, by decide, by decide⟩ (by decide) (by decide)) nq_call_le, List.forall_mem_cons.mpr ⟨np_s_aload_n hX dX2_add_24 rfl, List.forall_mem_cons.mpr ⟨np_S.mono (op := np_getf 2 2) (np_s_getf hX dX2_add_25 (C := RX2) (T := TX2) (N := 5) rfl guX2 (by decide) gw167) nq_getf_le, List.forall_mem_cons.mpr ⟨np_s_aload_n hX dX2_add_28 rfl, List.forall_mem_cons.mpr ⟨np_S.mono (op := np_getf 2 4) (np_s_getf hX dX2_add_29 (C := RX2) (T := TX2) (N := 5) rfl guX2 (by decide) gw170) nq_getf_le, List.forall_mem_cons.mpr ⟨np_s_iload_n hX dX2_add_32 rfl, List.forall_mem_cons.mpr ⟨np_S.mono (op := np_call 3 sp_X11_put 3 0 0 0 0) (np_s_callSN hX C_X11_put dX2_add_33 gw689 gw130 gw687 gw688 ⟨by decide, by decide, by decide⟩ (by decide) (by decide)) nq_call_le, List.forall_mem_cons.mpr ⟨np_s_aload_n hX dX2_add_36 rfl, List.forall_mem_cons.mpr ⟨np_S.mono (op := np_getf 2 3) (np_s_getf hX dX2_add_37 (C := RX2) (T := TX2) (N := 5) rfl guX2 (by decide) gw168) nq_getf_le, List.forall_mem_cons.mpr ⟨np_s_aload_n hX dX2_add_40 rfl, List.forall_mem_cons.mpr ⟨np_S.mono (op := np_getf 2 4) (np_s_getf hX dX2_add_41 (C := RX2) (T := TX2) (N := 5) rfl guX2 (by decide) gw170) nq_getf_le, List.forall_mem_cons.mpr ⟨np_s_iload hX dX2_add_44, List.forall_mem_cons.mpr ⟨np_S.mono (op := np_call 3 sp_X11_put 3 0 0 0 0) (np_s_callSN hX C_X11_put dX2_add_46 gw689 gw130 gw687 gw688 ⟨by decide, by decide, by decide⟩ (by decide) (by decide)) nq_call_le, List.forall_mem_cons.mpr ⟨np_s_aload_n hX dX2_add_49 rfl, List.forall_mem_cons.mpr ⟨np_S.mono (op := np_dup) (np_s_dup hX dX2_add_50) nq_dup_le, List.forall_mem_cons.mpr ⟨np_S.mono (op := np_getf 2 4) (np_s_getf hX dX2_add_51 (C := RX2) (T := TX2) (N := 5) rfl guX2 (by decide) gw170) nq_getf_le, List.forall_mem_cons.mpr ⟨np_s_iconst hX dX2_add_54 (by decide), List.forall_mem_cons.mpr ⟨np_s_iadd hX dX2_add_55, List.forall_mem_cons.mpr ⟨np_S.mono (op := np_putf 2 4 (.int)) (np_s_putf hX dX2_add_56 (C := RX2) (T := TX2) (N := 5) (ty0 := tyX2) rfl guX2 tyX2_ok nmX2 (by decide) gw170 rfl rfl) nq_putf_le, List.forall_mem_cons.mpr ⟨np_S.mono (op := np_ret X.2.2.1) (np_s_ret hX dX2_add_59) (nq_ret_le hR), fun _ h => nomatch h⟩⟩⟩⟩⟩⟩⟩⟩⟩⟩⟩⟩⟩⟩⟩⟩⟩⟩⟩⟩⟩⟩⟩⟩⟩⟩⟩⟩⟩⟩⟩
abbrev sp_X2_add : np_Sp := nq_in is_X2_add none 0 0 400
theorem C_X2_add : np_C yX2_add cX2_add 5 none 1 22 0 0 sp_X2_add := nq_inC 400 (by decide) (fun X Rt hX hmn hR => so_X2_add hX hR)
theorem dX2_clear_0 : decode cX2_clear 0 = .ok (.aload_n 0, 1) := by decide +kernel
theorem dX2_clear_1 : decode cX2_clear 1 = .ok (.iconst 0, 1) := by decide +kernel
theorem dX2_clear_2 : decode cX2_clear 2 = .ok (.putfield 28, 3) := by decide +kernel
theorem dX2_clear_5 : decode cX2_clear 5 = .ok (.return_, 1) := by decide +kernel
def is_X2_clear (Rt : np_Rt) : List (Nat × np_Op) := [(0, np_ald 1 0), (1, np_push 1 (.int 0)), (2, nq_putf 2 4 (.int)), (5, np_ret Rt)]
set_option maxRecDepth 20000 in
theorem so_X2_clear {X : np_Ctx} {Rt : np_Rt} (hX : np_ok RX2 cX2_clear 1 0 0 0 0 .return_ X) (hR : ∀ st w ce sl, Rt st w ce sl → X.2.2.1 st w ce sl) : ∀ q ∈ is_X2_clear Rt, np_S X q.1 q.2 :=
  List.forall_mem_cons.mpr ⟨np_s_aload_n hX dX2_clear_0 rfl, List.forall_mem_cons.mpr ⟨np_s_iconst hX dX2_clear_1 (by decide), List.forall_mem_cons.mpr ⟨np_S.mono (op := np_putf 2 4 (.int)) (np_s_putf hX dX2_clear_2 (C := RX2) (T := TX2) (N := 5) (ty0 := tyX2) rfl guX2 tyX2_ok nmX2 (by decide) gw170 rfl rfl) nq_putf_le, List.forall_mem_cons.mpr ⟨np_S.mono (op := np_ret X.2.2.1) (np_s_ret hX dX2_clear_5) (nq_ret_le hR), fun _ h => nomatch h⟩⟩⟩⟩
abbrev sp_X2_clear : np_Sp := nq_in is_X2_clear none 0 0 400
theorem C_X2_clear : np_C yX2_clear cX2_clear 1 none 0 0 0 0 sp_X2_clear := nq_inC 400 (by decide) (fun X Rt hX hmn hR => so_X2_clear hX hR)
theorem dX2_isDescription_0 : decode cX2_isDescription 0 = .ok (.iconst 0, 1) := by decide +kernel
theorem dX2_isDescription_1 : decode cX2_isDescription 1 = .ok (.istore_n 1, 1) := by decide +kernel
theorem dX2_isDescription_2 : decode cX2_isDescription 2 = .ok (.iload_n 1, 1) := by decide +kernel
theorem dX2_isDescription_3 : decode cX2_isDescription 3 = .ok (.aload_n 0, 1) := by decide +kernel
theorem dX2_isDescription_4 : decode cX2_isDescription 4 = .ok (.getfield 28, 3) := by decide +kernel
theorem dX2_isDescription_7 : decode cX2_isDescription 7 = .ok (.if_icmp .ge 58, 3) := by decide +kernel
theorem dX2_isDescription_10 : decode cX2_isDescription 10 = .ok (.aload_n 0, 1) := by decide +kernel
theorem dX2_isDescription_11 : decode cX2_isDescription 11 = .ok (.iload_n 1, 1) := by decide +kernel
theorem dX2_isDescription_12 : decode cX2_isDescription 12 = .ok (.invokevirtual 60, 3) := by decide +kernel
theorem dX2_isDescription_15 : decode cX2_isDescription 15 = .ok (.ifCond .eq 18, 3) := by decide +kernel
theorem dX2_isDescription_18 : decode cX2_isDescription 18 = .ok (.aload_n 0, 1) := by decide +kernel
theorem dX2_isDescription_19 : decode cX2_isDescription 19 = .ok (.aload_n 0, 1) := by decide +kernel
theorem dX2_isDescription_20 : decode cX2_isDescription 20 = .ok (.iload_n 1, 1) := by decide +kernel
theorem dX2_isDescription_21 : decode cX2_isDescription 21 = .ok (.invokevirtual 43, 3) := by decide +kernel
theorem dX2_isDescription_24 : decode cX2_isDescription 24 = .ok (.invokevirtual 64, 3) := by decide +kernel
theorem dX2_isDescription_27 : decode cX2_isDescription 27 = .ok (.iload_n 1, 1) := by decide +kernel
theorem dX2_isDescription_28 : decode cX2_isDescription 28 = .ok (.if_icmp .eq 5, 3) := by decide +kernel
theorem dX2_isDescription_31 : decode cX2_isDescription 31 = .ok (.iconst 0, 1) := by decide +kernel
theorem dX2_isDescription_32 : decode cX2_isDescription 32 = .ok (.ireturn, 1) := by decide +kernel
theorem dX2_isDescription_33 : decode cX2_isDescription 33 = .ok (.aload_n 0, 1) := by decide +kernel
theorem dX2_isDescription_34 : decode cX2_isDescription 34 = .ok (.iload_n 1, 1) := by decide +kernel
theorem dX2_isDescription_35 : decode cX2_isDescription 35 = .ok (.invokevirtual 67, 3) := by decide +kernel
theorem dX2_isDescription_38 : decode cX2_isDescription 38 = .ok (.ifCond .eq 21, 3) := by decide +kernel
theorem dX2_isDescription_41 : decode cX2_isDescription 41 = .ok (.aload_n 0, 1) := by decide +kernel
theorem dX2_isDescription_42 : decode cX2_isDescription 42 = .ok (.iload_n 1, 1) := by decide +kernel
theorem dX2_isDescription_43 : decode cX2_isDescription 43 = .ok (.invokevirtual 70, 3) := by decide +kernel
theorem dX2_isDescription_46 : decode cX2_isDescription 46 = .ok (.ifCond .eq 11, 3) := by decide +kernel
theorem dX2_isDescription_49 : decode cX2_isDescription 49 = .ok (.aload_n 0, 1) := by decide +kernel
theorem dX2_isDescription_50 : decode cX2_isDescription 50 = .ok (.iload_n 1, 1) := by decide +kernel
theorem dX2_isDescription_51 : decode cX2_isDescription 51 = .ok (.invokevirtual 73, 3) := by decide +kernel
theorem dX2_isDescription_54 : decode cX2_isDescription 54 = .ok (.ifCond .ne 5, 3) := by decide +kernel
theorem dX2_isDescription_57 : decode cX2_isDescription 57 = .ok (.iconst 0, 1) := by decide +kernel
theorem dX2_isDescription_58 : decode cX2_isDescription 58 = .ok (.ireturn, 1) := by decide +kernel
theorem dX2_isDescription_59 : decode cX2_isDescription 59 = .ok (.iinc 1 1, 3) := by decide +kernel
theorem dX2_isDescription_62 : decode cX2_isDescription 62 = .ok (.goto (-60), 3) := by decide +kernel
theorem dX2_isDescription_65 : decode cX2_isDescription 65 = .ok (.aload_n 0, 1) := by decide +kernel
theorem dX2_isDescription_66 : decode cX2_isDescription 66 = .ok (.getfield 28, 3) := by decide +kernel
theorem dX2_isDescription_69 : decode cX2_isDescription 69 = .ok (.ifCond .le 7, 3) := by decide +kernel
theorem dX2_isDescription_72 : decode cX2_isDescription 72 = .ok (.iconst 1, 1) := by decide +kernel
theorem dX2_isDescription_73 : decode cX2_isDescription 73 = .ok (.goto 4, 3) := by decide +kernel
theorem dX2_isDescription_76 : decode cX2_isDescription 76 = .ok (.iconst 0, 1) := by decide +kernel
theorem dX2_isDescription_77 : decode cX2_isDescription 77 = .ok (.ireturn, 1) := by decide +kernel
def is_X2_isDescription (Rt : np_Rt) : List (Nat × np_Op) := [(0, np_push 1 (.int 0)), (1, np_ist 1 1), (2, np_ild 1 1), (3, np_ald 1 0), (4, nq_getf 2 4), (7, nq_ic (fun x y => y ≤ x) 65), (10, np_ald 1 0), (11, np_ild 1 1), (15, nq_if (fun x => x = 0) 33), (18, np_ald 1 0), (19, np_ald 1 0), (20, np_ild 1 1), (27, np_ild 1 1), (28, nq_ic (fun x y => x = y) 33), (31, np_push 1 (.int 0)), (32, np_ret Rt), (33, np_ald 1 0), (34, np_ild 1 1), (38, nq_if (fun x => x = 0) 59), (41, np_ald 1 0), (42, np_ild 1 1), (46, nq_if (fun x => x = 0) 57), (49, np_ald 1 0), (50, np_ild 1 1), (54, nq_ifne 59), (57, np_push 1 (.int 0)), (58, np_ret Rt), (59, np_iinc 1 1), (62, np_goto 2), (65, np_ald 1 0), (66, nq_getf 2 4), (69, nq_if (fun x => x ≤ 0) 76), (72, np_push 1 (.int 1)), (73, np_goto 77), (76, np_push 1 (.int 0)), (77, np_ret Rt)]
set_option maxRecDepth 20000 in
theorem so_X2_isDescription {X : np_Ctx} {Rt : np_Rt} (hX : np_ok RX2 cX2_isDescription 2 0 0 0 0 .ireturn X) (hR : ∀ st w ce sl, Rt st w ce sl → X.2.2.1 st w ce sl) : ∀ q ∈ is_X2_isDescription Rt, np_S X q.1 q.2 :=
  List.forall_mem_cons.mpr ⟨np_s_iconst hX dX2_isDescription_0 (by decide), List.forall_mem_cons.mpr ⟨np_s_istore_n hX dX2_isDescription_1 rfl (by decide), List.forall_mem_cons.mpr ⟨np_s_iload_n hX dX2_isDescription_2 rfl, List.forall_mem_cons.mpr ⟨np_s_aload_n hX dX2_isDescription_3 rfl, List.forall_mem_cons.mpr ⟨np_S.mono (op := np_getf 2 4) (np_s_getf hX dX2_isDescription_4 (C := RX2) (T := TX2) (N := 5) rfl guX2 (by decide) gw170) nq_getf_le, List.forall_mem_cons.mpr ⟨np_S.mono (op := np_ic (fun x y => y ≤ x) 65) (np_s_icmp_ge hX dX2_isDescription_7 (by decide)) nq_ic_le, List.forall_mem_cons.mpr ⟨np_s_aload_n hX dX2_isDescription_10 rfl, List.forall_mem_cons.mpr ⟨np_s_iload_n hX dX2_isDescription_11 rfl, List.forall_mem_cons.mpr ⟨np_S.mono (op := np_if (fun x => x = 0) 33) (np_s_if_eq hX dX2_isDescription_15 (by decide)) nq_if_le, List.forall_mem_cons.mpr ⟨np_s_aload_n hX dX2_isDescription_18 rfl, List.forall_mem_cons.mpr ⟨np_s_aload_n hX dX2_isDescription_19 rfl, List.forall_mem_cons.mpr ⟨np_s_iload_n hX dX2_isDescription_20 rfl, List.forall_mem_cons.mpr ⟨np_s_iload_n hX dX2_isDescription_27 rfl, List.forall_mem_cons.mpr ⟨np_S.mono (op := np_ic (fun x y => x = y) 33) (np_s_icmp_eq hX dX2_isDescription_28 (by decide)) nq_ic_le, List.forall_mem_cons.mpr ⟨np_s_iconst hX dX2_isDescription_31 (by decide), List.forall_mem_cons.mpr ⟨np_S.mono (op := np_ret X.2.2.1) (np_s_ret hX dX2_isDescription_32) (nq_ret_le hR), List.forall_mem_cons.mpr ⟨np_s_aload_n hX dX2_isDescription_33 rfl, List.forall_mem_cons.mpr ⟨np_s_iload_n hX dX2_isDescription_34 rfl, List.forall_mem_cons.mpr ⟨np_S.mono (op := np_if (fun x => x = 0) 59) (np_s_if_eq hX dX2_isDescription_38 (by decide)) nq_if_le, List.forall_mem_cons.mpr ⟨np_s_aload_n hX dX2_isDescription_41 rfl, List.forall_mem_cons.mpr ⟨np_s_iload_n hX dX2_isDescription_42 rfl, List.forall_mem_cons.mpr ⟨np_S.mono (op := np_if (fun x => x = 0) 57) (np_s_if_eq hX dX2_isDescription_46 (by decide)) nq_if_le, List.forall_mem_cons.mpr ⟨np_s_aload_n hX dX2_isDescription_49 rfl, List.forall_mem_cons.mpr ⟨np_s_iload_n hX dX2_isDescription_50 rfl, List.forall_mem_cons.mpr ⟨np_S.mono (op := np_ifne 59) (np_s_if_ne hX dX2_isDescription_54 (by decide)) nq_ifne_le, List.forall_mem_cons.mpr ⟨np_s_iconst hX dX2_isDescription_57 (by decide), List.forall_mem_cons.mpr ⟨np_S.mono (op := np_ret X.2.2.1) (np_s_ret hX dX2_isDescription_58) (nq_ret_le hR), List.forall_mem_cons.mpr ⟨np_s_iinc hX dX2_isDescription_59 (by decide), List.forall_mem_cons.mpr ⟨np_s_goto hX dX2_isDescription_62 (by decide), List.forall_mem_cons.mpr ⟨np_s_aload_n hX dX2_isDescription_65 rfl, List.forall_mem_cons.mpr ⟨np_S.mono (op := np_getf 2 4) (np_s_getf hX dX2_isDescription_66 (C := RX2) (T := TX2) (N := 5) rfl guX2 (by decide) gw170) nq_getf_le, List.forall_mem_cons.mpr ⟨np_S.mono (op := np_if (fun x => x ≤ 0) 76) (np_s_if_le hX dX2_isDescription_69 (by decide)) nq_if_le, List.forall_mem_cons.mpr ⟨np_s_iconst hX dX2_isDescription_72 (by decide), List.forall_mem_cons.mpr ⟨np_s_goto hX dX2_isDescription_73 (by decide), List.forall_mem_cons.mpr ⟨np_s_iconst hX dX2_isDescription_76 (by decide), List.forall_mem_cons.mpr ⟨np_S.mono (op := np_ret X.2.2.1) (np_s_ret hX dX2_isDescription_77) (nq_ret_le hR), fun _ h => nomatch h⟩⟩⟩⟩⟩⟩⟩⟩⟩⟩⟩⟩⟩⟩⟩⟩⟩⟩⟩⟩⟩⟩⟩⟩⟩⟩⟩⟩⟩⟩⟩⟩⟩⟩⟩⟩
abbrev sp_X2_isDescription : np_Sp := nq_in is_X2_isDescription (some .boolean) 0 0 400
theorem C_X2_isDescription : np_C yX2_isDescription cX2_isDescription 2 (some .boolean) 0 0 0 0 sp_X2_isDescription := nq_inC 400 (by decide) (fun X Rt hX hmn hR => so_X2_isDescription hX hR)
theorem dX11_descriptionOf_0 : decode cX11_descriptionOf 0 = .ok (.iload_n 1, 1) := by decide +kernel
theorem dX11_descriptionOf_1 : decode cX11_descriptionOf 1 = .ok (.ifCond .lt 24, 3) := by decide +kernel
theorem dX11_descriptionOf_4 : decode cX11_descriptionOf 4 = .ok (.iload_n 1, 1) := by decide +kernel
theorem dX11_descriptionOf_5 : decode cX11_descriptionOf 5 = .ok (.aload_n 0, 1) := by decide +kernel
theorem dX11_descriptionOf_6 : decode cX11_descriptionOf 6 = .ok (.getfield 132, 3) := by decide +kernel
theorem dX11_descriptionOf_9 : decode cX11_descriptionOf 9 = .ok (.if_icmp .ge 16, 3) := by decide +kernel
theorem dX11_descriptionOf_12 : decode cX11_descriptionOf 12 = .ok (.iload_n 1, 1) := by decide +kernel
theorem dX11_descriptionOf_13 : decode cX11_descriptionOf 13 = .ok (.aload_n 0, 1) := by decide +kernel
theorem dX11_descriptionOf_14 : decode cX11_descriptionOf 14 = .ok (.getfield 20, 3) := by decide +kernel
theorem dX11_descriptionOf_17 : decode cX11_descriptionOf 17 = .ok (.arraylength, 1) := by decide +kernel
theorem dX11_descriptionOf_18 : decode cX11_descriptionOf 18 = .ok (.if_icmp .ge 7, 3) := by decide +kernel
theorem dX11_descriptionOf_21 : decode cX11_descriptionOf 21 = .ok (.iconst 1, 1) := by decide +kernel
theorem dX11_descriptionOf_22 : decode cX11_descriptionOf 22 = .ok (.goto 4, 3) := by decide +kernel
theorem dX11_descriptionOf_25 : decode cX11_descriptionOf 25 = .ok (.iconst 0, 1) := by decide +kernel
theorem dX11_descriptionOf_26 : decode cX11_descriptionOf 26 = .ok (.istore_n 2, 1) := by decide +kernel
theorem dX11_descriptionOf_27 : decode cX11_descriptionOf 27 = .ok (.iload_n 2, 1) := by decide +kernel
theorem dX11_descriptionOf_28 : decode cX11_descriptionOf 28 = .ok (.ifCond .eq 12, 3) := by decide +kernel
theorem dX11_descriptionOf_31 : decode cX11_descriptionOf 31 = .ok (.aload_n 0, 1) := by decide +kernel
theorem dX11_descriptionOf_32 : decode cX11_descriptionOf 32 = .ok (.getfield 20, 3) := by decide +kernel
theorem dX11_descriptionOf_35 : decode cX11_descriptionOf 35 = .ok (.iload_n 1, 1) := by decide +kernel
theorem dX11_descriptionOf_36 : decode cX11_descriptionOf 36 = .ok (.aaload, 1) := by decide +kernel
theorem dX11_descriptionOf_37 : decode cX11_descriptionOf 37 = .ok (.goto 4, 3) := by decide +kernel
theorem dX11_descriptionOf_40 : decode cX11_descriptionOf 40 = .ok (.aconst_null, 1) := by decide +kernel
theorem dX11_descriptionOf_41 : decode cX11_descriptionOf 41 = .ok (.areturn, 1) := by decide +kernel
def is_X11_descriptionOf (Rt : np_Rt) : List (Nat × np_Op) := [(0, np_ild 1 1), (1, nq_if (fun x => x < 0) 25), (4, np_ild 1 1), (5, np_ald 1 0), (6, nq_getf 11 2), (9, nq_ic (fun x y => y ≤ x) 25), (12, np_ild 1 1), (13, np_ald 1 0), (14, nq_getf 11 1), (17, np_alen), (18, nq_ic (fun x y => y ≤ x) 25), (21, np_push 1 (.int 1)), (22, np_goto 26), (25, np_push 1 (.int 0)), (26, np_ist 1 2), (27, np_ild 1 2), (28, nq_if (fun x => x = 0) 40), (31, np_ald 1 0), (32, nq_getf 11 1), (35, np_ild 1 1), (36, nq_aald "NotationPress$Description"), (37, np_goto 41), (40, np_push 1 .null), (41, np_ret Rt)]
set_option maxRecDepth 20000 in
theorem so_X11_descriptionOf {X : np_Ctx} {Rt : np_Rt} (hX : np_ok RX11 cX11_descriptionOf 3 0 0 0 0 .areturn X) (hR : ∀ st w ce sl, Rt st w ce sl → X.2.2.1 st w ce sl) : ∀ q ∈ is_X11_descriptionOf Rt, np_S X q.1 q.2 :=
  List.forall_mem_cons.mpr ⟨np_s_iload_n hX dX11_descriptionOf_0 rfl, List.forall_mem_cons.mpr ⟨np_S.mono (op := np_if (fun x => x < 0) 25) (np_s_if_lt hX dX11_descriptionOf_1 (by decide)) nq_if_le, List.forall_mem_cons.mpr ⟨np_s_iload_n hX dX11_descriptionOf_4 rfl, List.forall_mem_cons.mpr ⟨np_s_aload_n hX dX11_descriptionOf_5 rfl, List.forall_mem_cons.mpr ⟨np_S.mono (op := np_getf 11 2) (np_s_getf hX dX11_descriptionOf_6 (C := RX11) (T := TX11) (N := 14) rfl guX11 (by decide) gw508) nq_getf_le, List.forall_mem_cons.mpr ⟨np_S.mono (op := np_ic (fun x y => y ≤ x) 25) (np_s_icmp_ge hX dX11_descriptionOf_9 (by decide)) nq_ic_le, List.forall_mem_cons.mpr ⟨np_s_iload_n hX dX11_descriptionOf_12 rfl, List.forall_mem_cons.mpr ⟨np_s_aload_n hX dX11_descriptionOf_13 rfl, List.forall_mem_cons.mpr ⟨np_S.mono (op := np_getf 11 1) (np_s_getf hX dX11_descriptionOf_14 (C := RX11) (T := TX11) (N := 14) rfl guX11 (by decide) gw507) nq_getf_le, List.forall_mem_cons.mpr ⟨np_s_alen hX dX11_descriptionOf_17, List.forall_mem_cons.mpr ⟨np_S.mono (op := np_ic (fun x y => y ≤ x) 25) (np_s_icmp_ge hX dX11_descriptionOf_18 (by decide)) nq_ic_le, List.forall_mem_cons.mpr ⟨np_s_iconst hX dX11_descriptionOf_21 (by decide), List.forall_mem_cons.mpr ⟨np_s_goto hX dX11_descriptionOf_22 (by decide), List.forall_mem_cons.mpr ⟨np_s_iconst hX dX11_descriptionOf_25 (by decide), List.forall_mem_cons.mpr ⟨np_s_istore_n hX dX11_descriptionOf_26 rfl (by decide), List.forall_mem_cons.mpr ⟨np_s_iload_n hX dX11_descriptionOf_27 rfl, List.forall_mem_cons.mpr ⟨np_S.mono (op := np_if (fun x => x = 0) 40) (np_s_if_eq hX dX11_descriptionOf_28 (by decide)) nq_if_le, List.forall_mem_cons.mpr ⟨np_s_aload_n hX dX11_descriptionOf_31 rfl, List.forall_mem_cons.mpr ⟨np_S.mono (op := np_getf 11 1) (np_s_getf hX dX11_descriptionOf_32 (C := RX11) (T := TX11) (N := 14) rfl guX11 (by decide) gw507) nq_getf_le, List.forall_mem_cons.mpr ⟨np_s_iload_n hX dX11_descriptionOf_35 rfl, List.forall_mem_cons.mpr ⟨np_S.mono (op := np_aald "NotationPress$Description") (np_s_aald hX dX11_descriptionOf_36) nq_aald_le, List.forall_mem_cons.mpr ⟨np_s_goto hX dX11_descriptionOf_37 (by decide), List.forall_mem_cons.mpr ⟨np_s_null hX dX11_descriptionOf_40, List.forall_mem_cons.mpr ⟨np_S.mono (op := np_ret X.2.2.1) (np_s_ret hX dX11_descriptionOf_41) (nq_ret_le hR), fun _ h => nomatch h⟩⟩⟩⟩⟩⟩⟩⟩⟩⟩⟩⟩⟩⟩⟩⟩⟩⟩⟩⟩⟩⟩⟩⟩
abbrev sp_X11_descriptionOf : np_Sp := nq_in is_X11_descriptionOf (some (.object "NotationPress$Description")) 0 0 400
theorem C_X11_descriptionOf : np_C yX11_descriptionOf cX11_descriptionOf 3 (some (.object "NotationPress$Description")) 0 0 0 0 sp_X11_descriptionOf := nq_inC 400 (by decide) (fun X Rt hX hmn hR => so_X11_descriptionOf hX hR)
theorem dX11_isCell_0 : decode cX11_isCell 0 = .ok (.iload_n 0, 1) := by decide +kernel
theorem dX11_isCell_1 : decode cX11_isCell 1 = .ok (.invokestatic 93, 3) := by decide +kernel
theorem dX11_isCell_4 : decode cX11_isCell 4 = .ok (.ifCond .eq 16, 3) := by decide +kernel
theorem dX11_isCell_7 : decode cX11_isCell 7 = .ok (.iload_n 1, 1) := by decide +kernel
theorem dX11_isCell_8 : decode cX11_isCell 8 = .ok (.ifCond .lt 12, 3) := by decide +kernel
theorem dX11_isCell_11 : decode cX11_isCell 11 = .ok (.iload_n 1, 1) := by decide +kernel
theorem dX11_isCell_12 : decode cX11_isCell 12 = .ok (.iconst 3, 1) := by decide +kernel
theorem dX11_isCell_13 : decode cX11_isCell 13 = .ok (.if_icmp .ge 7, 3) := by decide +kernel
theorem dX11_isCell_16 : decode cX11_isCell 16 = .ok (.iconst 1, 1) := by decide +kernel
theorem dX11_isCell_17 : decode cX11_isCell 17 = .ok (.goto 4, 3) := by decide +kernel
theorem dX11_isCell_20 : decode cX11_isCell 20 = .ok (.iconst 0, 1) := by decide +kernel
theorem dX11_isCell_21 : decode cX11_isCell 21 = .ok (.ireturn, 1) := by decide +kernel
def is_X11_isCell (Rt : np_Rt) : List (Nat × np_Op) := [(0, np_ild 1 0), (1, nq_call 1 sp_X11_isSlot 1 0 0 0 0), (4, nq_if (fun x => x = 0) 20), (7, np_ild 1 1), (8, nq_if (fun x => x < 0) 20), (11, np_ild 1 1), (12, np_push 1 (.int 3)), (13, nq_ic (fun x y => y ≤ x) 20), (16, np_push 1 (.int 1)), (17, np_goto 21), (20, np_push 1 (.int 0)), (21, np_ret Rt)]
set_option maxRecDepth 20000 in
theorem so_X11_isCell {X : np_Ctx} {Rt : np_Rt} (hX : np_ok RX11 cX11_isCell 2 1 20 0 0 .ireturn X) (hR : ∀ st w ce sl, Rt st w ce sl → X.2.2.1 st w ce sl) : ∀ q ∈ is_X11_isCell Rt, np_S X q.1 q.2 :=
  List.forall_mem_cons.mpr ⟨np_s_iload_n hX dX11_isCell_0 rfl, List.forall_mem_cons.mpr ⟨np_S.mono (op := np_call 1 sp_X11_isSlot 1 0 0 0 0) (np_s_callS hX C_X11_isSlot dX11_isCell_1 gw572 gw130 gw570 gw571 ⟨by decide, by decide, by decide⟩ (by decide) (by decide)) nq_call_le, List.forall_mem_cons.mpr ⟨np_S.mono (op := np_if (fun x => x = 0) 20) (np_s_if_eq hX dX11_isCell_4 (by decide)) nq_if_le, List.forall_mem_cons.mpr ⟨np_s_iload_n hX dX11_isCell_7 rfl, List.forall_mem_cons.mpr ⟨np_S.mono (op := np_if (fun x => x < 0) 20) (np_s_if_lt hX dX11_isCell_8 (by decide)) nq_if_le, List.forall_mem_cons.mpr ⟨np_s_iload_n hX dX11_isCell_11 rfl, List.forall_mem_cons.mpr ⟨np_s_iconst hX dX11_isCell_12 (by decide), List.forall_mem_cons.mpr ⟨np_S.mono (op := np_ic (fun x y => y ≤ x) 20) (np_s_icmp_ge hX dX11_isCell_13 (by decide)) nq_ic_le, List.forall_mem_cons.mpr ⟨np_s_iconst hX dX11_isCell_16 (by decide), List.forall_mem_cons.mpr ⟨np_s_goto hX dX11_isCell_17 (by decide), List.forall_mem_cons.mpr ⟨np_s_iconst hX dX11_isCell_20 (by decide), List.forall_mem_cons.mpr ⟨np_S.mono (op := np_ret X.2.2.1) (np_s_ret hX dX11_isCell_21) (nq_ret_le hR), fun _ h => nomatch h⟩⟩⟩⟩⟩⟩⟩⟩⟩⟩⟩⟩
abbrev sp_X11_isCell : np_Sp := nq_in is_X11_isCell (some .boolean) 0 0 400
theorem C_X11_isCell : np_C yX11_isCell cX11_isCell 2 (some .boolean) 1 20 0 0 sp_X11_isCell := nq_inC 400 (by decide) (fun X Rt hX hmn hR => so_X11_isCell hX hR)
theorem dX11_cellPlace_0 : decode cX11_cellPlace 0 = .ok (.iload_n 0, 1) := by decide +kernel
theorem dX11_cellPlace_1 : decode cX11_cellPlace 1 = .ok (.iconst 3, 1) := by decide +kernel
theorem dX11_cellPlace_2 : decode cX11_cellPlace 2 = .ok (.imul, 1) := by decide +kernel
theorem dX11_cellPlace_3 : decode cX11_cellPlace 3 = .ok (.iload_n 1, 1) := by decide +kernel
theorem dX11_cellPlace_4 : decode cX11_cellPlace 4 = .ok (.iadd, 1) := by decide +kernel
theorem dX11_cellPlace_5 : decode cX11_cellPlace 5 = .ok (.ireturn, 1) := by decide +kernel
def is_X11_cellPlace (Rt : np_Rt) : List (Nat × np_Op) := [(0, np_ild 1 0), (1, np_push 1 (.int 3)), (2, np_ib (fun x y => x * y)), (3, np_ild 1 1), (4, np_ib (fun x y => x + y)), (5, np_ret Rt)]
set_option maxRecDepth 20000 in
theorem so_X11_cellPlace {X : np_Ctx} {Rt : np_Rt} (hX : np_ok RX11 cX11_cellPlace 2 0 0 0 0 .ireturn X) (hR : ∀ st w ce sl, Rt st w ce sl → X.2.2.1 st w ce sl) : ∀ q ∈ is_X11_cellPlace Rt, np_S X q.1 q.2 :=
  List.forall_mem_cons.mpr ⟨np_s_iload_n hX dX11_cellPlace_0 rfl, List.forall_mem_cons.mpr ⟨np_s_iconst hX dX11_cellPlace_1 (by decide), List.forall_mem_cons.mpr ⟨np_s_imul hX dX11_cellPlace_2, List.forall_mem_cons.mpr ⟨np_s_iload_n hX dX11_cellPlace_3 rfl, List.forall_mem_cons.mpr ⟨np_s_iadd hX dX11_cellPlace_4, List.forall_mem_cons.mpr ⟨np_S.mono (op := np_ret X.2.2.1) (np_s_ret hX dX11_cellPlace_5) (nq_ret_le hR), fun _ h => nomatch h⟩⟩⟩⟩⟩⟩
abbrev sp_X11_cellPlace : np_Sp := nq_in is_X11_cellPlace (some .int) 0 0 400
theorem C_X11_cellPlace : np_C yX11_cellPlace cX11_cellPlace 2 (some .int) 0 0 0 0 sp_X11_cellPlace := nq_inC 400 (by decide) (fun X Rt hX hmn hR => so_X11_cellPlace hX hR)
theorem dX11_at_0 : decode cX11_at 0 = .ok (.iload_n 1, 1) := by decide +kernel
theorem dX11_at_1 : decode cX11_at 1 = .ok (.ifCond .lt 15, 3) := by decide +kernel
theorem dX11_at_4 : decode cX11_at 4 = .ok (.iload_n 1, 1) := by decide +kernel
theorem dX11_at_5 : decode cX11_at 5 = .ok (.aload_n 0, 1) := by decide +kernel
theorem dX11_at_6 : decode cX11_at 6 = .ok (.arraylength, 1) := by decide +kernel
theorem dX11_at_7 : decode cX11_at 7 = .ok (.if_icmp .ge 9, 3) := by decide +kernel
theorem dX11_at_10 : decode cX11_at 10 = .ok (.aload_n 0, 1) := by decide +kernel
theorem dX11_at_11 : decode cX11_at 11 = .ok (.iload_n 1, 1) := by decide +kernel
theorem dX11_at_12 : decode cX11_at 12 = .ok (.iaload, 1) := by decide +kernel
theorem dX11_at_13 : decode cX11_at 13 = .ok (.goto 4, 3) := by decide +kernel
theorem dX11_at_16 : decode cX11_at 16 = .ok (.iload_n 2, 1) := by decide +kernel
theorem dX11_at_17 : decode cX11_at 17 = .ok (.ireturn, 1) := by decide +kernel
def is_X11_at (Rt : np_Rt) : List (Nat × np_Op) := [(0, np_ild 1 1), (1, nq_if (fun x => x < 0) 16), (4, np_ild 1 1), (5, np_ald 1 0), (6, np_alen), (7, nq_ic (fun x y => y ≤ x) 16), (10, np_ald 1 0), (11, np_ild 1 1), (12, nq_ialdT .int), (13, np_goto 17), (16, np_ild 1 2), (17, np_ret Rt)]
set_option maxRecDepth 20000 in
theorem so_X11_at {X : np_Ctx} {Rt : np_Rt} (hX : np_ok RX11 cX11_at 3 0 0 0 0 .ireturn X) (hR : ∀ st w ce sl, Rt st w ce sl → X.2.2.1 st w ce sl) : ∀ q ∈ is_X11_at Rt, np_S X q.1 q.2 :=
  List.forall_mem_cons.mpr ⟨np_s_iload_n hX dX11_at_0 rfl, List.forall_mem_cons.mpr ⟨np_S.mono (op := np_if (fun x => x < 0) 16) (np_s_if_lt hX dX11_at_1 (by decide)) nq_if_le, List.forall_mem_cons.mpr ⟨np_s_iload_n hX dX11_at_4 rfl, List.forall_mem_cons.mpr ⟨np_s_aload_n hX dX11_at_5 rfl, List.forall_mem_cons.mpr ⟨np_s_alen hX dX11_at_6, List.forall_mem_cons.mpr ⟨np_S.mono (op := np_ic (fun x y => y ≤ x) 16) (np_s_icmp_ge hX dX11_at_7 (by decide)) nq_ic_le, List.forall_mem_cons.mpr ⟨np_s_aload_n hX dX11_at_10 rfl, List.forall_mem_cons.mpr ⟨np_s_iload_n hX dX11_at_11 rfl, List.forall_mem_cons.mpr ⟨np_S.mono (op := np_ialdT .int) (np_s_iald hX dX11_at_12) nq_ialdT_le, List.forall_mem_cons.mpr ⟨np_s_goto hX dX11_at_13 (by decide), List.forall_mem_cons.mpr ⟨np_s_iload_n hX dX11_at_16 rfl, List.forall_mem_cons.mpr ⟨np_S.mono (op := np_ret X.2.2.1) (np_s_ret hX dX11_at_17) (nq_ret_le hR), fun _ h => nomatch h⟩⟩⟩⟩⟩⟩⟩⟩⟩⟩⟩⟩
abbrev sp_X11_at : np_Sp := nq_in is_X11_at (some .int) 0 0 400
theorem C_X11_at : np_C yX11_at cX11_at 3 (some .int) 0 0 0 0 sp_X11_at := nq_inC 400 (by decide) (fun X Rt hX hmn hR => so_X11_at hX hR)
theorem dX11_fileOf_0 : decode cX11_fileOf 0 = .ok (.iload_n 1, 1) := by decide +kernel
theorem dX11_fileOf_1 : decode cX11_fileOf 1 = .ok (.ifCond .lt 21, 3) := by decide +kernel
theorem dX11_fileOf_4 : decode cX11_fileOf 4 = .ok (.iload_n 1, 1) := by decide +kernel
theorem dX11_fileOf_5 : decode cX11_fileOf 5 = .ok (.aload_n 0, 1) := by decide +kernel
theorem dX11_fileOf_6 : decode cX11_fileOf 6 = .ok (.getfield 34, 3) := by decide +kernel
theorem dX11_fileOf_9 : decode cX11_fileOf 9 = .ok (.arraylength, 1) := by decide +kernel
theorem dX11_fileOf_10 : decode cX11_fileOf 10 = .ok (.if_icmp .ge 12, 3) := by decide +kernel
theorem dX11_fileOf_13 : decode cX11_fileOf 13 = .ok (.aload_n 0, 1) := by decide +kernel
theorem dX11_fileOf_14 : decode cX11_fileOf 14 = .ok (.getfield 34, 3) := by decide +kernel
theorem dX11_fileOf_17 : decode cX11_fileOf 17 = .ok (.iload_n 1, 1) := by decide +kernel
theorem dX11_fileOf_18 : decode cX11_fileOf 18 = .ok (.aaload, 1) := by decide +kernel
theorem dX11_fileOf_19 : decode cX11_fileOf 19 = .ok (.goto 4, 3) := by decide +kernel
theorem dX11_fileOf_22 : decode cX11_fileOf 22 = .ok (.aconst_null, 1) := by decide +kernel
theorem dX11_fileOf_23 : decode cX11_fileOf 23 = .ok (.areturn, 1) := by decide +kernel
def is_X11_fileOf (Rt : np_Rt) : List (Nat × np_Op) := [(0, np_ild 1 1), (1, nq_if (fun x => x < 0) 22), (4, np_ild 1 1), (5, np_ald 1 0), (6, nq_getf 11 4), (9, np_alen), (10, nq_ic (fun x y => y ≤ x) 22), (13, np_ald 1 0), (14, nq_getf 11 4), (17, np_ild 1 1), (18, nq_aald "NotationPress$Text"), (19, np_goto 23), (22, np_push 1 .null), (23, np_ret Rt)]
set_option maxRecDepth 20000 in
theorem so_X11_fileOf {X : np_Ctx} {Rt : np_Rt} (hX : np_ok RX11 cX11_fileOf 2 0 0 0 0 .areturn X) (hR : ∀ st w ce sl, Rt st w ce sl → X.2.2.1 st w ce sl) : ∀ q ∈ is_X11_fileOf Rt, np_S X q.1 q.2 :=
  List.forall_mem_cons.mpr ⟨np_s_iload_n hX dX11_fileOf_0 rfl, List.forall_mem_cons.mpr ⟨np_S.mono (op := np_if (fun x => x < 0) 22) (np_s_if_lt hX dX11_fileOf_1 (by decide)) nq_if_le, List.forall_mem_cons.mpr ⟨np_s_iload_n hX dX11_fileOf_4 rfl, List.forall_mem_cons.mpr ⟨np_s_aload_n hX dX11_fileOf_5 rfl, List.forall_mem_cons.mpr ⟨np_S.mono (op := np_getf 11 4) (np_s_getf hX dX11_fileOf_6 (C := RX11) (T := TX11) (N := 14) rfl guX11 (by decide) gw510) nq_getf_le, List.forall_mem_cons.mpr ⟨np_s_alen hX dX11_fileOf_9, List.forall_mem_cons.mpr ⟨np_S.mono (op := np_ic (fun x y => y ≤ x) 22) (np_s_icmp_ge hX dX11_fileOf_10 (by decide)) nq_ic_le, List.forall_mem_cons.mpr ⟨np_s_aload_n hX dX11_fileOf_13 rfl, List.forall_mem_cons.mpr ⟨np_S.mono (op := np_getf 11 4) (np_s_getf hX dX11_fileOf_14 (C := RX11) (T := TX11) (N := 14) rfl guX11 (by decide) gw510) nq_getf_le, List.forall_mem_cons.mpr ⟨np_s_iload_n hX dX11_fileOf_17 rfl, List.forall_mem_cons.mpr ⟨np_S.mono (op := np_aald "NotationPress$Text") (np_s_aald hX dX11_fileOf_18) nq_aald_le, List.forall_mem_cons.mpr ⟨np_s_goto hX dX11_fileOf_19 (by decide), List.forall_mem_cons.mpr ⟨np_s_null hX dX11_fileOf_22, List.forall_mem_cons.mpr ⟨np_S.mono (op := np_ret X.2.2.1) (np_s_ret hX dX11_fileOf_23) (nq_ret_le hR), fun _ h => nomatch h⟩⟩⟩⟩⟩⟩⟩⟩⟩⟩⟩⟩⟩⟩
abbrev sp_X11_fileOf : np_Sp := nq_in is_X11_fileOf (some (.object "NotationPress$Text")) 0 0 400
theorem C_X11_fileOf : np_C yX11_fileOf cX11_fileOf 2 (some (.object "NotationPress$Text")) 0 0 0 0 sp_X11_fileOf := nq_inC 400 (by decide) (fun X Rt hX hmn hR => so_X11_fileOf hX hR)
theorem dX11_charactersIn_0 : decode cX11_charactersIn 0 = .ok (.iconst 0, 1) := by decide +kernel
theorem dX11_charactersIn_1 : decode cX11_charactersIn 1 = .ok (.istore_n 1, 1) := by decide +kernel
theorem dX11_charactersIn_2 : decode cX11_charactersIn 2 = .ok (.iload_n 0, 1) := by decide +kernel
theorem dX11_charactersIn_3 : decode cX11_charactersIn 3 = .ok (.istore_n 2, 1) := by decide +kernel
theorem dX11_charactersIn_4 : decode cX11_charactersIn 4 = .ok (.iload_n 2, 1) := by decide +kernel
theorem dX11_charactersIn_5 : decode cX11_charactersIn 5 = .ok (.ifCond .eq 44, 3) := by decide +kernel
theorem dX11_charactersIn_8 : decode cX11_charactersIn 8 = .ok (.iload_n 1, 1) := by decide +kernel
theorem dX11_charactersIn_9 : decode cX11_charactersIn 9 = .ok (.iconst 4, 1) := by decide +kernel
theorem dX11_charactersIn_10 : decode cX11_charactersIn 10 = .ok (.if_icmp .ge 39, 3) := by decide +kernel
theorem dX11_charactersIn_13 : decode cX11_charactersIn 13 = .ok (.iload_n 2, 1) := by decide +kernel
theorem dX11_charactersIn_14 : decode cX11_charactersIn 14 = .ok (.sipush 255, 3) := by decide +kernel
theorem dX11_charactersIn_17 : decode cX11_charactersIn 17 = .ok (.iand, 1) := by decide +kernel
theorem dX11_charactersIn_18 : decode cX11_charactersIn 18 = .ok (.istore_n 3, 1) := by decide +kernel
theorem dX11_charactersIn_19 : decode cX11_charactersIn 19 = .ok (.iload_n 3, 1) := by decide +kernel
theorem dX11_charactersIn_20 : decode cX11_charactersIn 20 = .ok (.bipush 10, 2) := by decide +kernel
theorem dX11_charactersIn_22 : decode cX11_charactersIn 22 = .ok (.if_icmp .eq 16, 3) := by decide +kernel
theorem dX11_charactersIn_25 : decode cX11_charactersIn 25 = .ok (.iload_n 3, 1) := by decide +kernel
theorem dX11_charactersIn_26 : decode cX11_charactersIn 26 = .ok (.bipush 32, 2) := by decide +kernel
theorem dX11_charactersIn_28 : decode cX11_charactersIn 28 = .ok (.bipush 126, 2) := by decide +kernel
theorem dX11_charactersIn_30 : decode cX11_charactersIn 30 = .ok (.invokestatic 440, 3) := by decide +kernel
theorem dX11_charactersIn_33 : decode cX11_charactersIn 33 = .ok (.ifCond .ne 5, 3) := by decide +kernel
theorem dX11_charactersIn_36 : decode cX11_charactersIn 36 = .ok (.iconst 0, 1) := by decide +kernel
theorem dX11_charactersIn_37 : decode cX11_charactersIn 37 = .ok (.ireturn, 1) := by decide +kernel
theorem dX11_charactersIn_38 : decode cX11_charactersIn 38 = .ok (.iinc 1 1, 3) := by decide +kernel
theorem dX11_charactersIn_41 : decode cX11_charactersIn 41 = .ok (.iload_n 2, 1) := by decide +kernel
theorem dX11_charactersIn_42 : decode cX11_charactersIn 42 = .ok (.bipush 8, 2) := by decide +kernel
theorem dX11_charactersIn_44 : decode cX11_charactersIn 44 = .ok (.iushr, 1) := by decide +kernel
theorem dX11_charactersIn_45 : decode cX11_charactersIn 45 = .ok (.istore_n 2, 1) := by decide +kernel
theorem dX11_charactersIn_46 : decode cX11_charactersIn 46 = .ok (.goto (-42), 3) := by decide +kernel
theorem dX11_charactersIn_49 : decode cX11_charactersIn 49 = .ok (.iload_n 1, 1) := by decide +kernel
theorem dX11_charactersIn_50 : decode cX11_charactersIn 50 = .ok (.ireturn, 1) := by decide +kernel
def is_X11_charactersIn (Rt : np_Rt) : List (Nat × np_Op) := [(0, np_push 1 (.int 0)), (1, np_ist 1 1), (2, np_ild 1 0), (3, np_ist 1 2), (4, np_ild 1 2), (5, nq_if (fun x => x = 0) 49), (8, np_ild 1 1), (9, np_push 1 (.int 4)), (10, nq_ic (fun x y => y ≤ x) 49), (13, np_ild 1 2), (14, np_push 3 (.int 255)), (17, np_ib (fun x y => x &&& y)), (18, np_ist 1 3), (19, np_ild 1 3), (20, np_push 2 (.int 10)), (22, nq_ic (fun x y => x = y) 38), (25, np_ild 1 3), (26, np_push 2 (.int 32)), (28, np_push 2 (.int 126)), (30, nq_call 3 sp_X11_isBetween 3 0 0 0 0), (33, nq_ifne 38), (36, np_push 1 (.int 0)), (37, np_ret Rt), (38, np_iinc 1 1), (41, np_ild 1 2), (42, np_push 2 (.int 8)), (44, np_ib (fun x y => (x.toUInt32 >>> (y.toUInt32 &&& Int32.toUInt32 31)).toInt32)), (45, np_ist 1 2), (46, np_goto 4), (49, np_ild 1 1), (50, np_ret Rt)]
set_option maxRecDepth 20000 in
theorem so_X11_charactersIn {X : np_Ctx} {Rt : np_Rt} (hX : np_ok RX11 cX11_charactersIn 4 1 22 0 0 .ireturn X) (hR : ∀ st w ce sl, Rt st w ce sl → X.2.2.1 st w ce sl) : ∀ q ∈ is_X11_charactersIn Rt, np_S X q.1 q.2 :=
  List.forall_mem_cons.mpr ⟨np_s_iconst hX dX11_charactersIn_0 (by decide), List.forall_mem_cons.mpr ⟨np_s_istore_n hX dX11_charactersIn_1 rfl (by decide), List.forall_mem_cons.mpr ⟨np_s_iload_n hX dX11_charactersIn_2 rfl, List.forall_mem_cons.mpr ⟨np_s_istore_n hX dX11_charactersIn_3 rfl (by decide), List.forall_mem_cons.mpr ⟨np_s_iload_n hX dX11_charactersIn_4 rfl, List.forall_mem_cons.mpr ⟨np_S.mono (op := np_if (fun x => x = 0) 49) (np_s_if_eq hX dX11_charactersIn_5 (by decide)) nq_if_le, List.forall_mem_cons.mpr ⟨np_s_iload_n hX dX11_charactersIn_8 rfl, List.forall_mem_cons.mpr ⟨np_s_iconst hX dX11_charactersIn_9 (by decide), List.forall_mem_cons.mpr ⟨np_S.mono (op := np_ic (fun x y => y ≤ x) 49) (np_s_icmp_ge hX dX11_charactersIn_10 (by decide)) nq_ic_le, List.forall_mem_cons.mpr ⟨np_s_iload_n hX dX11_charactersIn_13 rfl, List.forall_mem_cons.mpr ⟨np_s_sipush hX dX11_charactersIn_14 (by decide), List.forall_mem_cons.mpr ⟨np_s_iand hX dX11_charactersIn_17, List.forall_mem_cons.mpr ⟨np_s_istore_n hX dX11_charactersIn_18 rfl (by decide), List.forall_mem_cons.mpr ⟨np_s_iload_n hX dX11_charactersIn_19 rfl, List.forall_mem_cons.mpr ⟨np_s_bipush hX dX11_charactersIn_20 (by decide), List.forall_mem_cons.mpr ⟨np_S.mono (op := np_ic (fun x y => x = y) 38) (np_s_icmp_eq hX dX11_charactersIn_22 (by decide)) nq_ic_le, List.forall_mem_cons.mpr ⟨np_s_iload_n hX dX11_charactersIn_25 rfl, List.forall_mem_cons.mpr ⟨np_s_bipush hX dX11_charactersIn_26 (by decide), List.forall_mem_cons.mpr ⟨np_s_bipush hX dX11_charactersIn_28 (by decide), List.forall_mem_cons.mpr ⟨np_S.mono (op := np_call 3 sp_X11_isBetween 3 0 0 0 0) (np_s_callS hX C_X11_isBetween dX11_charactersIn_30 gw646 gw130 gw975 gw645 ⟨by decide, by decide, by decide⟩ (by decide) (by decide)) nq_call_le, List.forall_mem_cons.mpr ⟨np_S.mono (op := np_ifne 38) (np_s_if_ne hX dX11_charactersIn_33 (by decide)) nq_ifne_le, List.forall_mem_cons.mpr ⟨np_s_iconst hX dX11_charactersIn_36 (by decide), List.forall_mem_cons.mpr ⟨np_S.mono (op := np_ret X.2.2.1) (np_s_ret hX dX11_charactersIn_37) (nq_ret_le hR), List.forall_mem_cons.mpr ⟨np_s_iinc hX dX11_charactersIn_38 (by decide), List.forall_mem_cons.mpr ⟨np_s_iload_n hX dX11_charactersIn_41 rfl, List.forall_mem_cons.mpr ⟨np_s_bipush hX dX11_charactersIn_42 (by decide), List.forall_mem_cons.mpr ⟨np_s_iushr hX dX11_charactersIn_44, List.forall_mem_cons.mpr ⟨np_s_istore_n hX dX11_charactersIn_45 rfl (by decide), List.forall_mem_cons.mpr ⟨np_s_goto hX dX11_charactersIn_46 (by decide), List.forall_mem_cons.mpr ⟨np_s_iload_n hX dX11_charactersIn_49 rfl, List.forall_mem_cons.mpr ⟨np_S.mono (op := np_ret X.2.2.1) (np_s_ret hX dX11_charactersIn_50) (nq_ret_le hR), fun _ h => nomatch h⟩⟩⟩⟩⟩⟩⟩⟩⟩⟩⟩⟩⟩⟩⟩⟩⟩⟩⟩⟩⟩⟩⟩⟩⟩⟩⟩⟩⟩⟩⟩
abbrev sp_X11_charactersIn : np_Sp := nq_in is_X11_charactersIn (some .int) 0 0 400
theorem C_X11_charactersIn : np_C yX11_charactersIn cX11_charactersIn 4 (some .int) 1 22 0 0 sp_X11_charactersIn := nq_inC 400 (by decide) (fun X Rt hX hmn hR => so_X11_charactersIn hX hR)
theorem dX7_takes_0 : decode cX7_takes 0 = .ok (.aload_n 0, 1) := by decide +kernel
theorem dX7_takes_1 : decode cX7_takes 1 = .ok (.getfield 15, 3) := by decide +kernel
theorem dX7_takes_4 : decode cX7_takes 4 = .ok (.ifCond .eq 19, 3) := by decide +kernel
theorem dX7_takes_7 : decode cX7_takes 7 = .ok (.aload_n 0, 1) := by decide +kernel
theorem dX7_takes_8 : decode cX7_takes 8 = .ok (.getfield 19, 3) := by decide +kernel
theorem dX7_takes_11 : decode cX7_takes 11 = .ok (.iload_n 1, 1) := by decide +kernel
theorem dX7_takes_12 : decode cX7_takes 12 = .ok (.iadd, 1) := by decide +kernel
theorem dX7_takes_13 : decode cX7_takes 13 = .ok (.sipush 300, 3) := by decide +kernel
theorem dX7_takes_16 : decode cX7_takes 16 = .ok (.if_icmp .gt 7, 3) := by decide +kernel
theorem dX7_takes_19 : decode cX7_takes 19 = .ok (.iconst 1, 1) := by decide +kernel
theorem dX7_takes_20 : decode cX7_takes 20 = .ok (.goto 4, 3) := by decide +kernel
theorem dX7_takes_23 : decode cX7_takes 23 = .ok (.iconst 0, 1) := by decide +kernel
theorem dX7_takes_24 : decode cX7_takes 24 = .ok (.ireturn, 1) := by decide +kernel
def is_X7_takes (Rt : np_Rt) : List (Nat × np_Op) := [(0, np_ald 1 0), (1, nq_getf 7 2), (4, nq_if (fun x => x = 0) 23), (7, np_ald 1 0), (8, nq_getf 7 1), (11, np_ild 1 1), (12, np_ib (fun x y => x + y)), (13, np_push 3 (.int 300)), (16, nq_ic (fun x y => y < x) 23), (19, np_push 1 (.int 1)), (20, np_goto 24), (23, np_push 1 (.int 0)), (24, np_ret Rt)]
set_option maxRecDepth 20000 in
theorem so_X7_takes {X : np_Ctx} {Rt : np_Rt} (hX : np_ok RX7 cX7_takes 2 0 0 0 0 .ireturn X) (hR : ∀ st w ce sl, Rt st w ce sl → X.2.2.1 st w ce sl) : ∀ q ∈ is_X7_takes Rt, np_S X q.1 q.2 :=
  List.forall_mem_cons.mpr ⟨np_s_aload_n hX dX7_takes_0 rfl, List.forall_mem_cons.mpr ⟨np_S.mono (op := np_getf 7 2) (np_s_getf hX dX7_takes_1 (C := RX7) (T := TX7) (N := 3) rfl guX7 (by decide) gw277) nq_getf_le, List.forall_mem_cons.mpr ⟨np_S.mono (op := np_if (fun x => x = 0) 23) (np_s_if_eq hX dX7_takes_4 (by decide)) nq_if_le, List.forall_mem_cons.mpr ⟨np_s_aload_n hX dX7_takes_7 rfl, List.forall_mem_cons.mpr ⟨np_S.mono (op := np_getf 7 1) (np_s_getf hX dX7_takes_8 (C := RX7) (T := TX7) (N := 3) rfl guX7 (by decide) gw275) nq_getf_le, List.forall_mem_cons.mpr ⟨np_s_iload_n hX dX7_takes_11 rfl, List.forall_mem_cons.mpr ⟨np_s_iadd hX dX7_takes_12, List.forall_mem_cons.mpr ⟨np_s_sipush hX dX7_takes_13 (by decide), List.forall_mem_cons.mpr ⟨np_S.mono (op := np_ic (fun x y => y < x) 23) (np_s_icmp_gt hX dX7_takes_16 (by decide)) nq_ic_le, List.forall_mem_cons.mpr ⟨np_s_iconst hX dX7_takes_19 (by decide), List.forall_mem_cons.mpr ⟨np_s_goto hX dX7_takes_20 (by decide), List.forall_mem_cons.mpr ⟨np_s_iconst hX dX7_takes_23 (by decide), List.forall_mem_cons.mpr ⟨np_S.mono (op := np_ret X.2.2.1) (np_s_ret hX dX7_takes_24) (nq_ret_le hR), fun _ h => nomatch h⟩⟩⟩⟩⟩⟩⟩⟩⟩⟩⟩⟩⟩
abbrev sp_X7_takes : np_Sp := nq_in is_X7_takes (some .boolean) 0 0 400
theorem C_X7_takes : np_C yX7_takes cX7_takes 2 (some .boolean) 0 0 0 0 sp_X7_takes := nq_inC 400 (by decide) (fun X Rt hX hmn hR => so_X7_takes hX hR)
theorem dX7_append_0 : decode cX7_append 0 = .ok (.aload_n 0, 1) := by decide +kernel
theorem dX7_append_1 : decode cX7_append 1 = .ok (.getfield 19, 3) := by decide +kernel
theorem dX7_append_4 : decode cX7_append 4 = .ok (.ifCond .lt 15, 3) := by decide +kernel
theorem dX7_append_7 : decode cX7_append 7 = .ok (.aload_n 0, 1) := by decide +kernel
theorem dX7_append_8 : decode cX7_append 8 = .ok (.getfield 19, 3) := by decide +kernel
theorem dX7_append_11 : decode cX7_append 11 = .ok (.aload_n 0, 1) := by decide +kernel
theorem dX7_append_12 : decode cX7_append 12 = .ok (.getfield 9, 3) := by decide +kernel
theorem dX7_append_15 : decode cX7_append 15 = .ok (.arraylength, 1) := by decide +kernel
theorem dX7_append_16 : decode cX7_append 16 = .ok (.if_icmp .lt 4, 3) := by decide +kernel
theorem dX7_append_19 : decode cX7_append 19 = .ok (.return_, 1) := by decide +kernel
theorem dX7_append_20 : decode cX7_append 20 = .ok (.aload_n 0, 1) := by decide +kernel
theorem dX7_append_21 : decode cX7_append 21 = .ok (.getfield 9, 3) := by decide +kernel
theorem dX7_append_24 : decode cX7_append 24 = .ok (.aload_n 0, 1) := by decide +kernel
theorem dX7_append_25 : decode cX7_append 25 = .ok (.getfield 19, 3) := by decide +kernel
theorem dX7_append_28 : decode cX7_append 28 = .ok (.iload_n 1, 1) := by decide +kernel
theorem dX7_append_29 : decode cX7_append 29 = .ok (.i2c, 1) := by decide +kernel
theorem dX7_append_30 : decode cX7_append 30 = .ok (.castore, 1) := by decide +kernel
theorem dX7_append_31 : decode cX7_append 31 = .ok (.aload_n 0, 1) := by decide +kernel
theorem dX7_append_32 : decode cX7_append 32 = .ok (.dup, 1) := by decide +kernel
theorem dX7_append_33 : decode cX7_append 33 = .ok (.getfield 19, 3) := by decide +kernel
theorem dX7_append_36 : decode cX7_append 36 = .ok (.iconst 1, 1) := by decide +kernel
theorem dX7_append_37 : decode cX7_append 37 = .ok (.iadd, 1) := by decide +kernel
theorem dX7_append_38 : decode cX7_append 38 = .ok (.putfield 19, 3) := by decide +kernel
theorem dX7_append_41 : decode cX7_append 41 = .ok (.return_, 1) := by decide +kernel
def is_X7_append (Rt : np_Rt) : List (Nat × np_Op) := [(0, np_ald 1 0), (1, nq_getf 7 1), (4, nq_if (fun x => x < 0) 19), (7, np_ald 1 0), (8, nq_getf 7 1), (11, np_ald 1 0), (12, nq_getf 7 0), (15, np_alen), (16, nq_ic (fun x y => x < y) 20), (19, np_ret Rt), (20, np_ald 1 0), (21, nq_getf 7 0), (24, np_ald 1 0), (25, nq_getf 7 1), (28, np_ild 1 1), (29, np_iu (fun x => (x.toUInt32 % 65536).toInt32)), (30, nq_iastT .char), (31, np_ald 1 0), (32, nq_dup), (33, nq_getf 7 1), (36, np_push 1 (.int 1)), (37, np_ib (fun x y => x + y)), (38, nq_putf 7 1 (.int)), (41, np_ret Rt)]
set_option maxRecDepth 20000 in
theorem so_X7_append {X : np_Ctx} {Rt : np_Rt} (hX : np_ok RX7 cX7_append 2 0 0 0 0 .return_ X) (hR : ∀ st w ce sl, Rt st w ce sl → X.2.2.1 st w ce sl) : ∀ q ∈ is_X7_append Rt, np_S X q.1 q.2 :=
  List.forall_mem_cons.mpr ⟨np_s_aload_n hX dX7_append_0 rfl, List.forall_mem_cons.mpr ⟨np_S.mono (op := np_getf 7 1) (np_s_getf hX dX7_append_1 (C := RX7) (T := TX7) (N := 3) rfl guX7 (by decide) gw275) nq_getf_le, List.forall_mem_cons.mpr ⟨np_S.mono (op := np_if (fun x => x < 0) 19) (np_s_if_lt hX dX7_append_4 (by decide)) nq_if_le, List.forall_mem_cons.mpr ⟨np_s_aload_n hX dX7_append_7 rfl, List.forall_mem_cons.mpr ⟨np_S.mono (op := np_getf 7 1) (np_s_getf hX dX7_append_8 (C := RX7) (T := TX7) (N := 3) rfl guX7 (by decide) gw275) nq_getf_le, List.forall_mem_cons.mpr ⟨np_s_aload_n hX dX7_append_11 rfl, List.forall_mem_cons.mpr ⟨np_S.mono (op := np_getf 7 0) (np_s_getf hX dX7_append_12 (C := RX7) (T := TX7) (N := 3) rfl guX7 (by decide) gw274) nq_getf_le, List.forall_mem_cons.mpr ⟨np_s_alen hX dX7_append_15, List.forall_mem_cons.mpr ⟨np_S.mono (op := np_ic (fun x y => x < y) 20) (np_s_icmp_lt hX dX7_append_16 (by decide)) nq_ic_le, List.forall_mem_cons.mpr ⟨np_S.mono (op := np_ret X.2.2.1) (np_s_ret hX dX7_append_19) (nq_ret_le hR), List.forall_mem_cons.mpr ⟨np_s_aload_n hX dX7_append_20 rfl, List.forall_mem_cons.mpr ⟨np_S.mono (op := np_getf 7 0) (np_s_getf hX dX7_append_21 (C := RX7) (T := TX7) (N := 3) rfl guX7 (by decide) gw274) nq_getf_le, List.forall_mem_cons.mpr ⟨np_s_aload_n hX dX7_append_24 rfl, List.forall_mem_cons.mpr ⟨np_S.mono (op := np_getf 7 1) (np_s_getf hX dX7_append_25 (C := RX7) (T := TX7) (N := 3) rfl guX7 (by decide) gw275) nq_getf_le, List.forall_mem_cons.mpr ⟨np_s_iload_n hX dX7_append_28 rfl, List.forall_mem_cons.mpr ⟨np_s_i2c hX dX7_append_29, List.forall_mem_cons.mpr ⟨np_S.mono (op := np_iastT .char) (np_s_cast hX dX7_append_30) nq_iastT_le, List.forall_mem_cons.mpr ⟨np_s_aload_n hX dX7_append_31 rfl, List.forall_mem_cons.mpr ⟨np_S.mono (op := np_dup) (np_s_dup hX dX7_append_32) nq_dup_le, List.forall_mem_cons.mpr ⟨np_S.mono (op := np_getf 7 1) (np_s_getf hX dX7_append_33 (C := RX7) (T := TX7) (N := 3) rfl guX7 (by decide) gw275) nq_getf_le, List.forall_mem_cons.mpr ⟨np_s_iconst hX dX7_append_36 (by decide), List.forall_mem_cons.mpr ⟨np_s_iadd hX dX7_append_37, List.forall_mem_cons.mpr ⟨np_S.mono (op := np_putf 7 1 (.int)) (np_s_putf hX dX7_append_38 (C := RX7) (T := TX7) (N := 3) (ty0 := tyX7) rfl guX7 tyX7_ok nmX7 (by decide) gw275 rfl rfl) nq_putf_le, List.forall_mem_cons.mpr ⟨np_S.mono (op := np_ret X.2.2.1) (np_s_ret hX dX7_append_41) (nq_ret_le hR), fun _ h => nomatch h⟩⟩⟩⟩⟩⟩⟩⟩⟩⟩⟩⟩⟩⟩⟩⟩⟩⟩⟩⟩⟩⟩⟩⟩
abbrev sp_X7_append : np_Sp := nq_in is_X7_append none 0 0 400
theorem C_X7_append : np_C yX7_append cX7_append 2 none 0 0 0 0 sp_X7_append := nq_inC 400 (by decide) (fun X Rt hX hmn hR => so_X7_append hX hR)
theorem dX7_unitAt_0 : decode cX7_unitAt 0 = .ok (.iload_n 1, 1) := by decide +kernel
theorem dX7_unitAt_1 : decode cX7_unitAt 1 = .ok (.ifCond .lt 29, 3) := by decide +kernel
theorem dX7_unitAt_4 : decode cX7_unitAt 4 = .ok (.iload_n 1, 1) := by decide +kernel
theorem dX7_unitAt_5 : decode cX7_unitAt 5 = .ok (.aload_n 0, 1) := by decide +kernel
theorem dX7_unitAt_6 : decode cX7_unitAt 6 = .ok (.getfield 19, 3) := by decide +kernel
theorem dX7_unitAt_9 : decode cX7_unitAt 9 = .ok (.if_icmp .ge 21, 3) := by decide +kernel
theorem dX7_unitAt_12 : decode cX7_unitAt 12 = .ok (.iload_n 1, 1) := by decide +kernel
theorem dX7_unitAt_13 : decode cX7_unitAt 13 = .ok (.aload_n 0, 1) := by decide +kernel
theorem dX7_unitAt_14 : decode cX7_unitAt 14 = .ok (.getfield 9, 3) := by decide +kernel
theorem dX7_unitAt_17 : decode cX7_unitAt 17 = .ok (.arraylength, 1) := by decide +kernel
theorem dX7_unitAt_18 : decode cX7_unitAt 18 = .ok (.if_icmp .ge 12, 3) := by decide +kernel
theorem dX7_unitAt_21 : decode cX7_unitAt 21 = .ok (.aload_n 0, 1) := by decide +kernel
theorem dX7_unitAt_22 : decode cX7_unitAt 22 = .ok (.getfield 9, 3) := by decide +kernel
theorem dX7_unitAt_25 : decode cX7_unitAt 25 = .ok (.iload_n 1, 1) := by decide +kernel
theorem dX7_unitAt_26 : decode cX7_unitAt 26 = .ok (.caload, 1) := by decide +kernel
theorem dX7_unitAt_27 : decode cX7_unitAt 27 = .ok (.goto 4, 3) := by decide +kernel
theorem dX7_unitAt_30 : decode cX7_unitAt 30 = .ok (.iconst (-1), 1) := by decide +kernel
theorem dX7_unitAt_31 : decode cX7_unitAt 31 = .ok (.ireturn, 1) := by decide +kernel
def is_X7_unitAt (Rt : np_Rt) : List (Nat × np_Op) := [(0, np_ild 1 1), (1, nq_if (fun x => x < 0) 30), (4, np_ild 1 1), (5, np_ald 1 0), (6, nq_getf 7 1), (9, nq_ic (fun x y => y ≤ x) 30), (12, np_ild 1 1), (13, np_ald 1 0), (14, nq_getf 7 0), (17, np_alen), (18, nq_ic (fun x y => y ≤ x) 30), (21, np_ald 1 0), (22, nq_getf 7 0), (25, np_ild 1 1), (26, nq_ialdT .char), (27, np_goto 31), (30, np_push 1 (.int (-1))), (31, np_ret Rt)]
set_option maxRecDepth 20000 in
theorem so_X7_unitAt {X : np_Ctx} {Rt : np_Rt} (hX : np_ok RX7 cX7_unitAt 2 0 0 0 0 .ireturn X) (hR : ∀ st w ce sl, Rt st w ce sl → X.2.2.1 st w ce sl) : ∀ q ∈ is_X7_unitAt Rt, np_S X q.1 q.2 :=
  List.forall_mem_cons.mpr ⟨np_s_iload_n hX dX7_unitAt_0 rfl, List.forall_mem_cons.mpr ⟨np_S.mono (op := np_if (fun x => x < 0) 30) (np_s_if_lt hX dX7_unitAt_1 (by decide)) nq_if_le, List.forall_mem_cons.mpr ⟨np_s_iload_n hX dX7_unitAt_4 rfl, List.forall_mem_cons.mpr ⟨np_s_aload_n hX dX7_unitAt_5 rfl, List.forall_mem_cons.mpr ⟨np_S.mono (op := np_getf 7 1) (np_s_getf hX dX7_unitAt_6 (C := RX7) (T := TX7) (N := 3) rfl guX7 (by decide) gw275) nq_getf_le, List.forall_mem_cons.mpr ⟨np_S.mono (op := np_ic (fun x y => y ≤ x) 30) (np_s_icmp_ge hX dX7_unitAt_9 (by decide)) nq_ic_le, List.forall_mem_cons.mpr ⟨np_s_iload_n hX dX7_unitAt_12 rfl, List.forall_mem_cons.mpr ⟨np_s_aload_n hX dX7_unitAt_13 rfl, List.forall_mem_cons.mpr ⟨np_S.mono (op := np_getf 7 0) (np_s_getf hX dX7_unitAt_14 (C := RX7) (T := TX7) (N := 3) rfl guX7 (by decide) gw274) nq_getf_le, List.forall_mem_cons.mpr ⟨np_s_alen hX dX7_unitAt_17, List.forall_mem_cons.mpr ⟨np_S.mono (op := np_ic (fun x y => y ≤ x) 30) (np_s_icmp_ge hX dX7_unitAt_18 (by decide)) nq_ic_le, List.forall_mem_cons.mpr ⟨np_s_aload_n hX dX7_unitAt_21 rfl, List.forall_mem_cons.mpr ⟨np_S.mono (op := np_getf 7 0) (np_s_getf hX dX7_unitAt_22 (C := RX7) (T := TX7) (N := 3) rfl guX7 (by decide) gw274) nq_getf_le, List.forall_mem_cons.mpr ⟨np_s_iload_n hX dX7_unitAt_25 rfl, List.forall_mem_cons.mpr ⟨np_S.mono (op := np_ialdT .char) (np_s_cald hX dX7_unitAt_26) nq_ialdT_le, List.forall_mem_cons.mpr ⟨np_s_goto hX dX7_unitAt_27 (by decide), List.forall_mem_cons.mpr ⟨np_s_iconst hX dX7_unitAt_30 (by decide), List.forall_mem_cons.mpr ⟨np_S.mono (op := np_ret X.2.2.1) (np_s_ret hX dX7_unitAt_31) (nq_ret_le hR), fun _ h => nomatch h⟩⟩⟩⟩⟩⟩⟩⟩⟩⟩⟩⟩⟩⟩⟩⟩⟩⟩
abbrev sp_X7_unitAt : np_Sp := nq_in is_X7_unitAt (some .int) 0 0 400
theorem C_X7_unitAt : np_C yX7_unitAt cX7_unitAt 2 (some .int) 0 0 0 0 sp_X7_unitAt := nq_inC 400 (by decide) (fun X Rt hX hmn hR => so_X7_unitAt hX hR)
theorem dX11_tableOf_0 : decode cX11_tableOf 0 = .ok (.iload_n 1, 1) := by decide +kernel
theorem dX11_tableOf_1 : decode cX11_tableOf 1 = .ok (.ifCond .lt 21, 3) := by decide +kernel
theorem dX11_tableOf_4 : decode cX11_tableOf 4 = .ok (.iload_n 1, 1) := by decide +kernel
theorem dX11_tableOf_5 : decode cX11_tableOf 5 = .ok (.aload_n 0, 1) := by decide +kernel
theorem dX11_tableOf_6 : decode cX11_tableOf 6 = .ok (.getfield 40, 3) := by decide +kernel
theorem dX11_tableOf_9 : decode cX11_tableOf 9 = .ok (.arraylength, 1) := by decide +kernel
theorem dX11_tableOf_10 : decode cX11_tableOf 10 = .ok (.if_icmp .ge 12, 3) := by decide +kernel
theorem dX11_tableOf_13 : decode cX11_tableOf 13 = .ok (.aload_n 0, 1) := by decide +kernel
theorem dX11_tableOf_14 : decode cX11_tableOf 14 = .ok (.getfield 40, 3) := by decide +kernel
theorem dX11_tableOf_17 : decode cX11_tableOf 17 = .ok (.iload_n 1, 1) := by decide +kernel
theorem dX11_tableOf_18 : decode cX11_tableOf 18 = .ok (.aaload, 1) := by decide +kernel
theorem dX11_tableOf_19 : decode cX11_tableOf 19 = .ok (.goto 4, 3) := by decide +kernel
theorem dX11_tableOf_22 : decode cX11_tableOf 22 = .ok (.aconst_null, 1) := by decide +kernel
theorem dX11_tableOf_23 : decode cX11_tableOf 23 = .ok (.areturn, 1) := by decide +kernel
def is_X11_tableOf (Rt : np_Rt) : List (Nat × np_Op) := [(0, np_ild 1 1), (1, nq_if (fun x => x < 0) 22), (4, np_ild 1 1), (5, np_ald 1 0), (6, nq_getf 11 5), (9, np_alen), (10, nq_ic (fun x y => y ≤ x) 22), (13, np_ald 1 0), (14, nq_getf 11 5), (17, np_ild 1 1), (18, nq_aald "NotationPress$Table"), (19, np_goto 23), (22, np_push 1 .null), (23, np_ret Rt)]
set_option maxRecDepth 20000 in
theorem so_X11_tableOf {X : np_Ctx} {Rt : np_Rt} (hX : np_ok RX11 cX11_tableOf 2 0 0 0 0 .areturn X) (hR : ∀ st w ce sl, Rt st w ce sl → X.2.2.1 st w ce sl) : ∀ q ∈ is_X11_tableOf Rt, np_S X q.1 q.2 :=
  List.forall_mem_cons.mpr ⟨np_s_iload_n hX dX11_tableOf_0 rfl, List.forall_mem_cons.mpr ⟨np_S.mono (op := np_if (fun x => x < 0) 22) (np_s_if_lt hX dX11_tableOf_1 (by decide)) nq_if_le, List.forall_mem_cons.mpr ⟨np_s_iload_n hX dX11_tableOf_4 rfl, List.forall_mem_cons.mpr ⟨np_s_aload_n hX dX11_tableOf_5 rfl, List.forall_mem_cons.mpr ⟨np_S.mono (op := np_getf 11 5) (np_s_getf hX dX11_tableOf_6 (C := RX11) (T := TX11) (N := 14) rfl guX11 (by decide) gw511) nq_getf_le, List.forall_mem_cons.mpr ⟨np_s_alen hX dX11_tableOf_9, List.forall_mem_cons.mpr ⟨np_S.mono (op := np_ic (fun x y => y ≤ x) 22) (np_s_icmp_ge hX dX11_tableOf_10 (by decide)) nq_ic_le, List.forall_mem_cons.mpr ⟨np_s_aload_n hX dX11_tableOf_13 rfl, List.forall_mem_cons.mpr ⟨np_S.mono (op := np_getf 11 5) (np_s_getf hX dX11_tableOf_14 (C := RX11) (T := TX11) (N := 14) rfl guX11 (by decide) gw511) nq_getf_le, List.forall_mem_cons.mpr ⟨np_s_iload_n hX dX11_tableOf_17 rfl, List.forall_mem_cons.mpr ⟨np_S.mono (op := np_aald "NotationPress$Table") (np_s_aald hX dX11_tableOf_18) nq_aald_le, List.forall_mem_cons.mpr ⟨np_s_goto hX dX11_tableOf_19 (by decide), List.forall_mem_cons.mpr ⟨np_s_null hX dX11_tableOf_22, List.forall_mem_cons.mpr ⟨np_S.mono (op := np_ret X.2.2.1) (np_s_ret hX dX11_tableOf_23) (nq_ret_le hR), fun _ h => nomatch h⟩⟩⟩⟩⟩⟩⟩⟩⟩⟩⟩⟩⟩⟩
abbrev sp_X11_tableOf : np_Sp := nq_in is_X11_tableOf (some (.object "NotationPress$Table")) 0 0 400
theorem C_X11_tableOf : np_C yX11_tableOf cX11_tableOf 2 (some (.object "NotationPress$Table")) 0 0 0 0 sp_X11_tableOf := nq_inC 400 (by decide) (fun X Rt hX hmn hR => so_X11_tableOf hX hR)
theorem dX6_hasRow_0 : decode cX6_hasRow 0 = .ok (.iload_n 1, 1) := by decide +kernel
theorem dX6_hasRow_1 : decode cX6_hasRow 1 = .ok (.ifCond .lt 15, 3) := by decide +kernel
theorem dX6_hasRow_4 : decode cX6_hasRow 4 = .ok (.iload_n 1, 1) := by decide +kernel
theorem dX6_hasRow_5 : decode cX6_hasRow 5 = .ok (.aload_n 0, 1) := by decide +kernel
theorem dX6_hasRow_6 : decode cX6_hasRow 6 = .ok (.getfield 39, 3) := by decide +kernel
theorem dX6_hasRow_9 : decode cX6_hasRow 9 = .ok (.if_icmp .ge 7, 3) := by decide +kernel
theorem dX6_hasRow_12 : decode cX6_hasRow 12 = .ok (.iconst 1, 1) := by decide +kernel
theorem dX6_hasRow_13 : decode cX6_hasRow 13 = .ok (.goto 4, 3) := by decide +kernel
theorem dX6_hasRow_16 : decode cX6_hasRow 16 = .ok (.iconst 0, 1) := by decide +kernel
theorem dX6_hasRow_17 : decode cX6_hasRow 17 = .ok (.ireturn, 1) := by decide +kernel
def is_X6_hasRow (Rt : np_Rt) : List (Nat × np_Op) := [(0, np_ild 1 1), (1, nq_if (fun x => x < 0) 16), (4, np_ild 1 1), (5, np_ald 1 0), (6, nq_getf 6 7), (9, nq_ic (fun x y => y ≤ x) 16), (12, np_push 1 (.int 1)), (13, np_goto 17), (16, np_push 1 (.int 0)), (17, np_ret Rt)]
set_option maxRecDepth 20000 in
theorem so_X6_hasRow {X : np_Ctx} {Rt : np_Rt} (hX : np_ok RX6 cX6_hasRow 2 0 0 0 0 .ireturn X) (hR : ∀ st w ce sl, Rt st w ce sl → X.2.2.1 st w ce sl) : ∀ q ∈ is_X6_hasRow Rt, np_S X q.1 q.2 :=
  List.forall_mem_cons.mpr ⟨np_s_iload_n hX dX6_hasRow_0 rfl, List.forall_mem_cons.mpr ⟨np_S.mono (op := np_if (fun x => x < 0) 16) (np_s_if_lt hX dX6_hasRow_1 (by decide)) nq_if_le, List.forall_mem_cons.mpr ⟨np_s_iload_n hX dX6_hasRow_4 rfl, List.forall_mem_cons.mpr ⟨np_s_aload_n hX dX6_hasRow_5 rfl, List.forall_mem_cons.mpr ⟨np_S.mono (op := np_getf 6 7) (np_s_getf hX dX6_hasRow_6 (C := RX6) (T := TX6) (N := 12) rfl guX6 (by decide) gw421) nq_getf_le, List.forall_mem_cons.mpr ⟨np_S.mono (op := np_ic (fun x y => y ≤ x) 16) (np_s_icmp_ge hX dX6_hasRow_9 (by decide)) nq_ic_le, List.forall_mem_cons.mpr ⟨np_s_iconst hX dX6_hasRow_12 (by decide), List.forall_mem_cons.mpr ⟨np_s_goto hX dX6_hasRow_13 (by decide), List.forall_mem_cons.mpr ⟨np_s_iconst hX dX6_hasRow_16 (by decide), List.forall_mem_cons.mpr ⟨np_S.mono (op := np_ret X.2.2.1) (np_s_ret hX dX6_hasRow_17) (nq_ret_le hR), fun _ h => nomatch h⟩⟩⟩⟩⟩⟩⟩⟩⟩⟩
abbrev sp_X6_hasRow : np_Sp := nq_in is_X6_hasRow (some .boolean) 0 0 400
theorem C_X6_hasRow : np_C yX6_hasRow cX6_hasRow 2 (some .boolean) 0 0 0 0 sp_X6_hasRow := nq_inC 400 (by decide) (fun X Rt hX hmn hR => so_X6_hasRow hX hR)
theorem dX0_become_0 : decode cX0_become 0 = .ok (.aload_n 0, 1) := by decide +kernel
theorem dX0_become_1 : decode cX0_become 1 = .ok (.aload_n 1, 1) := by decide +kernel
theorem dX0_become_2 : decode cX0_become 2 = .ok (.putfield 18, 3) := by decide +kernel
theorem dX0_become_5 : decode cX0_become 5 = .ok (.aload_n 0, 1) := by decide +kernel
theorem dX0_become_6 : decode cX0_become 6 = .ok (.iload_n 2, 1) := by decide +kernel
theorem dX0_become_7 : decode cX0_become 7 = .ok (.putfield 22, 3) := by decide +kernel
theorem dX0_become_10 : decode cX0_become 10 = .ok (.aload_n 0, 1) := by decide +kernel
theorem dX0_become_11 : decode cX0_become 11 = .ok (.iload_n 3, 1) := by decide +kernel
theorem dX0_become_12 : decode cX0_become 12 = .ok (.putfield 26, 3) := by decide +kernel
theorem dX0_become_15 : decode cX0_become 15 = .ok (.aload_n 0, 1) := by decide +kernel
theorem dX0_become_16 : decode cX0_become 16 = .ok (.iload 4, 2) := by decide +kernel
theorem dX0_become_18 : decode cX0_become 18 = .ok (.putfield 29, 3) := by decide +kernel
theorem dX0_become_21 : decode cX0_become 21 = .ok (.return_, 1) := by decide +kernel
def is_X0_become (Rt : np_Rt) : List (Nat × np_Op) := [(0, np_ald 1 0), (1, np_ald 1 1), (2, nq_putf 0 2 (.object "NotationPress$Table")), (5, np_ald 1 0), (6, np_ild 1 2), (7, nq_putf 0 3 (.int)), (10, np_ald 1 0), (11, np_ild 1 3), (12, nq_putf 0 4 (.int)), (15, np_ald 1 0), (16, np_ild 2 4), (18, nq_putf 0 5 (.int)), (21, np_ret Rt)]
set_option maxRecDepth 20000 in
theorem so_X0_become {X : np_Ctx} {Rt : np_Rt} (hX : np_ok RX0 cX0_become 5 0 0 0 0 .return_ X) (hR : ∀ st w ce sl, Rt st w ce sl → X.2.2.1 st w ce sl) : ∀ q ∈ is_X0_become Rt, np_S X q.1 q.2 :=
  List.forall_mem_cons.mpr ⟨np_s_aload_n hX dX0_become_0 rfl, List.forall_mem_cons.mpr ⟨np_s_aload_n hX dX0_become_1 rfl, List.forall_mem_cons.mpr ⟨np_S.mono (op := np_putf 0 2 (.object "NotationPress$Table")) (np_s_putf hX dX0_become_2 (C := RX0) (T := TX0) (N := 6) (ty0 := tyX0) rfl guX0 tyX0_ok nmX0 (by decide) gw461 rfl rfl) nq_putf_le, List.forall_mem_cons.mpr ⟨np_s_aload_n hX dX0_become_5 rfl, List.forall_mem_cons.mpr ⟨np_s_iload_n hX dX0_become_6 rfl, List.forall_mem_cons.mpr ⟨np_S.mono (op := np_putf 0 3 (.int)) (np_s_putf hX dX0_become_7 (C := RX0) (T := TX0) (N := 6) (ty0 := tyX0) rfl guX0 tyX0_ok nmX0 (by decide) gw462 rfl rfl) nq_putf_le, List.forall_mem_cons.mpr ⟨np_s_aload_n hX dX0_become_10 rfl, List.forall_mem_cons.mpr ⟨np_s_iload_n hX dX0_become_11 rfl, List.forall_mem_cons.mpr ⟨np_S.mono (op := np_putf 0 4 (.int)) (np_s_putf hX dX0_become_12 (C := RX0) (T := TX0) (N := 6) (ty0 := tyX0) rfl guX0 tyX0_ok nmX0 (by decide) gw463 rfl rfl) nq_putf_le, List.forall_mem_cons.mpr ⟨np_s_aload_n hX dX0_become_15 rfl, List.forall_mem_cons.mpr ⟨np_s_iload hX dX0_become_16, List.forall_mem_cons.mpr ⟨np_S.mono (op := np_putf 0 5 (.int)) (np_s_putf hX dX0_become_18 (C := RX0) (T := TX0) (N := 6) (ty0 := tyX0) rfl guX0 tyX0_ok nmX0 (by decide) gw464 rfl rfl) nq_putf_le, List.forall_mem_cons.mpr ⟨np_S.mono (op := np_ret X.2.2.1) (np_s_ret hX dX0_become_21) (nq_ret_le hR), fun _ h => nomatch h⟩⟩⟩⟩⟩⟩⟩⟩⟩⟩⟩⟩⟩
abbrev sp_X0_become : np_Sp := nq_in is_X0_become none 0 0 400
theorem C_X0_become : np_C yX0_become cX0_become 5 none 0 0 0 0 sp_X0_become := nq_inC 400 (by decide) (fun X Rt hX hmn hR => so_X0_become hX hR)
theorem dX11_columnOf_0 : decode cX11_columnOf 0 = .ok (.iload_n 1, 1) := by decide +kernel
theorem dX11_columnOf_1 : decode cX11_columnOf 1 = .ok (.ifCond .lt 29, 3) := by decide +kernel
theorem dX11_columnOf_4 : decode cX11_columnOf 4 = .ok (.iload_n 1, 1) := by decide +kernel
theorem dX11_columnOf_5 : decode cX11_columnOf 5 = .ok (.aload_n 0, 1) := by decide +kernel
theorem dX11_columnOf_6 : decode cX11_columnOf 6 = .ok (.getfield 348, 3) := by decide +kernel
theorem dX11_columnOf_9 : decode cX11_columnOf 9 = .ok (.if_icmp .ge 21, 3) := by decide +kernel
theorem dX11_columnOf_12 : decode cX11_columnOf 12 = .ok (.iload_n 1, 1) := by decide +kernel
theorem dX11_columnOf_13 : decode cX11_columnOf 13 = .ok (.aload_n 0, 1) := by decide +kernel
theorem dX11_columnOf_14 : decode cX11_columnOf 14 = .ok (.getfield 67, 3) := by decide +kernel
theorem dX11_columnOf_17 : decode cX11_columnOf 17 = .ok (.arraylength, 1) := by decide +kernel
theorem dX11_columnOf_18 : decode cX11_columnOf 18 = .ok (.if_icmp .ge 12, 3) := by decide +kernel
theorem dX11_columnOf_21 : decode cX11_columnOf 21 = .ok (.aload_n 0, 1) := by decide +kernel
theorem dX11_columnOf_22 : decode cX11_columnOf 22 = .ok (.getfield 67, 3) := by decide +kernel
theorem dX11_columnOf_25 : decode cX11_columnOf 25 = .ok (.iload_n 1, 1) := by decide +kernel
theorem dX11_columnOf_26 : decode cX11_columnOf 26 = .ok (.aaload, 1) := by decide +kernel
theorem dX11_columnOf_27 : decode cX11_columnOf 27 = .ok (.goto 4, 3) := by decide +kernel
theorem dX11_columnOf_30 : decode cX11_columnOf 30 = .ok (.aconst_null, 1) := by decide +kernel
theorem dX11_columnOf_31 : decode cX11_columnOf 31 = .ok (.areturn, 1) := by decide +kernel
def is_X11_columnOf (Rt : np_Rt) : List (Nat × np_Op) := [(0, np_ild 1 1), (1, nq_if (fun x => x < 0) 30), (4, np_ild 1 1), (5, np_ald 1 0), (6, nq_getf 11 10), (9, nq_ic (fun x y => y ≤ x) 30), (12, np_ild 1 1), (13, np_ald 1 0), (14, nq_getf 11 9), (17, np_alen), (18, nq_ic (fun x y => y ≤ x) 30), (21, np_ald 1 0), (22, nq_getf 11 9), (25, np_ild 1 1), (26, nq_aald "NotationPress$Column"), (27, np_goto 31), (30, np_push 1 .null), (31, np_ret Rt)]
set_option maxRecDepth 20000 in
theorem so_X11_columnOf {X : np_Ctx} {Rt : np_Rt} (hX : np_ok RX11 cX11_columnOf 2 0 0 0 0 .areturn X) (hR : ∀ st w ce sl, Rt st w ce sl → X.2.2.1 st w ce sl) : ∀ q ∈ is_X11_columnOf Rt, np_S X q.1 q.2 :=
  List.forall_mem_cons.mpr ⟨np_s_iload_n hX dX11_columnOf_0 rfl, List.forall_mem_cons.mpr ⟨np_S.mono (op := np_if (fun x => x < 0) 30) (np_s_if_lt hX dX11_columnOf_1 (by decide)) nq_if_le, List.forall_mem_cons.mpr ⟨np_s_iload_n hX dX11_columnOf_4 rfl, List.forall_mem_cons.mpr ⟨np_s_aload_n hX dX11_columnOf_5 rfl, List.forall_mem_cons.mpr ⟨np_S.mono (op := np_getf 11 10) (np_s_getf hX dX11_columnOf_6 (C := RX11) (T := TX11) (N := 14) rfl guX11 (by decide) gw516) nq_getf_le, List.forall_mem_cons.mpr ⟨np_S.mono (op := np_ic (fun x y => y ≤ x) 30) (np_s_icmp_ge hX dX11_columnOf_9 (by decide)) nq_ic_le, List.forall_mem_cons.mpr ⟨np_s_iload_n hX dX11_columnOf_12 rfl, List.forall_mem_cons.mpr ⟨np_s_aload_n hX dX11_columnOf_13 rfl, List.forall_mem_cons.mpr ⟨np_S.mono (op := np_getf 11 9) (np_s_getf hX dX11_columnOf_14 (C := RX11) (T := TX11) (N := 14) rfl guX11 (by decide) gw515) nq_getf_le, List.forall_mem_cons.mpr ⟨np_s_alen hX dX11_columnOf_17, List.forall_mem_cons.mpr ⟨np_S.mono (op := np_ic (fun x y => y ≤ x) 30) (np_s_icmp_ge hX dX11_columnOf_18 (by decide)) nq_ic_le, List.forall_mem_cons.mpr ⟨np_s_aload_n hX dX11_columnOf_21 rfl, List.forall_mem_cons.mpr ⟨np_S.mono (op := np_getf 11 9) (np_s_getf hX dX11_columnOf_22 (C := RX11) (T := TX11) (N := 14) rfl guX11 (by decide) gw515) nq_getf_le, List.forall_mem_cons.mpr ⟨np_s_iload_n hX dX11_columnOf_25 rfl, List.forall_mem_cons.mpr ⟨np_S.mono (op := np_aald "NotationPress$Column") (np_s_aald hX dX11_columnOf_26) nq_aald_le, List.forall_mem_cons.mpr ⟨np_s_goto hX dX11_columnOf_27 (by decide), List.forall_mem_cons.mpr ⟨np_s_null hX dX11_columnOf_30, List.forall_mem_cons.mpr ⟨np_S.mono (op := np_ret X.2.2.1) (np_s_ret hX dX11_columnOf_31) (nq_ret_le hR), fun _ h => nomatch h⟩⟩⟩⟩⟩⟩⟩⟩⟩⟩⟩⟩⟩⟩⟩⟩⟩⟩
abbrev sp_X11_columnOf : np_Sp := nq_in is_X11_columnOf (some (.object "NotationPress$Column")) 0 0 400
theorem C_X11_columnOf : np_C yX11_columnOf cX11_columnOf 2 (some (.object "NotationPress$Column")) 0 0 0 0 sp_X11_columnOf := nq_inC 400 (by decide) (fun X Rt hX hmn hR => so_X11_columnOf hX hR)
theorem dX10_inRange_0 : decode cX10_inRange 0 = .ok (.iload_n 0, 1) := by decide +kernel
theorem dX10_inRange_1 : decode cX10_inRange 1 = .ok (.tableswitch 92 0 4 #[35, 45, 68, 79, 87], 35) := by decide +kernel
theorem dX10_inRange_36 : decode cX10_inRange 36 = .ok (.iload_n 2, 1) := by decide +kernel
theorem dX10_inRange_37 : decode cX10_inRange 37 = .ok (.ifCond .ne 7, 3) := by decide +kernel
theorem dX10_inRange_40 : decode cX10_inRange 40 = .ok (.iconst 1, 1) := by decide +kernel
theorem dX10_inRange_41 : decode cX10_inRange 41 = .ok (.goto 4, 3) := by decide +kernel
theorem dX10_inRange_44 : decode cX10_inRange 44 = .ok (.iconst 0, 1) := by decide +kernel
theorem dX10_inRange_45 : decode cX10_inRange 45 = .ok (.ireturn, 1) := by decide +kernel
theorem dX10_inRange_46 : decode cX10_inRange 46 = .ok (.iload_n 1, 1) := by decide +kernel
theorem dX10_inRange_47 : decode cX10_inRange 47 = .ok (.sipush (-999), 3) := by decide +kernel
theorem dX10_inRange_50 : decode cX10_inRange 50 = .ok (.sipush 999, 3) := by decide +kernel
theorem dX10_inRange_53 : decode cX10_inRange 53 = .ok (.invokestatic 25, 3) := by decide +kernel
theorem dX10_inRange_56 : decode cX10_inRange 56 = .ok (.ifCond .eq 11, 3) := by decide +kernel
theorem dX10_inRange_59 : decode cX10_inRange 59 = .ok (.iload_n 2, 1) := by decide +kernel
theorem dX10_inRange_60 : decode cX10_inRange 60 = .ok (.ifCond .ne 7, 3) := by decide +kernel
theorem dX10_inRange_63 : decode cX10_inRange 63 = .ok (.iconst 1, 1) := by decide +kernel
theorem dX10_inRange_64 : decode cX10_inRange 64 = .ok (.goto 4, 3) := by decide +kernel
theorem dX10_inRange_67 : decode cX10_inRange 67 = .ok (.iconst 0, 1) := by decide +kernel
theorem dX10_inRange_68 : decode cX10_inRange 68 = .ok (.ireturn, 1) := by decide +kernel
theorem dX10_inRange_69 : decode cX10_inRange 69 = .ok (.iload_n 2, 1) := by decide +kernel
theorem dX10_inRange_70 : decode cX10_inRange 70 = .ok (.sipush (-999), 3) := by decide +kernel
theorem dX10_inRange_73 : decode cX10_inRange 73 = .ok (.sipush 999, 3) := by decide +kernel
theorem dX10_inRange_76 : decode cX10_inRange 76 = .ok (.invokestatic 25, 3) := by decide +kernel
theorem dX10_inRange_79 : decode cX10_inRange 79 = .ok (.ireturn, 1) := by decide +kernel
theorem dX10_inRange_80 : decode cX10_inRange 80 = .ok (.iload_n 2, 1) := by decide +kernel
theorem dX10_inRange_81 : decode cX10_inRange 81 = .ok (.iconst 2, 1) := by decide +kernel
theorem dX10_inRange_82 : decode cX10_inRange 82 = .ok (.bipush 9, 2) := by decide +kernel
theorem dX10_inRange_84 : decode cX10_inRange 84 = .ok (.invokestatic 25, 3) := by decide +kernel
theorem dX10_inRange_87 : decode cX10_inRange 87 = .ok (.ireturn, 1) := by decide +kernel
theorem dX10_inRange_88 : decode cX10_inRange 88 = .ok (.iload_n 2, 1) := by decide +kernel
theorem dX10_inRange_89 : decode cX10_inRange 89 = .ok (.invokestatic 29, 3) := by decide +kernel
theorem dX10_inRange_92 : decode cX10_inRange 92 = .ok (.ireturn, 1) := by decide +kernel
theorem dX10_inRange_93 : decode cX10_inRange 93 = .ok (.iconst 0, 1) := by decide +kernel
theorem dX10_inRange_94 : decode cX10_inRange 94 = .ok (.ireturn, 1) := by decide +kernel
def is_X10_inRange (Rt : np_Rt) : List (Nat × np_Op) := [(0, np_ild 1 0), (1, nq_tsw (0) [36, 46, 69, 80, 88] 93), (36, np_ild 1 2), (37, nq_ifne 44), (40, np_push 1 (.int 1)), (41, np_goto 45), (44, np_push 1 (.int 0)), (45, np_ret Rt), (46, np_ild 1 1), (47, np_push 3 (.int (-999))), (50, np_push 3 (.int 999)), (53, nq_call 3 sp_X11_isBetween 3 0 0 0 0), (56, nq_if (fun x => x = 0) 67), (59, np_ild 1 2), (60, nq_ifne 67), (63, np_push 1 (.int 1)), (64, np_goto 68), (67, np_push 1 (.int 0)), (68, np_ret Rt), (69, np_ild 1 2), (70, np_push 3 (.int (-999))), (73, np_push 3 (.int 999)), (76, nq_call 3 sp_X11_isBetween 3 0 0 0 0), (79, np_ret Rt), (80, np_ild 1 2), (81, np_push 1 (.int 2)), (82, np_push 2 (.int 9)), (84, nq_call 3 sp_X11_isBetween 3 0 0 0 0), (87, np_ret Rt), (88, np_ild 1 2), (89, nq_call 1 sp_X11_isSlot 1 0 0 0 0), (92, np_ret Rt), (93, np_push 1 (.int 0)), (94, np_ret Rt)]
set_option maxRecDepth 20000 in
theorem so_X10_inRange {X : np_Ctx} {Rt : np_Rt} (hX : np_ok RX10 cX10_inRange 3 1 22 0 0 .ireturn X) (hR : ∀ st w ce sl, Rt st w ce sl → X.2.2.1 st w ce sl) : ∀ q ∈ is_X10_inRange Rt, np_S X q.1 q.2 :=
  List.forall_mem_cons.mpr ⟨np_s_iload_n hX dX10_inRange_0 rfl, List.forall_mem_cons.mpr ⟨np_S.mono (op := np_tsw (0) (4) [36, 46, 69, 80, 88] 93) (np_s_tsw hX dX10_inRange_1 (by decide) (by decide) (by decide)) (nq_tsw_le (by decide)), List.forall_mem_cons.mpr ⟨np_s_iload_n hX dX10_inRange_36 rfl, List.forall_mem_cons.mpr ⟨np_S.mono (op := np_ifne 44) (np_s_if_ne hX dX10_inRange_37 (by decide)) nq_ifne_le, List.forall_mem_cons.mpr ⟨np_s_iconst hX dX10_inRange_40 (by decide), List.forall_mem_cons.mpr ⟨np_s_goto hX dX10_inRange_41 (by decide), List.forall_mem_cons.mpr ⟨np_s_iconst hX dX10_inRange_44 (by decide), List.forall_mem_cons.mpr ⟨np_S.mono (op := np_ret X.2.2.1) (np_s_ret hX dX10_inRange_45) (nq_ret_le hR), List.forall_mem_cons.mpr ⟨np_s_iload_n hX dX10_inRange_46 rfl, List.forall_mem_cons.mpr ⟨np_s_sipush hX dX10_inRange_47 (by decide), List.forall_mem_cons.mpr ⟨np_s_sipush hX dX10_inRange_50 (by decide), List.forall_mem_cons.mpr ⟨np_S.mono (op := np_call 3 sp_X11_isBetween 3 0 0 0 0) (np_s_callSN hX C_X11_isBetween dX10_inRange_53 gw646 gw130 gw1417 gw645 ⟨by decide, by decide, by decide⟩ (by decide) (by decide)) nq_call_le, List.forall_mem_cons.mpr ⟨np_S.mono (op := np_if (fun x => x = 0) 67) (np_s_if_eq hX dX10_inRange_56 (by decide)) nq_if_le, List.forall_mem_cons.mpr ⟨np_s_iload_n hX dX10_inRange_59 rfl, List.forall_mem_cons.mpr ⟨np_S.mono (op := np_ifne 67) (np_s_if_ne hX dX10_inRange_60 (by decide)) nq_ifne_le, List.forall_mem_cons.mpr ⟨np_s_iconst hX dX10_inRange_63 (by decide), List.forall_mem_cons.mpr ⟨np_s_goto hX dX10_inRange_64 (by decide), List.forall_mem_cons.mpr ⟨np_s_iconst hX dX10_inRange_67 (by decide), List.forall_mem_cons.mpr ⟨np_S.mono (op := np_ret X.2.2.1) (np_s_ret hX dX10_inRange_68) (nq_ret_le hR), List.forall_mem_cons.mpr ⟨np_s_iload_n hX dX10_inRange_69 rfl, List.forall_mem_cons.mpr ⟨np_s_sipush hX dX10_inRange_70 (by decide), List.forall_mem_cons.mpr ⟨np_s_sipush hX dX10_inRange_73 (by decide), List.forall_mem_cons.mpr ⟨np_S.mono (op := np_call 3 sp_X11_isBetween 3 0 0 0 0) (np_s_callSN hX C_X11_isBetween dX10_inRange_76 gw646 gw130 gw1417 gw645 ⟨by decide, by decide, by decide⟩ (by decide) (by decide)) nq_call_le, List.forall_mem_cons.mpr ⟨np_S.mono (op := np_ret X.2.2.1) (np_s_ret hX dX10_inRange_79) (nq_ret_le hR), List.forall_mem_cons.mpr ⟨np_s_iload_n hX dX10_inRange_80 rfl, List.forall_mem_cons.mpr ⟨np_s_iconst hX dX10_inRange_81 (by decide), List.forall_mem_cons.mpr ⟨np_s_bipush hX dX10_inRange_82 (by decide), List.forall_mem_cons.mpr ⟨np_S.mono (op := np_call 3 sp_X11_isBetween 3 0 0 0 0) (np_s_callSN hX C_X11_isBetween dX10_inRange_84 gw646 gw130 gw1417 gw645 ⟨by decide, by decide, by decide⟩ (by decide) (by decide)) nq_call_le, List.forall_mem_cons.mpr ⟨np_S.mono (op := np_ret X.2.2.1) (np_s_ret hX dX10_inRange_87) (nq_ret_le hR), List.forall_mem_cons.mpr ⟨np_s_iload_n hX dX10_inRange_88 rfl, List.forall_mem_cons.mpr ⟨np_S.mono (op := np_call 1 sp_X11_isSlot 1 0 0 0 0) (np_s_callSN hX C_X11_isSlot dX10_inRange_89 gw572 gw130 gw1418 gw571 ⟨by decide, by decide, by decide⟩ (by decide) (by decide)) nq_call_le, List.forall_mem_cons.mpr ⟨np_S.mono (op := np_ret X.2.2.1) (np_s_ret hX dX10_inRange_92) (nq_ret_le hR), List.forall_mem_cons.mpr ⟨np_s_iconst hX dX10_inRange_93 (by decide), List.forall_mem_cons.mpr ⟨np_S.mono (op := np_ret X.2.2.1) (np_s_ret hX dX10_inRange_94) (nq_ret_le hR), fun _ h => nomatch h⟩⟩⟩⟩⟩⟩⟩⟩⟩⟩⟩⟩⟩⟩⟩⟩⟩⟩⟩⟩⟩⟩⟩⟩⟩⟩⟩⟩⟩⟩⟩⟩⟩⟩
abbrev sp_X10_inRange : np_Sp := nq_in is_X10_inRange (some .boolean) 0 0 400
theorem C_X10_inRange : np_C yX10_inRange cX10_inRange 3 (some .boolean) 1 22 0 0 sp_X10_inRange := nq_inC 400 (by decide) (fun X Rt hX hmn hR => so_X10_inRange hX hR)
theorem dX10_add_0 : decode cX10_add 0 = .ok (.aload_n 0, 1) := by decide +kernel
theorem dX10_add_1 : decode cX10_add 1 = .ok (.getfield 9, 3) := by decide +kernel
theorem dX10_add_4 : decode cX10_add 4 = .ok (.iload_n 2, 1) := by decide +kernel
theorem dX10_add_5 : decode cX10_add 5 = .ok (.iload_n 1, 1) := by decide +kernel
theorem dX10_add_6 : decode cX10_add 6 = .ok (.invokestatic 33, 3) := by decide +kernel
theorem dX10_add_9 : decode cX10_add 9 = .ok (.aload_n 0, 1) := by decide +kernel
theorem dX10_add_10 : decode cX10_add 10 = .ok (.getfield 15, 3) := by decide +kernel
theorem dX10_add_13 : decode cX10_add 13 = .ok (.iload_n 2, 1) := by decide +kernel
theorem dX10_add_14 : decode cX10_add 14 = .ok (.iload_n 3, 1) := by decide +kernel
theorem dX10_add_15 : decode cX10_add 15 = .ok (.invokestatic 33, 3) := by decide +kernel
theorem dX10_add_18 : decode cX10_add 18 = .ok (.aload_n 0, 1) := by decide +kernel
theorem dX10_add_19 : decode cX10_add 19 = .ok (.getfield 18, 3) := by decide +kernel
theorem dX10_add_22 : decode cX10_add 22 = .ok (.iload_n 2, 1) := by decide +kernel
theorem dX10_add_23 : decode cX10_add 23 = .ok (.iload 4, 2) := by decide +kernel
theorem dX10_add_25 : decode cX10_add 25 = .ok (.invokestatic 33, 3) := by decide +kernel
theorem dX10_add_28 : decode cX10_add 28 = .ok (.return_, 1) := by decide +kernel
def is_X10_add (Rt : np_Rt) : List (Nat × np_Op) := [(0, np_ald 1 0), (1, nq_getf 10 0), (4, np_ild 1 2), (5, np_ild 1 1), (6, nq_call 3 sp_X11_put 3 0 0 0 0), (9, np_ald 1 0), (10, nq_getf 10 1), (13, np_ild 1 2), (14, np_ild 1 3), (15, nq_call 3 sp_X11_put 3 0 0 0 0), (18, np_ald 1 0), (19, nq_getf 10 2), (22, np_ild 1 2), (23, np_ild 2 4), (25, nq_call 3 sp_X11_put 3 0 0 0 0), (28, np_ret Rt)]
set_option maxRecDepth 20000 in
theorem so_X10_add {X : np_Ctx} {Rt : np_Rt} (hX : np_ok RX10 cX10_add 5 1 22 0 0 .return_ X) (hR : ∀ st w ce sl, Rt st w ce sl → X.2.2.1 st w ce sl) : ∀ q ∈ is_X10_add Rt, np_S X q.1 q.2 :=
  List.forall_mem_cons.mpr ⟨np_s_aload_n hX dX10_add_0 rfl, List.forall_mem_cons.mpr ⟨np_S.mono (op := np_getf 10 0) (np_s_getf hX dX10_add_1 (C := RX10) (T := TX10) (N := 3) rfl guX10 (by decide) gw356) nq_getf_le, List.forall_mem_cons.mpr ⟨np_s_iload_n hX dX10_add_4 rfl, List.forall_mem_cons.mpr ⟨np_s_iload_n hX dX10_add_5 rfl, List.forall_mem_cons.mpr ⟨np_S.mono (op := np_call 3 sp_X11_put 3 0 0 0 0) (np_s_callSN hX C_X11_put dX10_add_6 gw689 gw130 gw1424 gw688 ⟨by decide, by decide, by decide⟩ (by decide) (by decide)) nq_call_le, List.forall_mem_cons.mpr ⟨np_s_aload_n hX dX10_add_9 rfl, List.forall_mem_cons.mpr ⟨np_S.mono (op := np_getf 10 1) (np_s_getf hX dX10_add_10 (C := RX10) (T := TX10) (N := 3) rfl guX10 (by decide) gw358) nq_getf_le, List.forall_mem_cons.mpr ⟨np_s_iload_n hX dX10_add_13 rfl, List.forall_mem_cons.mpr ⟨np_s_iload_n hX dX10_add_14 rfl, List.forall_mem_cons.mpr ⟨np_S.mono (op := np_call 3 sp_X11_put 3 0 0 0 0) (np_s_callSN hX C_X11_put dX10_add_15 gw689 gw130 gw1424 gw688 ⟨by decide, by decide, by decide⟩ (by decide) (by decide)) nq_call_le, List.forall_mem_cons.mpr ⟨np_s_aload_n hX dX10_add_18 rfl, List.forall_mem_cons.mpr ⟨np_S.mono (op := np_getf 10 2) (np_s_getf hX dX10_add_19 (C := RX10) (T := TX10) (N := 3) rfl guX10 (by decide) gw360) nq_getf_le, List.forall_mem_cons.mpr ⟨np_s_iload_n hX dX10_add_22 rfl, List.forall_mem_cons.mpr ⟨np_s_iload hX dX10_add_23, List.forall_mem_cons.mpr ⟨np_S.mono (op := np_call 3 sp_X11_put 3 0 0 0 0) (np_s_callSN hX C_X11_put dX10_add_25 gw689 gw130 gw1424 gw688 ⟨by decide, by decide, by decide⟩ (by decide) (by decide)) nq_call_le, List.forall_mem_cons.mpr ⟨np_S.mono (op := np_ret X.2.2.1) (np_s_ret hX dX10_add_28) (nq_ret_le hR), fun _ h => nomatch h⟩⟩⟩⟩⟩⟩⟩⟩⟩⟩⟩⟩⟩⟩⟩⟩
abbrev sp_X10_add : np_Sp := nq_in is_X10_add none 0 0 400
theorem C_X10_add : np_C yX10_add cX10_add 5 none 1 22 0 0 sp_X10_add := nq_inC 400 (by decide) (fun X Rt hX hmn hR => so_X10_add hX hR)
theorem dX10_size_0 : decode cX10_size 0 = .ok (.iconst 0, 1) := by decide +kernel
theorem dX10_size_1 : decode cX10_size 1 = .ok (.istore_n 1, 1) := by decide +kernel
theorem dX10_size_2 : decode cX10_size 2 = .ok (.iconst 0, 1) := by decide +kernel
theorem dX10_size_3 : decode cX10_size 3 = .ok (.istore_n 2, 1) := by decide +kernel
theorem dX10_size_4 : decode cX10_size 4 = .ok (.iload_n 2, 1) := by decide +kernel
theorem dX10_size_5 : decode cX10_size 5 = .ok (.aload_n 0, 1) := by decide +kernel
theorem dX10_size_6 : decode cX10_size 6 = .ok (.getfield 9, 3) := by decide +kernel
theorem dX10_size_9 : decode cX10_size 9 = .ok (.arraylength, 1) := by decide +kernel
theorem dX10_size_10 : decode cX10_size 10 = .ok (.if_icmp .ge 22, 3) := by decide +kernel
theorem dX10_size_13 : decode cX10_size 13 = .ok (.aload_n 0, 1) := by decide +kernel
theorem dX10_size_14 : decode cX10_size 14 = .ok (.getfield 9, 3) := by decide +kernel
theorem dX10_size_17 : decode cX10_size 17 = .ok (.iload_n 2, 1) := by decide +kernel
theorem dX10_size_18 : decode cX10_size 18 = .ok (.iaload, 1) := by decide +kernel
theorem dX10_size_19 : decode cX10_size 19 = .ok (.iconst (-1), 1) := by decide +kernel
theorem dX10_size_20 : decode cX10_size 20 = .ok (.if_icmp .eq 6, 3) := by decide +kernel
theorem dX10_size_23 : decode cX10_size 23 = .ok (.iinc 1 1, 3) := by decide +kernel
theorem dX10_size_26 : decode cX10_size 26 = .ok (.iinc 2 1, 3) := by decide +kernel
theorem dX10_size_29 : decode cX10_size 29 = .ok (.goto (-25), 3) := by decide +kernel
theorem dX10_size_32 : decode cX10_size 32 = .ok (.iload_n 1, 1) := by decide +kernel
theorem dX10_size_33 : decode cX10_size 33 = .ok (.ireturn, 1) := by decide +kernel
def is_X10_size (Rt : np_Rt) : List (Nat × np_Op) := [(0, np_push 1 (.int 0)), (1, np_ist 1 1), (2, np_push 1 (.int 0)), (3, np_ist 1 2), (4, np_ild 1 2), (5, np_ald 1 0), (6, nq_getf 10 0), (9, np_alen), (10, nq_ic (fun x y => y ≤ x) 32), (13, np_ald 1 0), (14, nq_getf 10 0), (17, np_ild 1 2), (18, nq_ialdT .int), (19, np_push 1 (.int (-1))), (20, nq_ic (fun x y => x = y) 26), (23, np_iinc 1 1), (26, np_iinc 2 1), (29, np_goto 4), (32, np_ild 1 1), (33, np_ret Rt)]
set_option maxRecDepth 20000 in
theorem so_X10_size {X : np_Ctx} {Rt : np_Rt} (hX : np_ok RX10 cX10_size 3 0 0 0 0 .ireturn X) (hR : ∀ st w ce sl, Rt st w ce sl → X.2.2.1 st w ce sl) : ∀ q ∈ is_X10_size Rt, np_S X q.1 q.2 :=
  List.forall_mem_cons.mpr ⟨np_s_iconst hX dX10_size_0 (by decide), List.forall_mem_cons.mpr ⟨np_s_istore_n hX dX10_size_1 rfl (by decide), List.forall_mem_cons.mpr ⟨np_s_iconst hX dX10_size_2 (by decide), List.forall_mem_cons.mpr ⟨np_s_istore_n hX dX10_size_3 rfl (by decide), List.forall_mem_cons.mpr ⟨np_s_iload_n hX dX10_size_4 rfl, List.forall_mem_cons.mpr ⟨np_s_aload_n hX dX10_size_5 rfl, List.forall_mem_cons.mpr ⟨np_S.mono (op := np_getf 10 0) (np_s_getf hX dX10_size_6 (C := RX10) (T := TX10) (N := 3) rfl guX10 (by decide) gw356) nq_getf_le, List.forall_mem_cons.mpr ⟨np_s_alen hX dX10_size_9, List.forall_mem_cons.mpr ⟨np_S.mono (op := np_ic (fun x y => y ≤ x) 32) (np_s_icmp_ge hX dX10_size_10 (by decide)) nq_ic_le, List.forall_mem_cons.mpr ⟨np_s_aload_n hX dX10_size_13 rfl, List.forall_mem_cons.mpr ⟨np_S.mono (op := np_getf 10 0) (np_s_getf hX dX10_size_14 (C := RX10) (T := TX10) (N := 3) rfl guX10 (by decide) gw356) nq_getf_le, List.forall_mem_cons.mpr ⟨np_s_iload_n hX dX10_size_17 rfl, List.forall_mem_cons.mpr ⟨np_S.mono (op := np_ialdT .int) (np_s_iald hX dX10_size_18) nq_ialdT_le, List.forall_mem_cons.mpr ⟨np_s_iconst hX dX10_size_19 (by decide), List.forall_mem_cons.mpr ⟨np_S.mono (op := np_ic (fun x y => x = y) 26) (np_s_icmp_eq hX dX10_size_20 (by decide)) nq_ic_le, List.forall_mem_cons.mpr ⟨np_s_iinc hX dX10_size_23 (by decide), List.forall_mem_cons.mpr ⟨np_s_iinc hX dX10_size_26 (by decide), List.forall_mem_cons.mpr ⟨np_s_goto hX dX10_size_29 (by decide), List.forall_mem_cons.mpr ⟨np_s_iload_n hX dX10_size_32 rfl, List.forall_mem_cons.mpr ⟨np_S.mono (op := np_ret X.2.2.1) (np_s_ret hX dX10_size_33) (nq_ret_le hR), fun _ h => nomatch h⟩⟩⟩⟩⟩⟩⟩⟩⟩⟩⟩⟩⟩⟩⟩⟩⟩⟩⟩⟩
abbrev sp_X10_size : np_Sp := nq_in is_X10_size (some .int) 0 0 400
theorem C_X10_size : np_C yX10_size cX10_size 3 (some .int) 0 0 0 0 sp_X10_size := nq_inC 400 (by decide) (fun X Rt hX hmn hR => so_X10_size hX hR)
theorem dX11_nextUpgrade_0 : decode cX11_nextUpgrade 0 = .ok (.aload_n 0, 1) := by decide +kernel
theorem dX11_nextUpgrade_1 : decode cX11_nextUpgrade 1 = .ok (.getfield 390, 3) := by decide +kernel
theorem dX11_nextUpgrade_4 : decode cX11_nextUpgrade 4 = .ok (.ifCond .lt 27, 3) := by decide +kernel
theorem dX11_nextUpgrade_7 : decode cX11_nextUpgrade 7 = .ok (.aload_n 0, 1) := by decide +kernel
theorem dX11_nextUpgrade_8 : decode cX11_nextUpgrade 8 = .ok (.getfield 390, 3) := by decide +kernel
theorem dX11_nextUpgrade_11 : decode cX11_nextUpgrade 11 = .ok (.aload_n 0, 1) := by decide +kernel
theorem dX11_nextUpgrade_12 : decode cX11_nextUpgrade 12 = .ok (.getfield 80, 3) := by decide +kernel
theorem dX11_nextUpgrade_15 : decode cX11_nextUpgrade 15 = .ok (.arraylength, 1) := by decide +kernel
theorem dX11_nextUpgrade_16 : decode cX11_nextUpgrade 16 = .ok (.if_icmp .ge 15, 3) := by decide +kernel
theorem dX11_nextUpgrade_19 : decode cX11_nextUpgrade 19 = .ok (.aload_n 0, 1) := by decide +kernel
theorem dX11_nextUpgrade_20 : decode cX11_nextUpgrade 20 = .ok (.getfield 80, 3) := by decide +kernel
theorem dX11_nextUpgrade_23 : decode cX11_nextUpgrade 23 = .ok (.aload_n 0, 1) := by decide +kernel
theorem dX11_nextUpgrade_24 : decode cX11_nextUpgrade 24 = .ok (.getfield 390, 3) := by decide +kernel
theorem dX11_nextUpgrade_27 : decode cX11_nextUpgrade 27 = .ok (.aaload, 1) := by decide +kernel
theorem dX11_nextUpgrade_28 : decode cX11_nextUpgrade 28 = .ok (.goto 4, 3) := by decide +kernel
theorem dX11_nextUpgrade_31 : decode cX11_nextUpgrade 31 = .ok (.aconst_null, 1) := by decide +kernel
theorem dX11_nextUpgrade_32 : decode cX11_nextUpgrade 32 = .ok (.areturn, 1) := by decide +kernel
def is_X11_nextUpgrade (Rt : np_Rt) : List (Nat × np_Op) := [(0, np_ald 1 0), (1, nq_getf 11 13), (4, nq_if (fun x => x < 0) 31), (7, np_ald 1 0), (8, nq_getf 11 13), (11, np_ald 1 0), (12, nq_getf 11 12), (15, np_alen), (16, nq_ic (fun x y => y ≤ x) 31), (19, np_ald 1 0), (20, nq_getf 11 12), (23, np_ald 1 0), (24, nq_getf 11 13), (27, nq_aald "NotationPress$Upgrade"), (28, np_goto 32), (31, np_push 1 .null), (32, np_ret Rt)]
set_option maxRecDepth 20000 in
theorem so_X11_nextUpgrade {X : np_Ctx} {Rt : np_Rt} (hX : np_ok RX11 cX11_nextUpgrade 1 0 0 0 0 .areturn X) (hR : ∀ st w ce sl, Rt st w ce sl → X.2.2.1 st w ce sl) : ∀ q ∈ is_X11_nextUpgrade Rt, np_S X q.1 q.2 :=
  List.forall_mem_cons.mpr ⟨np_s_aload_n hX dX11_nextUpgrade_0 rfl, List.forall_mem_cons.mpr ⟨np_S.mono (op := np_getf 11 13) (np_s_getf hX dX11_nextUpgrade_1 (C := RX11) (T := TX11) (N := 14) rfl guX11 (by decide) gw519) nq_getf_le, List.forall_mem_cons.mpr ⟨np_S.mono (op := np_if (fun x => x < 0) 31) (np_s_if_lt hX dX11_nextUpgrade_4 (by decide)) nq_if_le, List.forall_mem_cons.mpr ⟨np_s_aload_n hX dX11_nextUpgrade_7 rfl, List.forall_mem_cons.mpr ⟨np_S.mono (op := np_getf 11 13) (np_s_getf hX dX11_nextUpgrade_8 (C := RX11) (T := TX11) (N := 14) rfl guX11 (by decide) gw519) nq_getf_le, List.forall_mem_cons.mpr ⟨np_s_aload_n hX dX11_nextUpgrade_11 rfl, List.forall_mem_cons.mpr ⟨np_S.mono (op := np_getf 11 12) (np_s_getf hX dX11_nextUpgrade_12 (C := RX11) (T := TX11) (N := 14) rfl guX11 (by decide) gw518) nq_getf_le, List.forall_mem_cons.mpr ⟨np_s_alen hX dX11_nextUpgrade_15, List.forall_mem_cons.mpr ⟨np_S.mono (op := np_ic (fun x y => y ≤ x) 31) (np_s_icmp_ge hX dX11_nextUpgrade_16 (by decide)) nq_ic_le, List.forall_mem_cons.mpr ⟨np_s_aload_n hX dX11_nextUpgrade_19 rfl, List.forall_mem_cons.mpr ⟨np_S.mono (op := np_getf 11 12) (np_s_getf hX dX11_nextUpgrade_20 (C := RX11) (T := TX11) (N := 14) rfl guX11 (by decide) gw518) nq_getf_le, List.forall_mem_cons.mpr ⟨np_s_aload_n hX dX11_nextUpgrade_23 rfl, List.forall_mem_cons.mpr ⟨np_S.mono (op := np_getf 11 13) (np_s_getf hX dX11_nextUpgrade_24 (C := RX11) (T := TX11) (N := 14) rfl guX11 (by decide) gw519) nq_getf_le, List.forall_mem_cons.mpr ⟨np_S.mono (op := np_aald "NotationPress$Upgrade") (np_s_aald hX dX11_nextUpgrade_27) nq_aald_le, List.forall_mem_cons.mpr ⟨np_s_goto hX dX11_nextUpgrade_28 (by decide), List.forall_mem_cons.mpr ⟨np_s_null hX dX11_nextUpgrade_31, List.forall_mem_cons.mpr ⟨np_S.mono (op := np_ret X.2.2.1) (np_s_ret hX dX11_nextUpgrade_32) (nq_ret_le hR), fun _ h => nomatch h⟩⟩⟩⟩⟩⟩⟩⟩⟩⟩⟩⟩⟩⟩⟩⟩⟩
abbrev sp_X11_nextUpgrade : np_Sp := nq_in is_X11_nextUpgrade (some (.object "NotationPress$Upgrade")) 0 0 400
theorem C_X11_nextUpgrade : np_C yX11_nextUpgrade cX11_nextUpgrade 1 (some (.object "NotationPress$Upgrade")) 0 0 0 0 sp_X11_nextUpgrade := nq_inC 400 (by decide) (fun X Rt hX hmn hR => so_X11_nextUpgrade hX hR)
theorem dX9_addStep_0 : decode cX9_addStep 0 = .ok (.iload_n 1, 1) := by decide +kernel
theorem dX9_addStep_1 : decode cX9_addStep 1 = .ok (.iconst (-1), 1) := by decide +kernel
theorem dX9_addStep_2 : decode cX9_addStep 2 = .ok (.if_icmp .ne 4, 3) := by decide +kernel
theorem dX9_addStep_5 : decode cX9_addStep 5 = .ok (.return_, 1) := by decide +kernel
theorem dX9_addStep_6 : decode cX9_addStep 6 = .ok (.iload_n 1, 1) := by decide +kernel
theorem dX9_addStep_7 : decode cX9_addStep 7 = .ok (.iconst 2, 1) := by decide +kernel
theorem dX9_addStep_8 : decode cX9_addStep 8 = .ok (.if_icmp .eq 8, 3) := by decide +kernel
theorem dX9_addStep_11 : decode cX9_addStep 11 = .ok (.iload_n 1, 1) := by decide +kernel
theorem dX9_addStep_12 : decode cX9_addStep 12 = .ok (.iconst 3, 1) := by decide +kernel
theorem dX9_addStep_13 : decode cX9_addStep 13 = .ok (.if_icmp .ne 9, 3) := by decide +kernel
theorem dX9_addStep_16 : decode cX9_addStep 16 = .ok (.aload_n 0, 1) := by decide +kernel
theorem dX9_addStep_17 : decode cX9_addStep 17 = .ok (.iload_n 1, 1) := by decide +kernel
theorem dX9_addStep_18 : decode cX9_addStep 18 = .ok (.iload_n 3, 1) := by decide +kernel
theorem dX9_addStep_19 : decode cX9_addStep 19 = .ok (.invokevirtual 62, 3) := by decide +kernel
theorem dX9_addStep_22 : decode cX9_addStep 22 = .ok (.iload_n 1, 1) := by decide +kernel
theorem dX9_addStep_23 : decode cX9_addStep 23 = .ok (.iconst 4, 1) := by decide +kernel
theorem dX9_addStep_24 : decode cX9_addStep 24 = .ok (.if_icmp .ne 9, 3) := by decide +kernel
theorem dX9_addStep_27 : decode cX9_addStep 27 = .ok (.aload_n 0, 1) := by decide +kernel
theorem dX9_addStep_28 : decode cX9_addStep 28 = .ok (.iconst 4, 1) := by decide +kernel
theorem dX9_addStep_29 : decode cX9_addStep 29 = .ok (.iconst 0, 1) := by decide +kernel
theorem dX9_addStep_30 : decode cX9_addStep 30 = .ok (.invokevirtual 62, 3) := by decide +kernel
theorem dX9_addStep_33 : decode cX9_addStep 33 = .ok (.aload_n 0, 1) := by decide +kernel
theorem dX9_addStep_34 : decode cX9_addStep 34 = .ok (.iload_n 1, 1) := by decide +kernel
theorem dX9_addStep_35 : decode cX9_addStep 35 = .ok (.iconst 1, 1) := by decide +kernel
theorem dX9_addStep_36 : decode cX9_addStep 36 = .ok (.if_icmp .ne 7, 3) := by decide +kernel
theorem dX9_addStep_39 : decode cX9_addStep 39 = .ok (.iconst 1, 1) := by decide +kernel
theorem dX9_addStep_40 : decode cX9_addStep 40 = .ok (.goto 4, 3) := by decide +kernel
theorem dX9_addStep_43 : decode cX9_addStep 43 = .ok (.iconst 0, 1) := by decide +kernel
theorem dX9_addStep_44 : decode cX9_addStep 44 = .ok (.iload_n 2, 1) := by decide +kernel
theorem dX9_addStep_45 : decode cX9_addStep 45 = .ok (.invokevirtual 62, 3) := by decide +kernel
theorem dX9_addStep_48 : decode cX9_addStep 48 = .ok (.iload_n 1, 1) := by decide +kernel
theorem dX9_addStep_49 : decode cX9_addStep 49 = .ok (.iconst 4, 1) := by decide +kernel
theorem dX9_addStep_50 : decode cX9_addStep 50 = .ok (.if_icmp .ne 9, 3) := by decide +kernel
theorem dX9_addStep_53 : decode cX9_addStep 53 = .ok (.aload_n 0, 1) := by decide +kernel
theorem dX9_addStep_54 : decode cX9_addStep 54 = .ok (.iconst 0, 1) := by decide +kernel
theorem dX9_addStep_55 : decode cX9_addStep 55 = .ok (.iload_n 3, 1) := by decide +kernel
theorem dX9_addStep_56 : decode cX9_addStep 56 = .ok (.invokevirtual 62, 3) := by decide +kernel
theorem dX9_addStep_59 : decode cX9_addStep 59 = .ok (.return_, 1) := by decide +kernel
def is_X9_addStep (Rt : np_Rt) : List (Nat × np_Op) := [(0, np_ild 1 1), (1, np_push 1 (.int (-1))), (2, nq_icne 6), (5, np_ret Rt), (6, np_ild 1 1), (7, np_push 1 (.int 2)), (8, nq_ic (fun x y => x = y) 16), (11, np_ild 1 1), (12, np_push 1 (.int 3)), (13, nq_icne 22), (16, np_ald 1 0), (17, np_ild 1 1), (18, np_ild 1 3), (22, np_ild 1 1), (23, np_push 1 (.int 4)), (24, nq_icne 33), (27, np_ald 1 0), (28, np_push 1 (.int 4)), (29, np_push 1 (.int 0)), (33, np_ald 1 0), (34, np_ild 1 1), (35, np_push 1 (.int 1)), (36, nq_icne 43), (39, np_push 1 (.int 1)), (40, np_goto 44), (43, np_push 1 (.int 0)), (44, np_ild 1 2), (48, np_ild 1 1), (49, np_push 1 (.int 4)), (50, nq_icne 59), (53, np_ald 1 0), (54, np_push 1 (.int 0)), (55, np_ild 1 3), (59, np_ret Rt)]
set_option maxRecDepth 20000 in
theorem so_X9_addStep {X : np_Ctx} {Rt : np_Rt} (hX : np_ok RX9 cX9_addStep 4 0 0 0 0 .return_ X) (hR : ∀ st w ce sl, Rt st w ce sl → X.2.2.1 st w ce sl) : ∀ q ∈ is_X9_addStep Rt, np_S X q.1 q.2 :=
  List.forall_mem_cons.mpr ⟨np_s_iload_n hX dX9_addStep_0 rfl, List.forall_mem_cons.mpr ⟨np_s_iconst hX dX9_addStep_1 (by decide), List.forall_mem_cons.mpr ⟨np_S.mono (op := np_icne 6) (np_s_icmp_ne hX dX9_addStep_2 (by decide)) nq_icne_le, List.forall_mem_cons.mpr ⟨np_S.mono (op := np_ret X.2.2.1) (np_s_ret hX dX9_addStep_5) (nq_ret_le hR), List.forall_mem_cons.mpr ⟨np_s_iload_n hX dX9_addStep_6 rfl, List.forall_mem_cons.mpr ⟨np_s_iconst hX dX9_addStep_7 (by decide), List.forall_mem_cons.mpr ⟨np_S.mono (op := np_ic (fun x y => x = y) 16) (np_s_icmp_eq hX dX9_addStep_8 (by decide)) nq_ic_le, List.forall_mem_cons.mpr ⟨np_s_iload_n hX dX9_addStep_11 rfl, List.forall_mem_cons.mpr ⟨np_s_iconst hX dX9_addStep_12 (by decide), List.forall_mem_cons.mpr ⟨np_S.mono (op := np_icne 22) (np_s_icmp_ne hX dX9_addStep_13 (by decide)) nq_icne_le, List.forall_mem_cons.mpr ⟨np_s_aload_n hX dX9_addStep_16 rfl, List.forall_mem_cons.mpr ⟨np_s_iload_n hX dX9_addStep_17 rfl, List.forall_mem_cons.mpr ⟨np_s_iload_n hX dX9_addStep_18 rfl, List.forall_mem_cons.mpr ⟨np_s_iload_n hX dX9_addStep_22 rfl, List.forall_mem_cons.mpr ⟨np_s_iconst hX dX9_addStep_23 (by decide), List.forall_mem_cons.mpr ⟨np_S.mono (op := np_icne 33) (np_s_icmp_ne hX dX9_addStep_24 (by decide)) nq_icne_le, List.forall_mem_cons.mpr ⟨np_s_aload_n hX dX9_addStep_27 rfl, List.forall_mem_cons.mpr ⟨np_s_iconst hX dX9_addStep_28 (by decide), List.forall_mem_cons.mpr ⟨np_s_iconst hX dX9_addStep_29 (by decide), List.forall_mem_cons.mpr ⟨np_s_aload_n hX dX9_addStep_33 rfl, List.forall_mem_cons.mpr ⟨np_s_iload_n hX dX9_addStep_34 rfl, List.forall_mem_cons.mpr ⟨np_s_iconst hX dX9_addStep_35 (by decide), List.forall_mem_cons.mpr ⟨np_S.mono (op := np_icne 43) (np_s_icmp_ne hX dX9_addStep_36 (by decide)) nq_icne_le, List.forall_mem_cons.mpr ⟨np_s_iconst hX dX9_addStep_39 (by decide), List.forall_mem_cons.mpr ⟨np_s_goto hX dX9_addStep_40 (by decide), List.forall_mem_cons.mpr ⟨np_s_iconst hX dX9_addStep_43 (by decide), List.forall_mem_cons.mpr ⟨np_s_iload_n hX dX9_addStep_44 rfl, List.forall_mem_cons.mpr ⟨np_s_iload_n hX dX9_addStep_48 rfl, List.forall_mem_cons.mpr ⟨np_s_iconst hX dX9_addStep_49 (by decide), List.forall_mem_cons.mpr ⟨np_S.mono (op := np_icne 59) (np_s_icmp_ne hX dX9_addStep_50 (by decide)) nq_icne_le, List.forall_mem_cons.mpr ⟨np_s_aload_n hX dX9_addStep_53 rfl, List.forall_mem_cons.mpr ⟨np_s_iconst hX dX9_addStep_54 (by decide), List.forall_mem_cons.mpr ⟨np_s_iload_n hX dX9_addStep_55 rfl, List.forall_mem_cons.mpr ⟨np_S.mono (op := np_ret X.2.2.1) (np_s_ret hX dX9_addStep_59) (nq_ret_le hR), fun _ h => nomatch h⟩⟩⟩⟩⟩⟩⟩⟩⟩⟩⟩⟩⟩⟩⟩⟩⟩⟩⟩⟩⟩⟩⟩⟩⟩⟩⟩⟩⟩⟩⟩⟩⟩⟩
abbrev sp_X9_addStep : np_Sp := nq_in is_X9_addStep none 0 0 400
theorem C_X9_addStep : np_C yX9_addStep cX9_addStep 4 none 0 0 0 0 sp_X9_addStep := nq_inC 400 (by decide) (fun X Rt hX hmn hR => so_X9_addStep hX hR)
theorem dX9_buildFrom_0 : decode cX9_buildFrom 0 = .ok (.aload_n 0, 1) := by decide +kernel
theorem dX9_buildFrom_1 : decode cX9_buildFrom 1 = .ok (.iconst 0, 1) := by decide +kernel
theorem dX9_buildFrom_2 : decode cX9_buildFrom 2 = .ok (.putfield 41, 3) := by decide +kernel
theorem dX9_buildFrom_5 : decode cX9_buildFrom 5 = .ok (.iconst 0, 1) := by decide +kernel
theorem dX9_buildFrom_6 : decode cX9_buildFrom 6 = .ok (.istore_n 2, 1) := by decide +kernel
theorem dX9_buildFrom_7 : decode cX9_buildFrom 7 = .ok (.iload_n 2, 1) := by decide +kernel
theorem dX9_buildFrom_8 : decode cX9_buildFrom 8 = .ok (.bipush 8, 2) := by decide +kernel
theorem dX9_buildFrom_10 : decode cX9_buildFrom 10 = .ok (.if_icmp .ge 52, 3) := by decide +kernel
theorem dX9_buildFrom_13 : decode cX9_buildFrom 13 = .ok (.aload_n 0, 1) := by decide +kernel
theorem dX9_buildFrom_14 : decode cX9_buildFrom 14 = .ok (.aload_n 1, 1) := by decide +kernel
theorem dX9_buildFrom_15 : decode cX9_buildFrom 15 = .ok (.getfield 49, 3) := by decide +kernel
theorem dX9_buildFrom_18 : decode cX9_buildFrom 18 = .ok (.iload_n 2, 1) := by decide +kernel
theorem dX9_buildFrom_19 : decode cX9_buildFrom 19 = .ok (.iconst (-1), 1) := by decide +kernel
theorem dX9_buildFrom_20 : decode cX9_buildFrom 20 = .ok (.invokestatic 34, 3) := by decide +kernel
theorem dX9_buildFrom_23 : decode cX9_buildFrom 23 = .ok (.aload_n 1, 1) := by decide +kernel
theorem dX9_buildFrom_24 : decode cX9_buildFrom 24 = .ok (.getfield 52, 3) := by decide +kernel
theorem dX9_buildFrom_27 : decode cX9_buildFrom 27 = .ok (.iload_n 2, 1) := by decide +kernel
theorem dX9_buildFrom_28 : decode cX9_buildFrom 28 = .ok (.iconst 0, 1) := by decide +kernel
theorem dX9_buildFrom_29 : decode cX9_buildFrom 29 = .ok (.invokestatic 34, 3) := by decide +kernel
theorem dX9_buildFrom_32 : decode cX9_buildFrom 32 = .ok (.aload_n 1, 1) := by decide +kernel
theorem dX9_buildFrom_33 : decode cX9_buildFrom 33 = .ok (.getfield 55, 3) := by decide +kernel
theorem dX9_buildFrom_36 : decode cX9_buildFrom 36 = .ok (.iload_n 2, 1) := by decide +kernel
theorem dX9_buildFrom_37 : decode cX9_buildFrom 37 = .ok (.iconst 0, 1) := by decide +kernel
theorem dX9_buildFrom_38 : decode cX9_buildFrom 38 = .ok (.invokestatic 34, 3) := by decide +kernel
theorem dX9_buildFrom_41 : decode cX9_buildFrom 41 = .ok (.invokevirtual 58, 3) := by decide +kernel
theorem dX9_buildFrom_44 : decode cX9_buildFrom 44 = .ok (.aload_n 0, 1) := by decide +kernel
theorem dX9_buildFrom_45 : decode cX9_buildFrom 45 = .ok (.getfield 18, 3) := by decide +kernel
theorem dX9_buildFrom_48 : decode cX9_buildFrom 48 = .ok (.iload_n 2, 1) := by decide +kernel
theorem dX9_buildFrom_49 : decode cX9_buildFrom 49 = .ok (.aload_n 0, 1) := by decide +kernel
theorem dX9_buildFrom_50 : decode cX9_buildFrom 50 = .ok (.getfield 41, 3) := by decide +kernel
theorem dX9_buildFrom_53 : decode cX9_buildFrom 53 = .ok (.invokestatic 45, 3) := by decide +kernel
theorem dX9_buildFrom_56 : decode cX9_buildFrom 56 = .ok (.iinc 2 1, 3) := by decide +kernel
theorem dX9_buildFrom_59 : decode cX9_buildFrom 59 = .ok (.goto (-52), 3) := by decide +kernel
theorem dX9_buildFrom_62 : decode cX9_buildFrom 62 = .ok (.return_, 1) := by decide +kernel
def is_X9_buildFrom (Rt : np_Rt) : List (Nat × np_Op) := [(0, np_ald 1 0), (1, np_push 1 (.int 0)), (2, nq_putf 9 6 (.int)), (5, np_push 1 (.int 0)), (6, np_ist 1 2), (7, np_ild 1 2), (8, np_push 2 (.int 8)), (10, nq_ic (fun x y => y ≤ x) 62), (13, np_ald 1 0), (14, np_ald 1 1), (15, nq_getf 10 0), (18, np_ild 1 2), (19, np_push 1 (.int (-1))), (20, nq_call 3 sp_X11_at 3 0 0 0 0), (23, np_ald 1 1), (24, nq_getf 10 1), (27, np_ild 1 2), (28, np_push 1 (.int 0)), (29, nq_call 3 sp_X11_at 3 0 0 0 0), (32, np_ald 1 1), (33, nq_getf 10 2), (36, np_ild 1 2), (37, np_push 1 (.int 0)), (38, nq_call 3 sp_X11_at 3 0 0 0 0), (41, nq_callV 9 4 sp_X9_addStep 4 0 0 0 0), (44, np_ald 1 0), (45, nq_getf 9 2), (48, np_ild 1 2), (49, np_ald 1 0), (50, nq_getf 9 6), (53, nq_call 3 sp_X11_put 3 0 0 0 0), (56, np_iinc 2 1), (59, np_goto 7), (62, np_ret Rt)]
set_option maxRecDepth 20000 in
theorem so_X9_buildFrom {X : np_Ctx} {Rt : np_Rt} (hX : np_ok RX9 cX9_buildFrom 3 1 23 0 0 .return_ X) (hR : ∀ st w ce sl, Rt st w ce sl → X.2.2.1 st w ce sl) : ∀ q ∈ is_X9_buildFrom Rt, np_S X q.1 q.2 :=
  List.forall_mem_cons.mpr ⟨np_s_aload_n hX dX9_buildFrom_0 rfl, List.forall_mem_cons.mpr ⟨np_s_iconst hX dX9_buildFrom_1 (by decide), List.forall_mem_cons.mpr ⟨np_S.mono (op := np_putf 9 6 (.int)) (np_s_putf hX dX9_buildFrom_2 (C := RX9) (T := TX9) (N := 7) (ty0 := tyX9) rfl guX9 tyX9_ok nmX9 (by decide) gw489 rfl rfl) nq_putf_le, List.forall_mem_cons.mpr ⟨np_s_iconst hX dX9_buildFrom_5 (by decide), List.forall_mem_cons.mpr ⟨np_s_istore_n hX dX9_buildFrom_6 rfl (by decide), List.forall_mem_cons.mpr ⟨np_s_iload_n hX dX9_buildFrom_7 rfl, List.forall_mem_cons.mpr ⟨np_s_bipush hX dX9_buildFrom_8 (by decide), List.forall_mem_cons.mpr ⟨np_S.mono (op := np_ic (fun x y => y ≤ x) 62) (np_s_icmp_ge hX dX9_buildFrom_10 (by decide)) nq_ic_le, List.forall_mem_cons.mpr ⟨np_s_aload_n hX dX9_buildFrom_13 rfl, List.forall_mem_cons.mpr ⟨np_s_aload_n hX dX9_buildFrom_14 rfl, List.forall_mem_cons.mpr ⟨np_S.mono (op := np_getf 10 0) (np_s_getN hX dX9_buildFrom_15 (C := RX10) (T := TX10) (N := 3) rfl guX10 (by decide) gw357) nq_getf_le, List.forall_mem_cons.mpr ⟨np_s_iload_n hX dX9_buildFrom_18 rfl, List.forall_mem_cons.mpr ⟨np_s_iconst hX dX9_buildFrom_19 (by decide), List.forall_mem_cons.mpr ⟨np_S.mono (op := np_call 3 sp_X11_at 3 0 0 0 0) (np_s_callSN hX C_X11_at dX9_buildFrom_20 gw712 gw130 gw1445 gw711 ⟨by decide, by decide, by decide⟩ (by decide) (by decide)) nq_call_le, List.forall_mem_cons.mpr ⟨np_s_aload_n hX dX9_buildFrom_23 rfl, List.forall_mem_cons.mpr ⟨np_S.mono (op := np_getf 10 1) (np_s_getN hX dX9_buildFrom_24 (C := RX10) (T := TX10) (N := 3) rfl guX10 (by decide) gw359) nq_getf_le, List.forall_mem_cons.mpr ⟨np_s_iload_n hX dX9_buildFrom_27 rfl, List.forall_mem_cons.mpr ⟨np_s_iconst hX dX9_buildFrom_28 (by decide), List.forall_mem_cons.mpr ⟨np_S.mono (op := np_call 3 sp_X11_at 3 0 0 0 0) (np_s_callSN hX C_X11_at dX9_buildFrom_29 gw712 gw130 gw1445 gw711 ⟨by decide, by decide, by decide⟩ (by decide) (by decide)) nq_call_le, List.forall_mem_cons.mpr ⟨np_s_aload_n hX dX9_buildFrom_32 rfl, List.forall_mem_cons.mpr ⟨np_S.mono (op := np_getf 10 2) (np_s_getN hX dX9_buildFrom_33 (C := RX10) (T := TX10) (N := 3) rfl guX10 (by decide) gw361) nq_getf_le, List.forall_mem_cons.mpr ⟨np_s_iload_n hX dX9_buildFrom_36 rfl, List.forall_mem_cons.mpr ⟨np_s_iconst hX dX9_buildFrom_37 (by decide), List.forall_mem_cons.mpr ⟨np_S.mono (op := np_call 3 sp_X11_at 3 0 0 0 0) (np_s_callSN hX C_X11_at dX9_buildFrom_38 gw712 gw130 gw1445 gw711 ⟨by decide, by decide, by decide⟩ (by decide) (by decide)) nq_call_le, List.forall_mem_cons.mpr ⟨np_S.mono (op := np_callV 9 4 sp_X9_addStep 4 0 0 0 0) (np_s_callV hX C_X9_addStep dX9_buildFrom_41 (q := (RX9, TX9, 7)) rfl rfl gw1449 gw141 gw1446 gw1448 gw44 ⟨by decide, by decide, by decide⟩ (by decide) (by decide)) nq_callV_le, List.forall_mem_cons.mpr ⟨np_s_aload_n hX dX9_buildFrom_44 rfl, List.forall_mem_cons.mpr ⟨np_S.mono (op := np_getf 9 2) (np_s_getf hX dX9_buildFrom_45 (C := RX9) (T := TX9) (N := 7) rfl guX9 (by decide) gw485) nq_getf_le, List.forall_mem_cons.mpr ⟨np_s_iload_n hX dX9_buildFrom_48 rfl, List.forall_mem_cons.mpr ⟨np_s_aload_n hX dX9_buildFrom_49 rfl, List.forall_mem_cons.mpr ⟨np_S.mono (op := np_getf 9 6) (np_s_getf hX dX9_buildFrom_50 (C := RX9) (T := TX9) (N := 7) rfl guX9 (by decide) gw489) nq_getf_le, List.forall_mem_cons.mpr ⟨np_S.mono (op := np_call 3 sp_X11_put 3 0 0 0 0) (np_s_callSN hX C_X11_put dX9_buildFrom_53 gw689 gw130 gw1454 gw688 ⟨by decide, by decide, by decide⟩ (by decide) (by decide)) nq_call_le, List.forall_mem_cons.mpr ⟨np_s_iinc hX dX9_buildFrom_56 (by decide), List.forall_mem_cons.mpr ⟨np_s_goto hX dX9_buildFrom_59 (by decide), List.forall_mem_cons.mpr ⟨np_S.mono (op := np_ret X.2.2.1) (np_s_ret hX dX9_buildFrom_62) (nq_ret_le hR), fun _ h => nomatch h⟩⟩⟩⟩⟩⟩⟩⟩⟩⟩⟩⟩⟩⟩⟩⟩⟩⟩⟩⟩⟩⟩⟩⟩⟩⟩⟩⟩⟩⟩⟩⟩⟩⟩
abbrev sp_X9_buildFrom : np_Sp := nq_in is_X9_buildFrom none 0 0 400
theorem C_X9_buildFrom : np_C yX9_buildFrom cX9_buildFrom 3 none 1 23 0 0 sp_X9_buildFrom := nq_inC 400 (by decide) (fun X Rt hX hmn hR => so_X9_buildFrom hX hR)
theorem dX10_clear_0 : decode cX10_clear 0 = .ok (.aload_n 0, 1) := by decide +kernel
theorem dX10_clear_1 : decode cX10_clear 1 = .ok (.getfield 9, 3) := by decide +kernel
theorem dX10_clear_4 : decode cX10_clear 4 = .ok (.iconst (-1), 1) := by decide +kernel
theorem dX10_clear_5 : decode cX10_clear 5 = .ok (.invokestatic 21, 3) := by decide +kernel
theorem dX10_clear_8 : decode cX10_clear 8 = .ok (.return_, 1) := by decide +kernel
def is_X10_clear (Rt : np_Rt) : List (Nat × np_Op) := [(0, np_ald 1 0), (1, nq_getf 10 0), (4, np_push 1 (.int (-1))), (5, nq_call 2 sp_X11_fillAll 3 0 0 0 0), (8, np_ret Rt)]
set_option maxRecDepth 20000 in
theorem so_X10_clear {X : np_Ctx} {Rt : np_Rt} (hX : np_ok RX10 cX10_clear 1 1 22 0 0 .return_ X) (hR : ∀ st w ce sl, Rt st w ce sl → X.2.2.1 st w ce sl) : ∀ q ∈ is_X10_clear Rt, np_S X q.1 q.2 :=
  List.forall_mem_cons.mpr ⟨np_s_aload_n hX dX10_clear_0 rfl, List.forall_mem_cons.mpr ⟨np_S.mono (op := np_getf 10 0) (np_s_getf hX dX10_clear_1 (C := RX10) (T := TX10) (N := 3) rfl guX10 (by decide) gw356) nq_getf_le, List.forall_mem_cons.mpr ⟨np_s_iconst hX dX10_clear_4 (by decide), List.forall_mem_cons.mpr ⟨np_S.mono (op := np_call 2 sp_X11_fillAll 3 0 0 0 0) (np_s_callSN hX C_X11_fillAll dX10_clear_5 gw192 gw130 gw355 gw191 ⟨by decide, by decide, by decide⟩ (by decide) (by decide)) nq_call_le, List.forall_mem_cons.mpr ⟨np_S.mono (op := np_ret X.2.2.1) (np_s_ret hX dX10_clear_8) (nq_ret_le hR), fun _ h => nomatch h⟩⟩⟩⟩⟩
abbrev sp_X10_clear : np_Sp := nq_in is_X10_clear none 0 0 400
theorem C_X10_clear : np_C yX10_clear cX10_clear 1 none 1 22 0 0 sp_X10_clear := nq_inC 400 (by decide) (fun X Rt hX hmn hR => so_X10_clear hX hR)
theorem dX11_upgradeOf_0 : decode cX11_upgradeOf 0 = .ok (.iload_n 1, 1) := by decide +kernel
theorem dX11_upgradeOf_1 : decode cX11_upgradeOf 1 = .ok (.ifCond .lt 29, 3) := by decide +kernel
theorem dX11_upgradeOf_4 : decode cX11_upgradeOf 4 = .ok (.iload_n 1, 1) := by decide +kernel
theorem dX11_upgradeOf_5 : decode cX11_upgradeOf 5 = .ok (.aload_n 0, 1) := by decide +kernel
theorem dX11_upgradeOf_6 : decode cX11_upgradeOf 6 = .ok (.getfield 390, 3) := by decide +kernel
theorem dX11_upgradeOf_9 : decode cX11_upgradeOf 9 = .ok (.if_icmp .ge 21, 3) := by decide +kernel
theorem dX11_upgradeOf_12 : decode cX11_upgradeOf 12 = .ok (.iload_n 1, 1) := by decide +kernel
theorem dX11_upgradeOf_13 : decode cX11_upgradeOf 13 = .ok (.aload_n 0, 1) := by decide +kernel
theorem dX11_upgradeOf_14 : decode cX11_upgradeOf 14 = .ok (.getfield 80, 3) := by decide +kernel
theorem dX11_upgradeOf_17 : decode cX11_upgradeOf 17 = .ok (.arraylength, 1) := by decide +kernel
theorem dX11_upgradeOf_18 : decode cX11_upgradeOf 18 = .ok (.if_icmp .ge 12, 3) := by decide +kernel
theorem dX11_upgradeOf_21 : decode cX11_upgradeOf 21 = .ok (.aload_n 0, 1) := by decide +kernel
theorem dX11_upgradeOf_22 : decode cX11_upgradeOf 22 = .ok (.getfield 80, 3) := by decide +kernel
theorem dX11_upgradeOf_25 : decode cX11_upgradeOf 25 = .ok (.iload_n 1, 1) := by decide +kernel
theorem dX11_upgradeOf_26 : decode cX11_upgradeOf 26 = .ok (.aaload, 1) := by decide +kernel
theorem dX11_upgradeOf_27 : decode cX11_upgradeOf 27 = .ok (.goto 4, 3) := by decide +kernel
theorem dX11_upgradeOf_30 : decode cX11_upgradeOf 30 = .ok (.aconst_null, 1) := by decide +kernel
theorem dX11_upgradeOf_31 : decode cX11_upgradeOf 31 = .ok (.areturn, 1) := by decide +kernel
def is_X11_upgradeOf (Rt : np_Rt) : List (Nat × np_Op) := [(0, np_ild 1 1), (1, nq_if (fun x => x < 0) 30), (4, np_ild 1 1), (5, np_ald 1 0), (6, nq_getf 11 13), (9, nq_ic (fun x y => y ≤ x) 30), (12, np_ild 1 1), (13, np_ald 1 0), (14, nq_getf 11 12), (17, np_alen), (18, nq_ic (fun x y => y ≤ x) 30), (21, np_ald 1 0), (22, nq_getf 11 12), (25, np_ild 1 1), (26, nq_aald "NotationPress$Upgrade"), (27, np_goto 31), (30, np_push 1 .null), (31, np_ret Rt)]
set_option maxRecDepth 20000 in
theorem so_X11_upgradeOf {X : np_Ctx} {Rt : np_Rt} (hX : np_ok RX11 cX11_upgradeOf 2 0 0 0 0 .areturn X) (hR : ∀ st w ce sl, Rt st w ce sl → X.2.2.1 st w ce sl) : ∀ q ∈ is_X11_upgradeOf Rt, np_S X q.1 q.2 :=
  List.forall_mem_cons.mpr ⟨np_s_iload_n hX dX11_upgradeOf_0 rfl, List.forall_mem_cons.mpr ⟨np_S.mono (op := np_if (fun x => x < 0) 30) (np_s_if_lt hX dX11_upgradeOf_1 (by decide)) nq_if_le, List.forall_mem_cons.mpr ⟨np_s_iload_n hX dX11_upgradeOf_4 rfl, List.forall_mem_cons.mpr ⟨np_s_aload_n hX dX11_upgradeOf_5 rfl, List.forall_mem_cons.mpr ⟨np_S.mono (op := np_getf 11 13) (np_s_getf hX dX11_upgradeOf_6 (C := RX11) (T := TX11) (N := 14) rfl guX11 (by decide) gw519) nq_getf_le, List.forall_mem_cons.mpr ⟨np_S.mono (op := np_ic (fun x y => y ≤ x) 30) (np_s_icmp_ge hX dX11_upgradeOf_9 (by decide)) nq_ic_le, List.forall_mem_cons.mpr ⟨np_s_iload_n hX dX11_upgradeOf_12 rfl, List.forall_mem_cons.mpr ⟨np_s_aload_n hX dX11_upgradeOf_13 rfl, List.forall_mem_cons.mpr ⟨np_S.mono (op := np_getf 11 12) (np_s_getf hX dX11_upgradeOf_14 (C := RX11) (T := TX11) (N := 14) rfl guX11 (by decide) gw518) nq_getf_le, List.forall_mem_cons.mpr ⟨np_s_alen hX dX11_upgradeOf_17, List.forall_mem_cons.mpr ⟨np_S.mono (op := np_ic (fun x y => y ≤ x) 30) (np_s_icmp_ge hX dX11_upgradeOf_18 (by decide)) nq_ic_le, List.forall_mem_cons.mpr ⟨np_s_aload_n hX dX11_upgradeOf_21 rfl, List.forall_mem_cons.mpr ⟨np_S.mono (op := np_getf 11 12) (np_s_getf hX dX11_upgradeOf_22 (C := RX11) (T := TX11) (N := 14) rfl guX11 (by decide) gw518) nq_getf_le, List.forall_mem_cons.mpr ⟨np_s_iload_n hX dX11_upgradeOf_25 rfl, List.forall_mem_cons.mpr ⟨np_S.mono (op := np_aald "NotationPress$Upgrade") (np_s_aald hX dX11_upgradeOf_26) nq_aald_le, List.forall_mem_cons.mpr ⟨np_s_goto hX dX11_upgradeOf_27 (by decide), List.forall_mem_cons.mpr ⟨np_s_null hX dX11_upgradeOf_30, List.forall_mem_cons.mpr ⟨np_S.mono (op := np_ret X.2.2.1) (np_s_ret hX dX11_upgradeOf_31) (nq_ret_le hR), fun _ h => nomatch h⟩⟩⟩⟩⟩⟩⟩⟩⟩⟩⟩⟩⟩⟩⟩⟩⟩⟩
abbrev sp_X11_upgradeOf : np_Sp := nq_in is_X11_upgradeOf (some (.object "NotationPress$Upgrade")) 0 0 400
theorem C_X11_upgradeOf : np_C yX11_upgradeOf cX11_upgradeOf 2 (some (.object "NotationPress$Upgrade")) 0 0 0 0 sp_X11_upgradeOf := nq_inC 400 (by decide) (fun X Rt hX hmn hR => so_X11_upgradeOf hX hR)
theorem dX6_keysNotIn_0 : decode cX6_keysNotIn 0 = .ok (.iconst 0, 1) := by decide +kernel
theorem dX6_keysNotIn_1 : decode cX6_keysNotIn 1 = .ok (.istore_n 3, 1) := by decide +kernel
theorem dX6_keysNotIn_2 : decode cX6_keysNotIn 2 = .ok (.iconst 0, 1) := by decide +kernel
theorem dX6_keysNotIn_3 : decode cX6_keysNotIn 3 = .ok (.istore 4, 2) := by decide +kernel
theorem dX6_keysNotIn_5 : decode cX6_keysNotIn 5 = .ok (.iload 4, 2) := by decide +kernel
theorem dX6_keysNotIn_7 : decode cX6_keysNotIn 7 = .ok (.aload_n 0, 1) := by decide +kernel
theorem dX6_keysNotIn_8 : decode cX6_keysNotIn 8 = .ok (.getfield 39, 3) := by decide +kernel
theorem dX6_keysNotIn_11 : decode cX6_keysNotIn 11 = .ok (.if_icmp .ge 38, 3) := by decide +kernel
theorem dX6_keysNotIn_14 : decode cX6_keysNotIn 14 = .ok (.aload_n 0, 1) := by decide +kernel
theorem dX6_keysNotIn_15 : decode cX6_keysNotIn 15 = .ok (.iload 4, 2) := by decide +kernel
theorem dX6_keysNotIn_17 : decode cX6_keysNotIn 17 = .ok (.iload_n 2, 1) := by decide +kernel
theorem dX6_keysNotIn_18 : decode cX6_keysNotIn 18 = .ok (.invokevirtual 101, 3) := by decide +kernel
theorem dX6_keysNotIn_21 : decode cX6_keysNotIn 21 = .ok (.ifCond .eq 22, 3) := by decide +kernel
theorem dX6_keysNotIn_24 : decode cX6_keysNotIn 24 = .ok (.aload_n 1, 1) := by decide +kernel
theorem dX6_keysNotIn_25 : decode cX6_keysNotIn 25 = .ok (.iload_n 2, 1) := by decide +kernel
theorem dX6_keysNotIn_26 : decode cX6_keysNotIn 26 = .ok (.aload_n 0, 1) := by decide +kernel
theorem dX6_keysNotIn_27 : decode cX6_keysNotIn 27 = .ok (.iload 4, 2) := by decide +kernel
theorem dX6_keysNotIn_29 : decode cX6_keysNotIn 29 = .ok (.iload_n 2, 1) := by decide +kernel
theorem dX6_keysNotIn_30 : decode cX6_keysNotIn 30 = .ok (.invokevirtual 89, 3) := by decide +kernel
theorem dX6_keysNotIn_33 : decode cX6_keysNotIn 33 = .ok (.invokevirtual 98, 3) := by decide +kernel
theorem dX6_keysNotIn_36 : decode cX6_keysNotIn 36 = .ok (.iconst (-1), 1) := by decide +kernel
theorem dX6_keysNotIn_37 : decode cX6_keysNotIn 37 = .ok (.if_icmp .ne 6, 3) := by decide +kernel
theorem dX6_keysNotIn_40 : decode cX6_keysNotIn 40 = .ok (.iinc 3 1, 3) := by decide +kernel
theorem dX6_keysNotIn_43 : decode cX6_keysNotIn 43 = .ok (.iinc 4 1, 3) := by decide +kernel
theorem dX6_keysNotIn_46 : decode cX6_keysNotIn 46 = .ok (.goto (-41), 3) := by decide +kernel
theorem dX6_keysNotIn_49 : decode cX6_keysNotIn 49 = .ok (.iload_n 3, 1) := by decide +kernel
theorem dX6_keysNotIn_50 : decode cX6_keysNotIn 50 = .ok (.ireturn, 1) := by decide +kernel
def is_X6_keysNotIn (Rt : np_Rt) : List (Nat × np_Op) := [(0, np_push 1 (.int 0)), (1, np_ist 1 3), (2, np_push 1 (.int 0)), (3, np_ist 2 4), (5, np_ild 2 4), (7, np_ald 1 0), (8, nq_getf 6 7), (11, nq_ic (fun x y => y ≤ x) 49), (14, np_ald 1 0), (15, np_ild 2 4), (17, np_ild 1 2), (21, nq_if (fun x => x = 0) 43), (24, np_ald 1 1), (25, np_ild 1 2), (26, np_ald 1 0), (27, np_ild 2 4), (29, np_ild 1 2), (36, np_push 1 (.int (-1))), (37, nq_icne 43), (40, np_iinc 3 1), (43, np_iinc 4 1), (46, np_goto 5), (49, np_ild 1 3), (50, np_ret Rt)]
set_option maxRecDepth 20000 in
theorem so_X6_keysNotIn {X : np_Ctx} {Rt : np_Rt} (hX : np_ok RX6 cX6_keysNotIn 5 0 0 0 0 .ireturn X) (hR : ∀ st w ce sl, Rt st w ce sl → X.2.2.1 st w ce sl) : ∀ q ∈ is_X6_keysNotIn Rt, np_S X q.1 q.2 :=
  List.forall_mem_cons.mpr ⟨np_s_iconst hX dX6_keysNotIn_0 (by decide), List.forall_mem_cons.mpr ⟨np_s_istore_n hX dX6_keysNotIn_1 rfl (by decide), List.forall_mem_cons.mpr ⟨np_s_iconst hX dX6_keysNotIn_2 (by decide), List.forall_mem_cons.mpr ⟨np_s_istore hX dX6_keysNotIn_3 (by decide), List.forall_mem_cons.mpr ⟨np_s_iload hX dX6_keysNotIn_5, List.forall_mem_cons.mpr ⟨np_s_aload_n hX dX6_keysNotIn_7 rfl, List.forall_mem_cons.mpr ⟨np_S.mono (op := np_getf 6 7) (np_s_getf hX dX6_keysNotIn_8 (C := RX6) (T := TX6) (N := 12) rfl guX6 (by decide) gw421) nq_getf_le, List.forall_mem_cons.mpr ⟨np_S.mono (op := np_ic (fun x y => y ≤ x) 49) (np_s_icmp_ge hX dX6_keysNotIn_11 (by decide)) nq_ic_le, List.forall_mem_cons.mpr ⟨np_s_aload_n hX dX6_keysNotIn_14 rfl, List.forall_mem_cons.mpr ⟨np_s_iload hX dX6_keysNotIn_15, List.forall_mem_cons.mpr ⟨np_s_iload_n hX dX6_keysNotIn_17 rfl, List.forall_mem_cons.mpr ⟨np_S.mono (op := np_if (fun x => x = 0) 43) (np_s_if_eq hX dX6_keysNotIn_21 (by decide)) nq_if_le, List.forall_mem_cons.mpr ⟨np_s_aload_n hX dX6_keysNotIn_24 rfl, List.forall_mem_cons.mpr ⟨np_s_iload_n hX dX6_keysNotIn_25 rfl, List.forall_mem_cons.mpr ⟨np_s_aload_n hX dX6_keysNotIn_26 rfl, List.forall_mem_cons.mpr ⟨np_s_iload hX dX6_keysNotIn_27, List.forall_mem_cons.mpr ⟨np_s_iload_n hX dX6_keysNotIn_29 rfl, List.forall_mem_cons.mpr ⟨np_s_iconst hX dX6_keysNotIn_36 (by decide), List.forall_mem_cons.mpr ⟨np_S.mono (op := np_icne 43) (np_s_icmp_ne hX dX6_keysNotIn_37 (by decide)) nq_icne_le, List.forall_mem_cons.mpr ⟨np_s_iinc hX dX6_keysNotIn_40 (by decide), List.forall_mem_cons.mpr ⟨np_s_iinc hX dX6_keysNotIn_43 (by decide), List.forall_mem_cons.mpr ⟨np_s_goto hX dX6_keysNotIn_46 (by decide), List.forall_mem_cons.mpr ⟨np_s_iload_n hX dX6_keysNotIn_49 rfl, List.forall_mem_cons.mpr ⟨np_S.mono (op := np_ret X.2.2.1) (np_s_ret hX dX6_keysNotIn_50) (nq_ret_le hR), fun _ h => nomatch h⟩⟩⟩⟩⟩⟩⟩⟩⟩⟩⟩⟩⟩⟩⟩⟩⟩⟩⟩⟩⟩⟩⟩⟩
abbrev sp_X6_keysNotIn : np_Sp := nq_in is_X6_keysNotIn (some .int) 0 0 400
theorem C_X6_keysNotIn : np_C yX6_keysNotIn cX6_keysNotIn 5 (some .int) 0 0 0 0 sp_X6_keysNotIn := nq_inC 400 (by decide) (fun X Rt hX hmn hR => so_X6_keysNotIn hX hR)
theorem dX6_keysThatDiffer_0 : decode cX6_keysThatDiffer 0 = .ok (.iconst 0, 1) := by decide +kernel
theorem dX6_keysThatDiffer_1 : decode cX6_keysThatDiffer 1 = .ok (.istore_n 3, 1) := by decide +kernel
theorem dX6_keysThatDiffer_2 : decode cX6_keysThatDiffer 2 = .ok (.iconst 0, 1) := by decide +kernel
theorem dX6_keysThatDiffer_3 : decode cX6_keysThatDiffer 3 = .ok (.istore 4, 2) := by decide +kernel
theorem dX6_keysThatDiffer_5 : decode cX6_keysThatDiffer 5 = .ok (.iload 4, 2) := by decide +kernel
theorem dX6_keysThatDiffer_7 : decode cX6_keysThatDiffer 7 = .ok (.aload_n 0, 1) := by decide +kernel
theorem dX6_keysThatDiffer_8 : decode cX6_keysThatDiffer 8 = .ok (.getfield 39, 3) := by decide +kernel
theorem dX6_keysThatDiffer_11 : decode cX6_keysThatDiffer 11 = .ok (.if_icmp .ge 57, 3) := by decide +kernel
theorem dX6_keysThatDiffer_14 : decode cX6_keysThatDiffer 14 = .ok (.aload_n 0, 1) := by decide +kernel
theorem dX6_keysThatDiffer_15 : decode cX6_keysThatDiffer 15 = .ok (.iload 4, 2) := by decide +kernel
theorem dX6_keysThatDiffer_17 : decode cX6_keysThatDiffer 17 = .ok (.iload_n 2, 1) := by decide +kernel
theorem dX6_keysThatDiffer_18 : decode cX6_keysThatDiffer 18 = .ok (.invokevirtual 101, 3) := by decide +kernel
theorem dX6_keysThatDiffer_21 : decode cX6_keysThatDiffer 21 = .ok (.ifCond .ne 6, 3) := by decide +kernel
theorem dX6_keysThatDiffer_24 : decode cX6_keysThatDiffer 24 = .ok (.goto 38, 3) := by decide +kernel
theorem dX6_keysThatDiffer_27 : decode cX6_keysThatDiffer 27 = .ok (.aload_n 1, 1) := by decide +kernel
theorem dX6_keysThatDiffer_28 : decode cX6_keysThatDiffer 28 = .ok (.iload_n 2, 1) := by decide +kernel
theorem dX6_keysThatDiffer_29 : decode cX6_keysThatDiffer 29 = .ok (.aload_n 0, 1) := by decide +kernel
theorem dX6_keysThatDiffer_30 : decode cX6_keysThatDiffer 30 = .ok (.iload 4, 2) := by decide +kernel
theorem dX6_keysThatDiffer_32 : decode cX6_keysThatDiffer 32 = .ok (.iload_n 2, 1) := by decide +kernel
theorem dX6_keysThatDiffer_33 : decode cX6_keysThatDiffer 33 = .ok (.invokevirtual 89, 3) := by decide +kernel
theorem dX6_keysThatDiffer_36 : decode cX6_keysThatDiffer 36 = .ok (.invokevirtual 98, 3) := by decide +kernel
theorem dX6_keysThatDiffer_39 : decode cX6_keysThatDiffer 39 = .ok (.istore 5, 2) := by decide +kernel
theorem dX6_keysThatDiffer_41 : decode cX6_keysThatDiffer 41 = .ok (.iload 5, 2) := by decide +kernel
theorem dX6_keysThatDiffer_43 : decode cX6_keysThatDiffer 43 = .ok (.iconst (-1), 1) := by decide +kernel
theorem dX6_keysThatDiffer_44 : decode cX6_keysThatDiffer 44 = .ok (.if_icmp .eq 18, 3) := by decide +kernel
theorem dX6_keysThatDiffer_47 : decode cX6_keysThatDiffer 47 = .ok (.aload_n 0, 1) := by decide +kernel
theorem dX6_keysThatDiffer_48 : decode cX6_keysThatDiffer 48 = .ok (.iload 4, 2) := by decide +kernel
theorem dX6_keysThatDiffer_50 : decode cX6_keysThatDiffer 50 = .ok (.aload_n 1, 1) := by decide +kernel
theorem dX6_keysThatDiffer_51 : decode cX6_keysThatDiffer 51 = .ok (.iload 5, 2) := by decide +kernel
theorem dX6_keysThatDiffer_53 : decode cX6_keysThatDiffer 53 = .ok (.invokevirtual 105, 3) := by decide +kernel
theorem dX6_keysThatDiffer_56 : decode cX6_keysThatDiffer 56 = .ok (.ifCond .eq 6, 3) := by decide +kernel
theorem dX6_keysThatDiffer_59 : decode cX6_keysThatDiffer 59 = .ok (.iinc 3 1, 3) := by decide +kernel
theorem dX6_keysThatDiffer_62 : decode cX6_keysThatDiffer 62 = .ok (.iinc 4 1, 3) := by decide +kernel
theorem dX6_keysThatDiffer_65 : decode cX6_keysThatDiffer 65 = .ok (.goto (-60), 3) := by decide +kernel
theorem dX6_keysThatDiffer_68 : decode cX6_keysThatDiffer 68 = .ok (.iload_n 3, 1) := by decide +kernel
theorem dX6_keysThatDiffer_69 : decode cX6_keysThatDiffer 69 = .ok (.ireturn, 1) := by decide +kernel
def is_X6_keysThatDiffer (Rt : np_Rt) : List (Nat × np_Op) := [(0, np_push 1 (.int 0)), (1, np_ist 1 3), (2, np_push 1 (.int 0)), (3, np_ist 2 4), (5, np_ild 2 4), (7, np_ald 1 0), (8, nq_getf 6 7), (11, nq_ic (fun x y => y ≤ x) 68), (14, np_ald 1 0), (15, np_ild 2 4), (17, np_ild 1 2), (21, nq_ifne 27), (24, np_goto 62), (27, np_ald 1 1), (28, np_ild 1 2), (29, np_ald 1 0), (30, np_ild 2 4), (32, np_ild 1 2), (39, np_ist 2 5), (41, np_ild 2 5), (43, np_push 1 (.int (-1))), (44, nq_ic (fun x y => x = y) 62), (47, np_ald 1 0), (48, np_ild 2 4), (50, np_ald 1 1), (51, np_ild 2 5), (56, nq_if (fun x => x = 0) 62), (59, np_iinc 3 1), (62, np_iinc 4 1), (65, np_goto 5), (68, np_ild 1 3), (69, np_ret Rt)]
set_option maxRecDepth 20000 in
theorem so_X6_keysThatDiffer {X : np_Ctx} {Rt : np_Rt} (hX : np_ok RX6 cX6_keysThatDiffer 6 0 0 0 0 .ireturn X) (hR : ∀ st w ce sl, Rt st w ce sl → X.2.2.1 st w ce sl) : ∀ q ∈ is_X6_keysThatDiffer Rt, np_S X q.1 q.2 :=
  List.forall_mem_cons.mpr ⟨np_s_iconst hX dX6_keysThatDiffer_0 (by decide), List.forall_mem_cons.mpr ⟨np_s_istore_n hX dX6_keysThatDiffer_1 rfl (by decide), List.forall_mem_cons.mpr ⟨np_s_iconst hX dX6_keysThatDiffer_2 (by decide), List.forall_mem_cons.mpr ⟨np_s_istore hX dX6_keysThatDiffer_3 (by decide), List.forall_mem_cons.mpr ⟨np_s_iload hX dX6_keysThatDiffer_5, List.forall_mem_cons.mpr ⟨np_s_aload_n hX dX6_keysThatDiffer_7 rfl, List.forall_mem_cons.mpr ⟨np_S.mono (op := np_getf 6 7) (np_s_getf hX dX6_keysThatDiffer_8 (C := RX6) (T := TX6) (N := 12) rfl guX6 (by decide) gw421) nq_getf_le, List.forall_mem_cons.mpr ⟨np_S.mono (op := np_ic (fun x y => y ≤ x) 68) (np_s_icmp_ge hX dX6_keysThatDiffer_11 (by decide)) nq_ic_le, List.forall_mem_cons.mpr ⟨np_s_aload_n hX dX6_keysThatDiffer_14 rfl, List.forall_mem_cons.mpr ⟨np_s_iload hX dX6_keysThatDiffer_15, List.forall_mem_cons.mpr ⟨np_s_iload_n hX dX6_keysThatDiffer_17 rfl, List.forall_mem_cons.mpr ⟨np_S.mono (op := np_ifne 27) (np_s_if_ne hX dX6_keysThatDiffer_21 (by decide)) nq_ifne_le, List.forall_mem_cons.mpr ⟨np_s_goto hX dX6_keysThatDiffer_24 (by decide), List.forall_mem_cons.mpr ⟨np_s_aload_n hX dX6_keysThatDiffer_27 rfl, List.forall_mem_cons.mpr ⟨np_s_iload_n hX dX6_keysThatDiffer_28 rfl, List.forall_mem_cons.mpr ⟨np_s_aload_n hX dX6_keysThatDiffer_29 rfl, List.forall_mem_cons.mpr ⟨np_s_iload hX dX6_keysThatDiffer_30, List.forall_mem_cons.mpr ⟨np_s_iload_n hX dX6_keysThatDiffer_32 rfl, List.forall_mem_cons.mpr ⟨np_s_istore hX dX6_keysThatDiffer_39 (by decide), List.forall_mem_cons.mpr ⟨np_s_iload hX dX6_keysThatDiffer_41, List.forall_mem_cons.mpr ⟨np_s_iconst hX dX6_keysThatDiffer_43 (by decide), List.forall_mem_cons.mpr ⟨np_S.mono (op := np_ic (fun x y => x = y) 62) (np_s_icmp_eq hX dX6_keysThatDiffer_44 (by decide)) nq_ic_le, List.forall_mem_cons.mpr ⟨np_s_aload_n hX dX6_keysThatDiffer_47 rfl, List.forall_mem_cons.mpr ⟨np_s_iload hX dX6_keysThatDiffer_48, List.forall_mem_cons.mpr ⟨np_s_aload_n hX dX6_keysThatDiffer_50 rfl, List.forall_mem_cons.mpr ⟨np_s_iload hX dX6_keysThatDiffer_51, List.forall_mem_cons.mpr ⟨np_S.mono (op := np_if (fun x => x = 0) 62) (np_s_if_eq hX dX6_keysThatDiffer_56 (by decide)) nq_if_le, List.forall_mem_cons.mpr ⟨np_s_iinc hX dX6_keysThatDiffer_59 (by decide), List.forall_mem_cons.mpr ⟨np_s_iinc hX dX6_keysThatDiffer_62 (by decide), List.forall_mem_cons.mpr ⟨np_s_goto hX dX6_keysThatDiffer_65 (by decide), List.forall_mem_cons.mpr ⟨np_s_iload_n hX dX6_keysThatDiffer_68 rfl, List.forall_mem_cons.mpr ⟨np_S.mono (op := np_ret X.2.2.1) (np_s_ret hX dX6_keysThatDiffer_69) (nq_ret_le hR), fun _ h => nomatch h⟩⟩⟩⟩⟩⟩⟩⟩⟩⟩⟩⟩⟩⟩⟩⟩⟩⟩⟩⟩⟩⟩⟩⟩⟩⟩⟩⟩⟩⟩⟩⟩
abbrev sp_X6_keysThatDiffer : np_Sp := nq_in is_X6_keysThatDiffer (some .int) 0 0 400
theorem C_X6_keysThatDiffer : np_C yX6_keysThatDiffer cX6_keysThatDiffer 6 (some .int) 0 0 0 0 sp_X6_keysThatDiffer := nq_inC 400 (by decide) (fun X Rt hX hmn hR => so_X6_keysThatDiffer hX hR)
theorem dX6_bucketOf_0 : decode cX6_bucketOf 0 = .ok (.iload_n 0, 1) := by decide +kernel
theorem dX6_bucketOf_1 : decode cX6_bucketOf 1 = .ok (.bipush 32, 2) := by decide +kernel
theorem dX6_bucketOf_3 : decode cX6_bucketOf 3 = .ok (.imul, 1) := by decide +kernel
theorem dX6_bucketOf_4 : decode cX6_bucketOf 4 = .ok (.iload_n 1, 1) := by decide +kernel
theorem dX6_bucketOf_5 : decode cX6_bucketOf 5 = .ok (.bipush 31, 2) := by decide +kernel
theorem dX6_bucketOf_7 : decode cX6_bucketOf 7 = .ok (.iand, 1) := by decide +kernel
theorem dX6_bucketOf_8 : decode cX6_bucketOf 8 = .ok (.iadd, 1) := by decide +kernel
theorem dX6_bucketOf_9 : decode cX6_bucketOf 9 = .ok (.ireturn, 1) := by decide +kernel
def is_X6_bucketOf (Rt : np_Rt) : List (Nat × np_Op) := [(0, np_ild 1 0), (1, np_push 2 (.int 32)), (3, np_ib (fun x y => x * y)), (4, np_ild 1 1), (5, np_push 2 (.int 31)), (7, np_ib (fun x y => x &&& y)), (8, np_ib (fun x y => x + y)), (9, np_ret Rt)]
set_option maxRecDepth 20000 in
theorem so_X6_bucketOf {X : np_Ctx} {Rt : np_Rt} (hX : np_ok RX6 cX6_bucketOf 2 0 0 0 0 .ireturn X) (hR : ∀ st w ce sl, Rt st w ce sl → X.2.2.1 st w ce sl) : ∀ q ∈ is_X6_bucketOf Rt, np_S X q.1 q.2 :=
  List.forall_mem_cons.mpr ⟨np_s_iload_n hX dX6_bucketOf_0 rfl, List.forall_mem_cons.mpr ⟨np_s_bipush hX dX6_bucketOf_1 (by decide), List.forall_mem_cons.mpr ⟨np_s_imul hX dX6_bucketOf_3, List.forall_mem_cons.mpr ⟨np_s_iload_n hX dX6_bucketOf_4 rfl, List.forall_mem_cons.mpr ⟨np_s_bipush hX dX6_bucketOf_5 (by decide), List.forall_mem_cons.mpr ⟨np_s_iand hX dX6_bucketOf_7, List.forall_mem_cons.mpr ⟨np_s_iadd hX dX6_bucketOf_8, List.forall_mem_cons.mpr ⟨np_S.mono (op := np_ret X.2.2.1) (np_s_ret hX dX6_bucketOf_9) (nq_ret_le hR), fun _ h => nomatch h⟩⟩⟩⟩⟩⟩⟩⟩
abbrev sp_X6_bucketOf : np_Sp := nq_in is_X6_bucketOf (some .int) 0 0 400
theorem C_X6_bucketOf : np_C yX6_bucketOf cX6_bucketOf 2 (some .int) 0 0 0 0 sp_X6_bucketOf := nq_inC 400 (by decide) (fun X Rt hX hmn hR => so_X6_bucketOf hX hR)
theorem dX6_rowByIndex_0 : decode cX6_rowByIndex 0 = .ok (.iload_n 2, 1) := by decide +kernel
theorem dX6_rowByIndex_1 : decode cX6_rowByIndex 1 = .ok (.ldc 52, 2) := by decide +kernel
theorem dX6_rowByIndex_3 : decode cX6_rowByIndex 3 = .ok (.if_icmp .ne 5, 3) := by decide +kernel
theorem dX6_rowByIndex_6 : decode cX6_rowByIndex 6 = .ok (.iconst (-1), 1) := by decide +kernel
theorem dX6_rowByIndex_7 : decode cX6_rowByIndex 7 = .ok (.ireturn, 1) := by decide +kernel
theorem dX6_rowByIndex_8 : decode cX6_rowByIndex 8 = .ok (.aload_n 0, 1) := by decide +kernel
theorem dX6_rowByIndex_9 : decode cX6_rowByIndex 9 = .ok (.getfield 18, 3) := by decide +kernel
theorem dX6_rowByIndex_12 : decode cX6_rowByIndex 12 = .ok (.iload_n 1, 1) := by decide +kernel
theorem dX6_rowByIndex_13 : decode cX6_rowByIndex 13 = .ok (.iload_n 2, 1) := by decide +kernel
theorem dX6_rowByIndex_14 : decode cX6_rowByIndex 14 = .ok (.invokestatic 92, 3) := by decide +kernel
theorem dX6_rowByIndex_17 : decode cX6_rowByIndex 17 = .ok (.iconst (-1), 1) := by decide +kernel
theorem dX6_rowByIndex_18 : decode cX6_rowByIndex 18 = .ok (.invokestatic 53, 3) := by decide +kernel
theorem dX6_rowByIndex_21 : decode cX6_rowByIndex 21 = .ok (.istore 4, 2) := by decide +kernel
theorem dX6_rowByIndex_23 : decode cX6_rowByIndex 23 = .ok (.iconst 0, 1) := by decide +kernel
theorem dX6_rowByIndex_24 : decode cX6_rowByIndex 24 = .ok (.istore 5, 2) := by decide +kernel
theorem dX6_rowByIndex_26 : decode cX6_rowByIndex 26 = .ok (.iconst 0, 1) := by decide +kernel
theorem dX6_rowByIndex_27 : decode cX6_rowByIndex 27 = .ok (.istore 6, 2) := by decide +kernel
theorem dX6_rowByIndex_29 : decode cX6_rowByIndex 29 = .ok (.iload 6, 2) := by decide +kernel
theorem dX6_rowByIndex_31 : decode cX6_rowByIndex 31 = .ok (.bipush 24, 2) := by decide +kernel
theorem dX6_rowByIndex_33 : decode cX6_rowByIndex 33 = .ok (.if_icmp .ge 54, 3) := by decide +kernel
theorem dX6_rowByIndex_36 : decode cX6_rowByIndex 36 = .ok (.iload 4, 2) := by decide +kernel
theorem dX6_rowByIndex_38 : decode cX6_rowByIndex 38 = .ok (.iconst (-1), 1) := by decide +kernel
theorem dX6_rowByIndex_39 : decode cX6_rowByIndex 39 = .ok (.if_icmp .eq 48, 3) := by decide +kernel
theorem dX6_rowByIndex_42 : decode cX6_rowByIndex 42 = .ok (.aload_n 0, 1) := by decide +kernel
theorem dX6_rowByIndex_43 : decode cX6_rowByIndex 43 = .ok (.iload 4, 2) := by decide +kernel
theorem dX6_rowByIndex_45 : decode cX6_rowByIndex 45 = .ok (.iload_n 1, 1) := by decide +kernel
theorem dX6_rowByIndex_46 : decode cX6_rowByIndex 46 = .ok (.invokevirtual 89, 3) := by decide +kernel
theorem dX6_rowByIndex_49 : decode cX6_rowByIndex 49 = .ok (.iload_n 2, 1) := by decide +kernel
theorem dX6_rowByIndex_50 : decode cX6_rowByIndex 50 = .ok (.if_icmp .ne 15, 3) := by decide +kernel
theorem dX6_rowByIndex_53 : decode cX6_rowByIndex 53 = .ok (.iload 5, 2) := by decide +kernel
theorem dX6_rowByIndex_55 : decode cX6_rowByIndex 55 = .ok (.iload_n 3, 1) := by decide +kernel
theorem dX6_rowByIndex_56 : decode cX6_rowByIndex 56 = .ok (.if_icmp .ne 6, 3) := by decide +kernel
theorem dX6_rowByIndex_59 : decode cX6_rowByIndex 59 = .ok (.iload 4, 2) := by decide +kernel
theorem dX6_rowByIndex_61 : decode cX6_rowByIndex 61 = .ok (.ireturn, 1) := by decide +kernel
theorem dX6_rowByIndex_62 : decode cX6_rowByIndex 62 = .ok (.iinc 5 1, 3) := by decide +kernel
theorem dX6_rowByIndex_65 : decode cX6_rowByIndex 65 = .ok (.aload_n 0, 1) := by decide +kernel
theorem dX6_rowByIndex_66 : decode cX6_rowByIndex 66 = .ok (.getfield 24, 3) := by decide +kernel
theorem dX6_rowByIndex_69 : decode cX6_rowByIndex 69 = .ok (.iload_n 1, 1) := by decide +kernel
theorem dX6_rowByIndex_70 : decode cX6_rowByIndex 70 = .ok (.iload 4, 2) := by decide +kernel
theorem dX6_rowByIndex_72 : decode cX6_rowByIndex 72 = .ok (.invokestatic 95, 3) := by decide +kernel
theorem dX6_rowByIndex_75 : decode cX6_rowByIndex 75 = .ok (.iconst (-1), 1) := by decide +kernel
theorem dX6_rowByIndex_76 : decode cX6_rowByIndex 76 = .ok (.invokestatic 53, 3) := by decide +kernel
theorem dX6_rowByIndex_79 : decode cX6_rowByIndex 79 = .ok (.istore 4, 2) := by decide +kernel
theorem dX6_rowByIndex_81 : decode cX6_rowByIndex 81 = .ok (.iinc 6 1, 3) := by decide +kernel
theorem dX6_rowByIndex_84 : decode cX6_rowByIndex 84 = .ok (.goto (-55), 3) := by decide +kernel
theorem dX6_rowByIndex_87 : decode cX6_rowByIndex 87 = .ok (.iconst (-1), 1) := by decide +kernel
theorem dX6_rowByIndex_88 : decode cX6_rowByIndex 88 = .ok (.ireturn, 1) := by decide +kernel
def is_X6_rowByIndex (Rt : np_Rt) : List (Nat × np_Op) := [(0, np_ild 1 2), (1, np_push 2 (.int (-2147483648))), (3, nq_icne 8), (6, np_push 1 (.int (-1))), (7, np_ret Rt), (8, np_ald 1 0), (9, nq_getf 6 2), (12, np_ild 1 1), (13, np_ild 1 2), (14, nq_call 2 sp_X6_bucketOf 2 0 0 0 0), (17, np_push 1 (.int (-1))), (18, nq_call 3 sp_X11_at 3 0 0 0 0), (21, np_ist 2 4), (23, np_push 1 (.int 0)), (24, np_ist 2 5), (26, np_push 1 (.int 0)), (27, np_ist 2 6), (29, np_ild 2 6), (31, np_push 2 (.int 24)), (33, nq_ic (fun x y => y ≤ x) 87), (36, np_ild 2 4), (38, np_push 1 (.int (-1))), (39, nq_ic (fun x y => x = y) 87), (42, np_ald 1 0), (43, np_ild 2 4), (45, np_ild 1 1), (49, np_ild 1 2), (50, nq_icne 65), (53, np_ild 2 5), (55, np_ild 1 3), (56, nq_icne 62), (59, np_ild 2 4), (61, np_ret Rt), (62, np_iinc 5 1), (65, np_ald 1 0), (66, nq_getf 6 4), (69, np_ild 1 1), (70, np_ild 2 4), (75, np_push 1 (.int (-1))), (76, nq_call 3 sp_X11_at 3 0 0 0 0), (79, np_ist 2 4), (81, np_iinc 6 1), (84, np_goto 29), (87, np_push 1 (.int (-1))), (88, np_ret Rt)]
set_option maxRecDepth 20000 in
theorem so_X6_rowByIndex {X : np_Ctx} {Rt : np_Rt} (hX : np_ok RX6 cX6_rowByIndex 7 1 22 0 0 .ireturn X) (hR : ∀ st w ce sl, Rt st w ce sl → X.2.2.1 st w ce sl) : ∀ q ∈ is_X6_rowByIndex Rt, np_S X q.1 q.2 :=
  List.forall_mem_cons.mpr ⟨np_s_iload_n hX dX6_rowByIndex_0 rfl, List.forall_mem_cons.mpr ⟨np_s_ldc hX dX6_rowByIndex_1 gw1279, List.forall_mem_cons.mpr ⟨np_S.mono (op := np_icne 8) (np_s_icmp_ne hX dX6_rowByIndex_3 (by decide)) nq_icne_le, List.forall_mem_cons.mpr ⟨np_s_iconst hX dX6_rowByIndex_6 (by decide), List.forall_mem_cons.mpr ⟨np_S.mono (op := np_ret X.2.2.1) (np_s_ret hX dX6_rowByIndex_7) (nq_ret_le hR), List.forall_mem_cons.mpr ⟨np_s_aload_n hX dX6_rowByIndex_8 rfl, List.forall_mem_cons.mpr ⟨np_S.mono (op := np_getf 6 2) (np_s_getf hX dX6_rowByIndex_9 (C := RX6) (T := TX6) (N := 12) rfl guX6 (by decide) gw414) nq_getf_le, List.forall_mem_cons.mpr ⟨np_s_iload_n hX dX6_rowByIndex_12 rfl, List.forall_mem_cons.mpr ⟨np_s_iload_n hX dX6_rowByIndex_13 rfl, List.forall_mem_cons.mpr ⟨np_S.mono (op := np_call 2 sp_X6_bucketOf 2 0 0 0 0) (np_s_callS hX C_X6_bucketOf dX6_rowByIndex_14 gw1283 gw139 gw1281 gw1282 ⟨by decide, by decide, by decide⟩ (by decide) (by decide)) nq_call_le, List.forall_mem_cons.mpr ⟨np_s_iconst hX dX6_rowByIndex_17 (by decide), List.forall_mem_cons.mpr ⟨np_S.mono (op := np_call 3 sp_X11_at 3 0 0 0 0) (np_s_callSN hX C_X11_at dX6_rowByIndex_18 gw712 gw130 gw1280 gw711 ⟨by decide, by decide, by decide⟩ (by decide) (by decide)) nq_call_le, List.forall_mem_cons.mpr ⟨np_s_istore hX dX6_rowByIndex_21 (by decide), List.forall_mem_cons.mpr ⟨np_s_iconst hX dX6_rowByIndex_23 (by decide), List.forall_mem_cons.mpr ⟨np_s_istore hX dX6_rowByIndex_24 (by decide), List.forall_mem_cons.mpr ⟨np_s_iconst hX dX6_rowByIndex_26 (by decide), List.forall_mem_cons.mpr ⟨np_s_istore hX dX6_rowByIndex_27 (by decide), List.forall_mem_cons.mpr ⟨np_s_iload hX dX6_rowByIndex_29, List.forall_mem_cons.mpr ⟨np_s_bipush hX dX6_rowByIndex_31 (by decide), List.forall_mem_cons.mpr ⟨np_S.mono (op := np_ic (fun x y => y ≤ x) 87) (np_s_icmp_ge hX dX6_rowByIndex_33 (by decide)) nq_ic_le, List.forall_mem_cons.mpr ⟨np_s_iload hX dX6_rowByIndex_36, List.forall_mem_cons.mpr ⟨np_s_iconst hX dX6_rowByIndex_38 (by decide), List.forall_mem_cons.mpr ⟨np_S.mono (op := np_ic (fun x y => x = y) 87) (np_s_icmp_eq hX dX6_rowByIndex_39 (by decide)) nq_ic_le, List.forall_mem_cons.mpr ⟨np_s_aload_n hX dX6_rowByIndex_42 rfl, List.forall_mem_cons.mpr ⟨np_s_iload hX dX6_rowByIndex_43, List.forall_mem_cons.mpr ⟨np_s_iload_n hX dX6_rowByIndex_45 rfl, List.forall_mem_cons.mpr ⟨np_s_iload_n hX dX6_rowByIndex_49 rfl, List.forall_mem_cons.mpr ⟨np_S.mono (op := np_icne 65) (np_s_icmp_ne hX dX6_rowByIndex_50 (by decide)) nq_icne_le, List.forall_mem_cons.mpr ⟨np_s_iload hX dX6_rowByIndex_53, List.forall_mem_cons.mpr ⟨np_s_iload_n hX dX6_rowByIndex_55 rfl, List.forall_mem_cons.mpr ⟨np_S.mono (op := np_icne 62) (np_s_icmp_ne hX dX6_rowByIndex_56 (by decide)) nq_icne_le, List.forall_mem_cons.mpr ⟨np_s_iload hX dX6_rowByIndex_59, List.forall_mem_cons.mpr ⟨np_S.mono (op := np_ret X.2.2.1) (np_s_ret hX dX6_rowByIndex_61) (nq_ret_le hR), List.forall_mem_cons.mpr ⟨np_s_iinc hX dX6_rowByIndex_62 (by decide), List.forall_mem_cons.mpr ⟨np_s_aload_n hX dX6_rowByIndex_65 rfl, List.forall_mem_cons.mpr ⟨np_S.mono (op := np_getf 6 4) (np_s_getf hX dX6_rowByIndex_66 (C := RX6) (T := TX6) (N := 12) rfl guX6 (by decide) gw416) nq_getf_le, List.forall_mem_cons.mpr ⟨np_s_iload_n hX dX6_rowByIndex_69 rfl, List.forall_mem_cons.mpr ⟨np_s_iload hX dX6_rowByIndex_70, List.forall_mem_cons.mpr ⟨np_s_iconst hX dX6_rowByIndex_75 (by decide), List.forall_mem_cons.mpr ⟨np_S.mono (op := np_call 3 sp_X11_at 3 0 0 0 0) (np_s_callSN hX C_X11_at dX6_rowByIndex_76 gw712 gw130 gw1280 gw711 ⟨by decide, by decide, by decide⟩ (by decide) (by decide)) nq_call_le, List.forall_mem_cons.mpr ⟨np_s_istore hX dX6_rowByIndex_79 (by decide), List.forall_mem_cons.mpr ⟨np_s_iinc hX dX6_rowByIndex_81 (by decide), List.forall_mem_cons.mpr ⟨np_s_goto hX dX6_rowByIndex_84 (by decide), List.forall_mem_cons.mpr ⟨np_s_iconst hX dX6_rowByIndex_87 (by decide), List.forall_mem_cons.mpr ⟨np_S.mono (op := np_ret X.2.2.1) (np_s_ret hX dX6_rowByIndex_88) (nq_ret_le hR), fun _ h => nomatch h⟩⟩⟩⟩⟩⟩⟩⟩⟩⟩⟩⟩⟩⟩⟩⟩⟩⟩⟩⟩⟩⟩⟩⟩⟩⟩⟩⟩⟩⟩⟩⟩⟩⟩⟩⟩⟩⟩⟩⟩⟩⟩⟩⟩⟩
abbrev sp_X6_rowByIndex : np_Sp := nq_in is_X6_rowByIndex (some .int) 0 0 400
theorem C_X6_rowByIndex : np_C yX6_rowByIndex cX6_rowByIndex 7 (some .int) 1 22 0 0 sp_X6_rowByIndex := nq_inC 400 (by decide) (fun X Rt hX hmn hR => so_X6_rowByIndex hX hR)
theorem dX6_rowByLooking_0 : decode cX6_rowByLooking 0 = .ok (.iload_n 2, 1) := by decide +kernel
theorem dX6_rowByLooking_1 : decode cX6_rowByLooking 1 = .ok (.ldc 52, 2) := by decide +kernel
theorem dX6_rowByLooking_3 : decode cX6_rowByLooking 3 = .ok (.if_icmp .ne 5, 3) := by decide +kernel
theorem dX6_rowByLooking_6 : decode cX6_rowByLooking 6 = .ok (.iconst (-1), 1) := by decide +kernel
theorem dX6_rowByLooking_7 : decode cX6_rowByLooking 7 = .ok (.ireturn, 1) := by decide +kernel
theorem dX6_rowByLooking_8 : decode cX6_rowByLooking 8 = .ok (.iconst 0, 1) := by decide +kernel
theorem dX6_rowByLooking_9 : decode cX6_rowByLooking 9 = .ok (.istore 4, 2) := by decide +kernel
theorem dX6_rowByLooking_11 : decode cX6_rowByLooking 11 = .ok (.iconst 0, 1) := by decide +kernel
theorem dX6_rowByLooking_12 : decode cX6_rowByLooking 12 = .ok (.istore 5, 2) := by decide +kernel
theorem dX6_rowByLooking_14 : decode cX6_rowByLooking 14 = .ok (.iload 5, 2) := by decide +kernel
theorem dX6_rowByLooking_16 : decode cX6_rowByLooking 16 = .ok (.aload_n 0, 1) := by decide +kernel
theorem dX6_rowByLooking_17 : decode cX6_rowByLooking 17 = .ok (.getfield 39, 3) := by decide +kernel
theorem dX6_rowByLooking_20 : decode cX6_rowByLooking 20 = .ok (.if_icmp .ge 32, 3) := by decide +kernel
theorem dX6_rowByLooking_23 : decode cX6_rowByLooking 23 = .ok (.aload_n 0, 1) := by decide +kernel
theorem dX6_rowByLooking_24 : decode cX6_rowByLooking 24 = .ok (.iload 5, 2) := by decide +kernel
theorem dX6_rowByLooking_26 : decode cX6_rowByLooking 26 = .ok (.iload_n 1, 1) := by decide +kernel
theorem dX6_rowByLooking_27 : decode cX6_rowByLooking 27 = .ok (.invokevirtual 89, 3) := by decide +kernel
theorem dX6_rowByLooking_30 : decode cX6_rowByLooking 30 = .ok (.iload_n 2, 1) := by decide +kernel
theorem dX6_rowByLooking_31 : decode cX6_rowByLooking 31 = .ok (.if_icmp .ne 15, 3) := by decide +kernel
theorem dX6_rowByLooking_34 : decode cX6_rowByLooking 34 = .ok (.iload 4, 2) := by decide +kernel
theorem dX6_rowByLooking_36 : decode cX6_rowByLooking 36 = .ok (.iload_n 3, 1) := by decide +kernel
theorem dX6_rowByLooking_37 : decode cX6_rowByLooking 37 = .ok (.if_icmp .ne 6, 3) := by decide +kernel
theorem dX6_rowByLooking_40 : decode cX6_rowByLooking 40 = .ok (.iload 5, 2) := by decide +kernel
theorem dX6_rowByLooking_42 : decode cX6_rowByLooking 42 = .ok (.ireturn, 1) := by decide +kernel
theorem dX6_rowByLooking_43 : decode cX6_rowByLooking 43 = .ok (.iinc 4 1, 3) := by decide +kernel
theorem dX6_rowByLooking_46 : decode cX6_rowByLooking 46 = .ok (.iinc 5 1, 3) := by decide +kernel
theorem dX6_rowByLooking_49 : decode cX6_rowByLooking 49 = .ok (.goto (-35), 3) := by decide +kernel
theorem dX6_rowByLooking_52 : decode cX6_rowByLooking 52 = .ok (.iconst (-1), 1) := by decide +kernel
theorem dX6_rowByLooking_53 : decode cX6_rowByLooking 53 = .ok (.ireturn, 1) := by decide +kernel
def is_X6_rowByLooking (Rt : np_Rt) : List (Nat × np_Op) := [(0, np_ild 1 2), (1, np_push 2 (.int (-2147483648))), (3, nq_icne 8), (6, np_push 1 (.int (-1))), (7, np_ret Rt), (8, np_push 1 (.int 0)), (9, np_ist 2 4), (11, np_push 1 (.int 0)), (12, np_ist 2 5), (14, np_ild 2 5), (16, np_ald 1 0), (17, nq_getf 6 7), (20, nq_ic (fun x y => y ≤ x) 52), (23, np_ald 1 0), (24, np_ild 2 5), (26, np_ild 1 1), (30, np_ild 1 2), (31, nq_icne 46), (34, np_ild 2 4), (36, np_ild 1 3), (37, nq_icne 43), (40, np_ild 2 5), (42, np_ret Rt), (43, np_iinc 4 1), (46, np_iinc 5 1), (49, np_goto 14), (52, np_push 1 (.int (-1))), (53, np_ret Rt)]
set_option maxRecDepth 20000 in
theorem so_X6_rowByLooking {X : np_Ctx} {Rt : np_Rt} (hX : np_ok RX6 cX6_rowByLooking 6 0 0 0 0 .ireturn X) (hR : ∀ st w ce sl, Rt st w ce sl → X.2.2.1 st w ce sl) : ∀ q ∈ is_X6_rowByLooking Rt, np_S X q.1 q.2 :=
  List.forall_mem_cons.mpr ⟨np_s_iload_n hX dX6_rowByLooking_0 rfl, List.forall_mem_cons.mpr ⟨np_s_ldc hX dX6_rowByLooking_1 gw1279, List.forall_mem_cons.mpr ⟨np_S.mono (op := np_icne 8) (np_s_icmp_ne hX dX6_rowByLooking_3 (by decide)) nq_icne_le, List.forall_mem_cons.mpr ⟨np_s_iconst hX dX6_rowByLooking_6 (by decide), List.forall_mem_cons.mpr ⟨np_S.mono (op := np_ret X.2.2.1) (np_s_ret hX dX6_rowByLooking_7) (nq_ret_le hR), List.forall_mem_cons.mpr ⟨np_s_iconst hX dX6_rowByLooking_8 (by decide), List.forall_mem_cons.mpr ⟨np_s_istore hX dX6_rowByLooking_9 (by decide), List.forall_mem_cons.mpr ⟨np_s_iconst hX dX6_rowByLooking_11 (by decide), List.forall_mem_cons.mpr ⟨np_s_istore hX dX6_rowByLooking_12 (by decide), List.forall_mem_cons.mpr ⟨np_s_iload hX dX6_rowByLooking_14, List.forall_mem_cons.mpr ⟨np_s_aload_n hX dX6_rowByLooking_16 rfl, List.forall_mem_cons.mpr ⟨np_S.mono (op := np_getf 6 7) (np_s_getf hX dX6_rowByLooking_17 (C := RX6) (T := TX6) (N := 12) rfl guX6 (by decide) gw421) nq_getf_le, List.forall_mem_cons.mpr ⟨np_S.mono (op := np_ic (fun x y => y ≤ x) 52) (np_s_icmp_ge hX dX6_rowByLooking_20 (by decide)) nq_ic_le, List.forall_mem_cons.mpr ⟨np_s_aload_n hX dX6_rowByLooking_23 rfl, List.forall_mem_cons.mpr ⟨np_s_iload hX dX6_rowByLooking_24, List.forall_mem_cons.mpr ⟨np_s_iload_n hX dX6_rowByLooking_26 rfl, List.forall_mem_cons.mpr ⟨np_s_iload_n hX dX6_rowByLooking_30 rfl, List.forall_mem_cons.mpr ⟨np_S.mono (op := np_icne 46) (np_s_icmp_ne hX dX6_rowByLooking_31 (by decide)) nq_icne_le, List.forall_mem_cons.mpr ⟨np_s_iload hX dX6_rowByLooking_34, List.forall_mem_cons.mpr ⟨np_s_iload_n hX dX6_rowByLooking_36 rfl, List.forall_mem_cons.mpr ⟨np_S.mono (op := np_icne 43) (np_s_icmp_ne hX dX6_rowByLooking_37 (by decide)) nq_icne_le, List.forall_mem_cons.mpr ⟨np_s_iload hX dX6_rowByLooking_40, List.forall_mem_cons.mpr ⟨np_S.mono (op := np_ret X.2.2.1) (np_s_ret hX dX6_rowByLooking_42) (nq_ret_le hR), List.forall_mem_cons.mpr ⟨np_s_iinc hX dX6_rowByLooking_43 (by decide), List.forall_mem_cons.mpr ⟨np_s_iinc hX dX6_rowByLooking_46 (by decide), List.forall_mem_cons.mpr ⟨np_s_goto hX dX6_rowByLooking_49 (by decide), List.forall_mem_cons.mpr ⟨np_s_iconst hX dX6_rowByLooking_52 (by decide), List.forall_mem_cons.mpr ⟨np_S.mono (op := np_ret X.2.2.1) (np_s_ret hX dX6_rowByLooking_53) (nq_ret_le hR), fun _ h => nomatch h⟩⟩⟩⟩⟩⟩⟩⟩⟩⟩⟩⟩⟩⟩⟩⟩⟩⟩⟩⟩⟩⟩⟩⟩⟩⟩⟩⟩
abbrev sp_X6_rowByLooking : np_Sp := nq_in is_X6_rowByLooking (some .int) 0 0 400
theorem C_X6_rowByLooking : np_C yX6_rowByLooking cX6_rowByLooking 6 (some .int) 0 0 0 0 sp_X6_rowByLooking := nq_inC 400 (by decide) (fun X Rt hX hmn hR => so_X6_rowByLooking hX hR)
theorem dX12_can_0 : decode cX12_can 0 = .ok (.aload_n 0, 1) := by decide +kernel
theorem dX12_can_1 : decode cX12_can 1 = .ok (.iload_n 1, 1) := by decide +kernel
theorem dX12_can_2 : decode cX12_can 2 = .ok (.putfield 180, 3) := by decide +kernel
theorem dX12_can_5 : decode cX12_can 5 = .ok (.iload_n 1, 1) := by decide +kernel
theorem dX12_can_6 : decode cX12_can 6 = .ok (.ifCond .ne 7, 3) := by decide +kernel
theorem dX12_can_9 : decode cX12_can 9 = .ok (.iconst 1, 1) := by decide +kernel
theorem dX12_can_10 : decode cX12_can 10 = .ok (.goto 4, 3) := by decide +kernel
theorem dX12_can_13 : decode cX12_can 13 = .ok (.iconst 0, 1) := by decide +kernel
theorem dX12_can_14 : decode cX12_can 14 = .ok (.ireturn, 1) := by decide +kernel
def is_X12_can (Rt : np_Rt) : List (Nat × np_Op) := [(0, np_ald 1 0), (1, np_ild 1 1), (2, nq_putf 12 76 (.int)), (5, np_ild 1 1), (6, nq_ifne 13), (9, np_push 1 (.int 1)), (10, np_goto 14), (13, np_push 1 (.int 0)), (14, np_ret Rt)]
set_option maxRecDepth 20000 in
theorem so_X12_can {X : np_Ctx} {Rt : np_Rt} (hX : np_ok RX12 cX12_can 2 0 0 0 0 .ireturn X) (hR : ∀ st w ce sl, Rt st w ce sl → X.2.2.1 st w ce sl) : ∀ q ∈ is_X12_can Rt, np_S X q.1 q.2 :=
  List.forall_mem_cons.mpr ⟨np_s_aload_n hX dX12_can_0 rfl, List.forall_mem_cons.mpr ⟨np_s_iload_n hX dX12_can_1 rfl, List.forall_mem_cons.mpr ⟨np_S.mono (op := np_putf 12 76 (.int)) (np_s_putf hX dX12_can_2 (C := RX12) (T := TX12) (N := 77) (ty0 := tyX12) rfl guX12 tyX12_ok nmX12 (by decide) gw1712 rfl rfl) nq_putf_le, List.forall_mem_cons.mpr ⟨np_s_iload_n hX dX12_can_5 rfl, List.forall_mem_cons.mpr ⟨np_S.mono (op := np_ifne 13) (np_s_if_ne hX dX12_can_6 (by decide)) nq_ifne_le, List.forall_mem_cons.mpr ⟨np_s_iconst hX dX12_can_9 (by decide), List.forall_mem_cons.mpr ⟨np_s_goto hX dX12_can_10 (by decide), List.forall_mem_cons.mpr ⟨np_s_iconst hX dX12_can_13 (by decide), List.forall_mem_cons.mpr ⟨np_S.mono (op := np_ret X.2.2.1) (np_s_ret hX dX12_can_14) (nq_ret_le hR), fun _ h => nomatch h⟩⟩⟩⟩⟩⟩⟩⟩⟩
abbrev sp_X12_can : np_Sp := nq_in is_X12_can (some .boolean) 0 0 400
theorem C_X12_can : np_C yX12_can cX12_can 2 (some .boolean) 0 0 0 0 sp_X12_can := nq_inC 400 (by decide) (fun X Rt hX hmn hR => so_X12_can hX hR)
theorem dX12_isIn_0 : decode cX12_isIn 0 = .ok (.iload_n 0, 1) := by decide +kernel
theorem dX12_isIn_1 : decode cX12_isIn 1 = .ok (.iload_n 1, 1) := by decide +kernel
theorem dX12_isIn_2 : decode cX12_isIn 2 = .ok (.if_icmp .lt 12, 3) := by decide +kernel
theorem dX12_isIn_5 : decode cX12_isIn 5 = .ok (.iload_n 0, 1) := by decide +kernel
theorem dX12_isIn_6 : decode cX12_isIn 6 = .ok (.iload_n 2, 1) := by decide +kernel
theorem dX12_isIn_7 : decode cX12_isIn 7 = .ok (.if_icmp .gt 7, 3) := by decide +kernel
theorem dX12_isIn_10 : decode cX12_isIn 10 = .ok (.iconst 1, 1) := by decide +kernel
theorem dX12_isIn_11 : decode cX12_isIn 11 = .ok (.goto 4, 3) := by decide +kernel
theorem dX12_isIn_14 : decode cX12_isIn 14 = .ok (.iconst 0, 1) := by decide +kernel
theorem dX12_isIn_15 : decode cX12_isIn 15 = .ok (.ireturn, 1) := by decide +kernel
def is_X12_isIn (Rt : np_Rt) : List (Nat × np_Op) := [(0, np_ild 1 0), (1, np_ild 1 1), (2, nq_ic (fun x y => x < y) 14), (5, np_ild 1 0), (6, np_ild 1 2), (7, nq_ic (fun x y => y < x) 14), (10, np_push 1 (.int 1)), (11, np_goto 15), (14, np_push 1 (.int 0)), (15, np_ret Rt)]
set_option maxRecDepth 20000 in
theorem so_X12_isIn {X : np_Ctx} {Rt : np_Rt} (hX : np_ok RX12 cX12_isIn 3 0 0 0 0 .ireturn X) (hR : ∀ st w ce sl, Rt st w ce sl → X.2.2.1 st w ce sl) : ∀ q ∈ is_X12_isIn Rt, np_S X q.1 q.2 :=
  List.forall_mem_cons.mpr ⟨np_s_iload_n hX dX12_isIn_0 rfl, List.forall_mem_cons.mpr ⟨np_s_iload_n hX dX12_isIn_1 rfl, List.forall_mem_cons.mpr ⟨np_S.mono (op := np_ic (fun x y => x < y) 14) (np_s_icmp_lt hX dX12_isIn_2 (by decide)) nq_ic_le, List.forall_mem_cons.mpr ⟨np_s_iload_n hX dX12_isIn_5 rfl, List.forall_mem_cons.mpr ⟨np_s_iload_n hX dX12_isIn_6 rfl, List.forall_mem_cons.mpr ⟨np_S.mono (op := np_ic (fun x y => y < x) 14) (np_s_icmp_gt hX dX12_isIn_7 (by decide)) nq_ic_le, List.forall_mem_cons.mpr ⟨np_s_iconst hX dX12_isIn_10 (by decide), List.forall_mem_cons.mpr ⟨np_s_goto hX dX12_isIn_11 (by decide), List.forall_mem_cons.mpr ⟨np_s_iconst hX dX12_isIn_14 (by decide), List.forall_mem_cons.mpr ⟨np_S.mono (op := np_ret X.2.2.1) (np_s_ret hX dX12_isIn_15) (nq_ret_le hR), fun _ h => nomatch h⟩⟩⟩⟩⟩⟩⟩⟩⟩⟩
abbrev sp_X12_isIn : np_Sp := nq_in is_X12_isIn (some .boolean) 0 0 400
theorem C_X12_isIn : np_C yX12_isIn cX12_isIn 3 (some .boolean) 0 0 0 0 sp_X12_isIn := nq_inC 400 (by decide) (fun X Rt hX hmn hR => so_X12_isIn hX hR)
theorem dX12_isSlot_0 : decode cX12_isSlot 0 = .ok (.iload_n 0, 1) := by decide +kernel
theorem dX12_isSlot_1 : decode cX12_isSlot 1 = .ok (.iconst 0, 1) := by decide +kernel
theorem dX12_isSlot_2 : decode cX12_isSlot 2 = .ok (.bipush 7, 2) := by decide +kernel
theorem dX12_isSlot_4 : decode cX12_isSlot 4 = .ok (.invokestatic 184, 3) := by decide +kernel
theorem dX12_isSlot_7 : decode cX12_isSlot 7 = .ok (.ireturn, 1) := by decide +kernel
def is_X12_isSlot (Rt : np_Rt) : List (Nat × np_Op) := [(0, np_ild 1 0), (1, np_push 1 (.int 0)), (2, np_push 2 (.int 7)), (4, nq_call 3 sp_X12_isIn 3 0 0 0 0), (7, np_ret Rt)]
set_option maxRecDepth 20000 in
theorem so_X12_isSlot {X : np_Ctx} {Rt : np_Rt} (hX : np_ok RX12 cX12_isSlot 1 1 22 0 0 .ireturn X) (hR : ∀ st w ce sl, Rt st w ce sl → X.2.2.1 st w ce sl) : ∀ q ∈ is_X12_isSlot Rt, np_S X q.1 q.2 :=
  List.forall_mem_cons.mpr ⟨np_s_iload_n hX dX12_isSlot_0 rfl, List.forall_mem_cons.mpr ⟨np_s_iconst hX dX12_isSlot_1 (by decide), List.forall_mem_cons.mpr ⟨np_s_bipush hX dX12_isSlot_2 (by decide), List.forall_mem_cons.mpr ⟨np_S.mono (op := np_call 3 sp_X12_isIn 3 0 0 0 0) (np_s_callS hX C_X12_isIn dX12_isSlot_4 gw1880 gw142 gw1878 gw1879 ⟨by decide, by decide, by decide⟩ (by decide) (by decide)) nq_call_le, List.forall_mem_cons.mpr ⟨np_S.mono (op := np_ret X.2.2.1) (np_s_ret hX dX12_isSlot_7) (nq_ret_le hR), fun _ h => nomatch h⟩⟩⟩⟩⟩
abbrev sp_X12_isSlot : np_Sp := nq_in is_X12_isSlot (some .boolean) 0 0 400
theorem C_X12_isSlot : np_C yX12_isSlot cX12_isSlot 1 (some .boolean) 1 22 0 0 sp_X12_isSlot := nq_inC 400 (by decide) (fun X Rt hX hmn hR => so_X12_isSlot hX hR)
theorem dX12_isFile_0 : decode cX12_isFile 0 = .ok (.iload_n 0, 1) := by decide +kernel
theorem dX12_isFile_1 : decode cX12_isFile 1 = .ok (.iconst 0, 1) := by decide +kernel
theorem dX12_isFile_2 : decode cX12_isFile 2 = .ok (.iconst 1, 1) := by decide +kernel
theorem dX12_isFile_3 : decode cX12_isFile 3 = .ok (.invokestatic 184, 3) := by decide +kernel
theorem dX12_isFile_6 : decode cX12_isFile 6 = .ok (.ireturn, 1) := by decide +kernel
def is_X12_isFile (Rt : np_Rt) : List (Nat × np_Op) := [(0, np_ild 1 0), (1, np_push 1 (.int 0)), (2, np_push 1 (.int 1)), (3, nq_call 3 sp_X12_isIn 3 0 0 0 0), (6, np_ret Rt)]
set_option maxRecDepth 20000 in
theorem so_X12_isFile {X : np_Ctx} {Rt : np_Rt} (hX : np_ok RX12 cX12_isFile 1 1 22 0 0 .ireturn X) (hR : ∀ st w ce sl, Rt st w ce sl → X.2.2.1 st w ce sl) : ∀ q ∈ is_X12_isFile Rt, np_S X q.1 q.2 :=
  List.forall_mem_cons.mpr ⟨np_s_iload_n hX dX12_isFile_0 rfl, List.forall_mem_cons.mpr ⟨np_s_iconst hX dX12_isFile_1 (by decide), List.forall_mem_cons.mpr ⟨np_s_iconst hX dX12_isFile_2 (by decide), List.forall_mem_cons.mpr ⟨np_S.mono (op := np_call 3 sp_X12_isIn 3 0 0 0 0) (np_s_callS hX C_X12_isIn dX12_isFile_3 gw1880 gw142 gw1878 gw1879 ⟨by decide, by decide, by decide⟩ (by decide) (by decide)) nq_call_le, List.forall_mem_cons.mpr ⟨np_S.mono (op := np_ret X.2.2.1) (np_s_ret hX dX12_isFile_6) (nq_ret_le hR), fun _ h => nomatch h⟩⟩⟩⟩⟩
abbrev sp_X12_isFile : np_Sp := nq_in is_X12_isFile (some .boolean) 0 0 400
theorem C_X12_isFile : np_C yX12_isFile cX12_isFile 1 (some .boolean) 1 22 0 0 sp_X12_isFile := nq_inC 400 (by decide) (fun X Rt hX hmn hR => so_X12_isFile hX hR)
theorem dX12_isDescription_0 : decode cX12_isDescription 0 = .ok (.iload_n 1, 1) := by decide +kernel
theorem dX12_isDescription_1 : decode cX12_isDescription 1 = .ok (.iconst 0, 1) := by decide +kernel
theorem dX12_isDescription_2 : decode cX12_isDescription 2 = .ok (.aload_n 0, 1) := by decide +kernel
theorem dX12_isDescription_3 : decode cX12_isDescription 3 = .ok (.getfield 188, 3) := by decide +kernel
theorem dX12_isDescription_6 : decode cX12_isDescription 6 = .ok (.iconst 1, 1) := by decide +kernel
theorem dX12_isDescription_7 : decode cX12_isDescription 7 = .ok (.isub, 1) := by decide +kernel
theorem dX12_isDescription_8 : decode cX12_isDescription 8 = .ok (.invokestatic 184, 3) := by decide +kernel
theorem dX12_isDescription_11 : decode cX12_isDescription 11 = .ok (.ireturn, 1) := by decide +kernel
def is_X12_isDescription (Rt : np_Rt) : List (Nat × np_Op) := [(0, np_ild 1 1), (1, np_push 1 (.int 0)), (2, np_ald 1 0), (3, nq_getf 12 5), (6, np_push 1 (.int 1)), (7, np_ib (fun x y => x - y)), (8, nq_call 3 sp_X12_isIn 3 0 0 0 0), (11, np_ret Rt)]
set_option maxRecDepth 20000 in
theorem so_X12_isDescription {X : np_Ctx} {Rt : np_Rt} (hX : np_ok RX12 cX12_isDescription 2 1 22 0 0 .ireturn X) (hR : ∀ st w ce sl, Rt st w ce sl → X.2.2.1 st w ce sl) : ∀ q ∈ is_X12_isDescription Rt, np_S X q.1 q.2 :=
  List.forall_mem_cons.mpr ⟨np_s_iload_n hX dX12_isDescription_0 rfl, List.forall_mem_cons.mpr ⟨np_s_iconst hX dX12_isDescription_1 (by decide), List.forall_mem_cons.mpr ⟨np_s_aload_n hX dX12_isDescription_2 rfl, List.forall_mem_cons.mpr ⟨np_S.mono (op := np_getf 12 5) (np_s_getf hX dX12_isDescription_3 (C := RX12) (T := TX12) (N := 77) rfl guX12 (by decide) gw1641) nq_getf_le, List.forall_mem_cons.mpr ⟨np_s_iconst hX dX12_isDescription_6 (by decide), List.forall_mem_cons.mpr ⟨np_s_isub hX dX12_isDescription_7, List.forall_mem_cons.mpr ⟨np_S.mono (op := np_call 3 sp_X12_isIn 3 0 0 0 0) (np_s_callS hX C_X12_isIn dX12_isDescription_8 gw1880 gw142 gw1878 gw1879 ⟨by decide, by decide, by decide⟩ (by decide) (by decide)) nq_call_le, List.forall_mem_cons.mpr ⟨np_S.mono (op := np_ret X.2.2.1) (np_s_ret hX dX12_isDescription_11) (nq_ret_le hR), fun _ h => nomatch h⟩⟩⟩⟩⟩⟩⟩⟩
abbrev sp_X12_isDescription : np_Sp := nq_in is_X12_isDescription (some .boolean) 0 0 400
theorem C_X12_isDescription : np_C yX12_isDescription cX12_isDescription 2 (some .boolean) 1 22 0 0 sp_X12_isDescription := nq_inC 400 (by decide) (fun X Rt hX hmn hR => so_X12_isDescription hX hR)
theorem dX12_has_0 : decode cX12_has 0 = .ok (.iload_n 0, 1) := by decide +kernel
theorem dX12_has_1 : decode cX12_has 1 = .ok (.iload_n 1, 1) := by decide +kernel
theorem dX12_has_2 : decode cX12_has 2 = .ok (.ishr, 1) := by decide +kernel
theorem dX12_has_3 : decode cX12_has 3 = .ok (.iconst 1, 1) := by decide +kernel
theorem dX12_has_4 : decode cX12_has 4 = .ok (.iand, 1) := by decide +kernel
theorem dX12_has_5 : decode cX12_has 5 = .ok (.iconst 1, 1) := by decide +kernel
theorem dX12_has_6 : decode cX12_has 6 = .ok (.if_icmp .ne 7, 3) := by decide +kernel
theorem dX12_has_9 : decode cX12_has 9 = .ok (.iconst 1, 1) := by decide +kernel
theorem dX12_has_10 : decode cX12_has 10 = .ok (.goto 4, 3) := by decide +kernel
theorem dX12_has_13 : decode cX12_has 13 = .ok (.iconst 0, 1) := by decide +kernel
theorem dX12_has_14 : decode cX12_has 14 = .ok (.ireturn, 1) := by decide +kernel
def is_X12_has (Rt : np_Rt) : List (Nat × np_Op) := [(0, np_ild 1 0), (1, np_ild 1 1), (2, np_ib (fun x y => x >>> (y &&& 31))), (3, np_push 1 (.int 1)), (4, np_ib (fun x y => x &&& y)), (5, np_push 1 (.int 1)), (6, nq_icne 13), (9, np_push 1 (.int 1)), (10, np_goto 14), (13, np_push 1 (.int 0)), (14, np_ret Rt)]
set_option maxRecDepth 20000 in
theorem so_X12_has {X : np_Ctx} {Rt : np_Rt} (hX : np_ok RX12 cX12_has 2 0 0 0 0 .ireturn X) (hR : ∀ st w ce sl, Rt st w ce sl → X.2.2.1 st w ce sl) : ∀ q ∈ is_X12_has Rt, np_S X q.1 q.2 :=
  List.forall_mem_cons.mpr ⟨np_s_iload_n hX dX12_has_0 rfl, List.forall_mem_cons.mpr ⟨np_s_iload_n hX dX12_has_1 rfl, List.forall_mem_cons.mpr ⟨np_s_ishr hX dX12_has_2, List.forall_mem_cons.mpr ⟨np_s_iconst hX dX12_has_3 (by decide), List.forall_mem_cons.mpr ⟨np_s_iand hX dX12_has_4, List.forall_mem_cons.mpr ⟨np_s_iconst hX dX12_has_5 (by decide), List.forall_mem_cons.mpr ⟨np_S.mono (op := np_icne 13) (np_s_icmp_ne hX dX12_has_6 (by decide)) nq_icne_le, List.forall_mem_cons.mpr ⟨np_s_iconst hX dX12_has_9 (by decide), List.forall_mem_cons.mpr ⟨np_s_goto hX dX12_has_10 (by decide), List.forall_mem_cons.mpr ⟨np_s_iconst hX dX12_has_13 (by decide), List.forall_mem_cons.mpr ⟨np_S.mono (op := np_ret X.2.2.1) (np_s_ret hX dX12_has_14) (nq_ret_le hR), fun _ h => nomatch h⟩⟩⟩⟩⟩⟩⟩⟩⟩⟩⟩
abbrev sp_X12_has : np_Sp := nq_in is_X12_has (some .boolean) 0 0 400
theorem C_X12_has : np_C yX12_has cX12_has 2 (some .boolean) 0 0 0 0 sp_X12_has := nq_inC 400 (by decide) (fun X Rt hX hmn hR => so_X12_has hX hR)
theorem dX12_isRight_0 : decode cX12_isRight 0 = .ok (.iload_n 0, 1) := by decide +kernel
theorem dX12_isRight_1 : decode cX12_isRight 1 = .ok (.tableswitch 242 0 8 #[51, 89, 114, 135, 155, 173, 242, 198, 217], 51) := by decide +kernel
theorem dX12_isRight_52 : decode cX12_isRight 52 = .ok (.iload_n 2, 1) := by decide +kernel
theorem dX12_isRight_53 : decode cX12_isRight 53 = .ok (.iconst 1, 1) := by decide +kernel
theorem dX12_isRight_54 : decode cX12_isRight 54 = .ok (.bipush 8, 2) := by decide +kernel
theorem dX12_isRight_56 : decode cX12_isRight 56 = .ok (.invokestatic 184, 3) := by decide +kernel
theorem dX12_isRight_59 : decode cX12_isRight 59 = .ok (.ifCond .eq 29, 3) := by decide +kernel
theorem dX12_isRight_62 : decode cX12_isRight 62 = .ok (.iload_n 3, 1) := by decide +kernel
theorem dX12_isRight_63 : decode cX12_isRight 63 = .ok (.iconst 0, 1) := by decide +kernel
theorem dX12_isRight_64 : decode cX12_isRight 64 = .ok (.bipush 8, 2) := by decide +kernel
theorem dX12_isRight_66 : decode cX12_isRight 66 = .ok (.invokestatic 184, 3) := by decide +kernel
theorem dX12_isRight_69 : decode cX12_isRight 69 = .ok (.ifCond .eq 19, 3) := by decide +kernel
theorem dX12_isRight_72 : decode cX12_isRight 72 = .ok (.iload_n 3, 1) := by decide +kernel
theorem dX12_isRight_73 : decode cX12_isRight 73 = .ok (.iconst 3, 1) := by decide +kernel
theorem dX12_isRight_74 : decode cX12_isRight 74 = .ok (.if_icmp .lt 10, 3) := by decide +kernel
theorem dX12_isRight_77 : decode cX12_isRight 77 = .ok (.iload_n 3, 1) := by decide +kernel
theorem dX12_isRight_78 : decode cX12_isRight 78 = .ok (.iconst 3, 1) := by decide +kernel
theorem dX12_isRight_79 : decode cX12_isRight 79 = .ok (.irem, 1) := by decide +kernel
theorem dX12_isRight_80 : decode cX12_isRight 80 = .ok (.iconst 1, 1) := by decide +kernel
theorem dX12_isRight_81 : decode cX12_isRight 81 = .ok (.if_icmp .eq 7, 3) := by decide +kernel
theorem dX12_isRight_84 : decode cX12_isRight 84 = .ok (.iconst 1, 1) := by decide +kernel
theorem dX12_isRight_85 : decode cX12_isRight 85 = .ok (.goto 4, 3) := by decide +kernel
theorem dX12_isRight_88 : decode cX12_isRight 88 = .ok (.iconst 0, 1) := by decide +kernel
theorem dX12_isRight_89 : decode cX12_isRight 89 = .ok (.ireturn, 1) := by decide +kernel
theorem dX12_isRight_90 : decode cX12_isRight 90 = .ok (.iload_n 2, 1) := by decide +kernel
theorem dX12_isRight_91 : decode cX12_isRight 91 = .ok (.iconst 1, 1) := by decide +kernel
theorem dX12_isRight_92 : decode cX12_isRight 92 = .ok (.bipush 9, 2) := by decide +kernel
theorem dX12_isRight_94 : decode cX12_isRight 94 = .ok (.invokestatic 184, 3) := by decide +kernel
theorem dX12_isRight_97 : decode cX12_isRight 97 = .ok (.ifCond .eq 16, 3) := by decide +kernel
theorem dX12_isRight_100 : decode cX12_isRight 100 = .ok (.iload_n 3, 1) := by decide +kernel
theorem dX12_isRight_101 : decode cX12_isRight 101 = .ok (.iconst 0, 1) := by decide +kernel
theorem dX12_isRight_102 : decode cX12_isRight 102 = .ok (.iconst 2, 1) := by decide +kernel
theorem dX12_isRight_103 : decode cX12_isRight 103 = .ok (.invokestatic 184, 3) := by decide +kernel
theorem dX12_isRight_106 : decode cX12_isRight 106 = .ok (.ifCond .eq 7, 3) := by decide +kernel
theorem dX12_isRight_109 : decode cX12_isRight 109 = .ok (.iconst 1, 1) := by decide +kernel
theorem dX12_isRight_110 : decode cX12_isRight 110 = .ok (.goto 4, 3) := by decide +kernel
theorem dX12_isRight_113 : decode cX12_isRight 113 = .ok (.iconst 0, 1) := by decide +kernel
theorem dX12_isRight_114 : decode cX12_isRight 114 = .ok (.ireturn, 1) := by decide +kernel
theorem dX12_isRight_115 : decode cX12_isRight 115 = .ok (.iload_n 2, 1) := by decide +kernel
theorem dX12_isRight_116 : decode cX12_isRight 116 = .ok (.bipush 33, 2) := by decide +kernel
theorem dX12_isRight_118 : decode cX12_isRight 118 = .ok (.bipush 126, 2) := by decide +kernel
theorem dX12_isRight_120 : decode cX12_isRight 120 = .ok (.invokestatic 184, 3) := by decide +kernel
theorem dX12_isRight_123 : decode cX12_isRight 123 = .ok (.ifCond .eq 11, 3) := by decide +kernel
theorem dX12_isRight_126 : decode cX12_isRight 126 = .ok (.iload_n 3, 1) := by decide +kernel
theorem dX12_isRight_127 : decode cX12_isRight 127 = .ok (.ifCond .ne 7, 3) := by decide +kernel
theorem dX12_isRight_130 : decode cX12_isRight 130 = .ok (.iconst 1, 1) := by decide +kernel
theorem dX12_isRight_131 : decode cX12_isRight 131 = .ok (.goto 4, 3) := by decide +kernel
theorem dX12_isRight_134 : decode cX12_isRight 134 = .ok (.iconst 0, 1) := by decide +kernel
theorem dX12_isRight_135 : decode cX12_isRight 135 = .ok (.ireturn, 1) := by decide +kernel
theorem dX12_isRight_136 : decode cX12_isRight 136 = .ok (.iload_n 2, 1) := by decide +kernel
theorem dX12_isRight_137 : decode cX12_isRight 137 = .ok (.iconst 1, 1) := by decide +kernel
theorem dX12_isRight_138 : decode cX12_isRight 138 = .ok (.bipush 8, 2) := by decide +kernel
theorem dX12_isRight_140 : decode cX12_isRight 140 = .ok (.invokestatic 184, 3) := by decide +kernel
theorem dX12_isRight_143 : decode cX12_isRight 143 = .ok (.ifCond .eq 11, 3) := by decide +kernel
theorem dX12_isRight_146 : decode cX12_isRight 146 = .ok (.iload_n 3, 1) := by decide +kernel
theorem dX12_isRight_147 : decode cX12_isRight 147 = .ok (.ifCond .ne 7, 3) := by decide +kernel
theorem dX12_isRight_150 : decode cX12_isRight 150 = .ok (.iconst 1, 1) := by decide +kernel
theorem dX12_isRight_151 : decode cX12_isRight 151 = .ok (.goto 4, 3) := by decide +kernel
theorem dX12_isRight_154 : decode cX12_isRight 154 = .ok (.iconst 0, 1) := by decide +kernel
theorem dX12_isRight_155 : decode cX12_isRight 155 = .ok (.ireturn, 1) := by decide +kernel
theorem dX12_isRight_156 : decode cX12_isRight 156 = .ok (.iload_n 1, 1) := by decide +kernel
theorem dX12_isRight_157 : decode cX12_isRight 157 = .ok (.ifCond .ne 15, 3) := by decide +kernel
theorem dX12_isRight_160 : decode cX12_isRight 160 = .ok (.iload_n 2, 1) := by decide +kernel
theorem dX12_isRight_161 : decode cX12_isRight 161 = .ok (.ifCond .ne 11, 3) := by decide +kernel
theorem dX12_isRight_164 : decode cX12_isRight 164 = .ok (.iload_n 3, 1) := by decide +kernel
theorem dX12_isRight_165 : decode cX12_isRight 165 = .ok (.ifCond .ne 7, 3) := by decide +kernel
theorem dX12_isRight_168 : decode cX12_isRight 168 = .ok (.iconst 1, 1) := by decide +kernel
theorem dX12_isRight_169 : decode cX12_isRight 169 = .ok (.goto 4, 3) := by decide +kernel
theorem dX12_isRight_172 : decode cX12_isRight 172 = .ok (.iconst 0, 1) := by decide +kernel
theorem dX12_isRight_173 : decode cX12_isRight 173 = .ok (.ireturn, 1) := by decide +kernel
theorem dX12_isRight_174 : decode cX12_isRight 174 = .ok (.iload_n 1, 1) := by decide +kernel
theorem dX12_isRight_175 : decode cX12_isRight 175 = .ok (.bipush 32, 2) := by decide +kernel
theorem dX12_isRight_177 : decode cX12_isRight 177 = .ok (.bipush 126, 2) := by decide +kernel
theorem dX12_isRight_179 : decode cX12_isRight 179 = .ok (.invokestatic 184, 3) := by decide +kernel
theorem dX12_isRight_182 : decode cX12_isRight 182 = .ok (.ifCond .eq 15, 3) := by decide +kernel
theorem dX12_isRight_185 : decode cX12_isRight 185 = .ok (.iload_n 2, 1) := by decide +kernel
theorem dX12_isRight_186 : decode cX12_isRight 186 = .ok (.ifCond .ne 11, 3) := by decide +kernel
theorem dX12_isRight_189 : decode cX12_isRight 189 = .ok (.iload_n 3, 1) := by decide +kernel
theorem dX12_isRight_190 : decode cX12_isRight 190 = .ok (.ifCond .ne 7, 3) := by decide +kernel
theorem dX12_isRight_193 : decode cX12_isRight 193 = .ok (.iconst 1, 1) := by decide +kernel
theorem dX12_isRight_194 : decode cX12_isRight 194 = .ok (.goto 4, 3) := by decide +kernel
theorem dX12_isRight_197 : decode cX12_isRight 197 = .ok (.iconst 0, 1) := by decide +kernel
theorem dX12_isRight_198 : decode cX12_isRight 198 = .ok (.ireturn, 1) := by decide +kernel
theorem dX12_isRight_199 : decode cX12_isRight 199 = .ok (.iload_n 2, 1) := by decide +kernel
theorem dX12_isRight_200 : decode cX12_isRight 200 = .ok (.iconst 1, 1) := by decide +kernel
theorem dX12_isRight_201 : decode cX12_isRight 201 = .ok (.iconst 3, 1) := by decide +kernel
theorem dX12_isRight_202 : decode cX12_isRight 202 = .ok (.invokestatic 184, 3) := by decide +kernel
theorem dX12_isRight_205 : decode cX12_isRight 205 = .ok (.ifCond .eq 11, 3) := by decide +kernel
theorem dX12_isRight_208 : decode cX12_isRight 208 = .ok (.iload_n 3, 1) := by decide +kernel
theorem dX12_isRight_209 : decode cX12_isRight 209 = .ok (.ifCond .ne 7, 3) := by decide +kernel
theorem dX12_isRight_212 : decode cX12_isRight 212 = .ok (.iconst 1, 1) := by decide +kernel
theorem dX12_isRight_213 : decode cX12_isRight 213 = .ok (.goto 4, 3) := by decide +kernel
theorem dX12_isRight_216 : decode cX12_isRight 216 = .ok (.iconst 0, 1) := by decide +kernel
theorem dX12_isRight_217 : decode cX12_isRight 217 = .ok (.ireturn, 1) := by decide +kernel
theorem dX12_isRight_218 : decode cX12_isRight 218 = .ok (.iload_n 2, 1) := by decide +kernel
theorem dX12_isRight_219 : decode cX12_isRight 219 = .ok (.iconst 1, 1) := by decide +kernel
theorem dX12_isRight_220 : decode cX12_isRight 220 = .ok (.iconst 3, 1) := by decide +kernel
theorem dX12_isRight_221 : decode cX12_isRight 221 = .ok (.invokestatic 184, 3) := by decide +kernel
theorem dX12_isRight_224 : decode cX12_isRight 224 = .ok (.ifCond .eq 17, 3) := by decide +kernel
theorem dX12_isRight_227 : decode cX12_isRight 227 = .ok (.iload_n 3, 1) := by decide +kernel
theorem dX12_isRight_228 : decode cX12_isRight 228 = .ok (.iconst 0, 1) := by decide +kernel
theorem dX12_isRight_229 : decode cX12_isRight 229 = .ok (.bipush 99, 2) := by decide +kernel
theorem dX12_isRight_231 : decode cX12_isRight 231 = .ok (.invokestatic 184, 3) := by decide +kernel
theorem dX12_isRight_234 : decode cX12_isRight 234 = .ok (.ifCond .eq 7, 3) := by decide +kernel
theorem dX12_isRight_237 : decode cX12_isRight 237 = .ok (.iconst 1, 1) := by decide +kernel
theorem dX12_isRight_238 : decode cX12_isRight 238 = .ok (.goto 4, 3) := by decide +kernel
theorem dX12_isRight_241 : decode cX12_isRight 241 = .ok (.iconst 0, 1) := by decide +kernel
theorem dX12_isRight_242 : decode cX12_isRight 242 = .ok (.ireturn, 1) := by decide +kernel
theorem dX12_isRight_243 : decode cX12_isRight 243 = .ok (.iload_n 0, 1) := by decide +kernel
theorem dX12_isRight_244 : decode cX12_isRight 244 = .ok (.bipush 6, 2) := by decide +kernel
theorem dX12_isRight_246 : decode cX12_isRight 246 = .ok (.bipush 9, 2) := by decide +kernel
theorem dX12_isRight_248 : decode cX12_isRight 248 = .ok (.invokestatic 184, 3) := by decide +kernel
theorem dX12_isRight_251 : decode cX12_isRight 251 = .ok (.ifCond .eq 15, 3) := by decide +kernel
theorem dX12_isRight_254 : decode cX12_isRight 254 = .ok (.iload_n 2, 1) := by decide +kernel
theorem dX12_isRight_255 : decode cX12_isRight 255 = .ok (.ifCond .ne 11, 3) := by decide +kernel
theorem dX12_isRight_258 : decode cX12_isRight 258 = .ok (.iload_n 3, 1) := by decide +kernel
theorem dX12_isRight_259 : decode cX12_isRight 259 = .ok (.ifCond .ne 7, 3) := by decide +kernel
theorem dX12_isRight_262 : decode cX12_isRight 262 = .ok (.iconst 1, 1) := by decide +kernel
theorem dX12_isRight_263 : decode cX12_isRight 263 = .ok (.goto 4, 3) := by decide +kernel
theorem dX12_isRight_266 : decode cX12_isRight 266 = .ok (.iconst 0, 1) := by decide +kernel
theorem dX12_isRight_267 : decode cX12_isRight 267 = .ok (.ireturn, 1) := by decide +kernel
def is_X12_isRight (Rt : np_Rt) : List (Nat × np_Op) := [(0, np_ild 1 0), (1, nq_tsw (0) [52, 90, 115, 136, 156, 174, 243, 199, 218] 243), (52, np_ild 1 2), (53, np_push 1 (.int 1)), (54, np_push 2 (.int 8)), (56, nq_call 3 sp_X12_isIn 3 0 0 0 0), (59, nq_if (fun x => x = 0) 88), (62, np_ild 1 3), (63, np_push 1 (.int 0)), (64, np_push 2 (.int 8)), (66, nq_call 3 sp_X12_isIn 3 0 0 0 0), (69, nq_if (fun x => x = 0) 88), (72, np_ild 1 3), (73, np_push 1 (.int 3)), (74, nq_ic (fun x y => x < y) 84), (77, np_ild 1 3), (78, np_push 1 (.int 3)), (79, nq_ibn (fun x y => x - x / y * y)), (80, np_push 1 (.int 1)), (81, nq_ic (fun x y => x = y) 88), (84, np_push 1 (.int 1)), (85, np_goto 89), (88, np_push 1 (.int 0)), (89, np_ret Rt), (90, np_ild 1 2), (91, np_push 1 (.int 1)), (92, np_push 2 (.int 9)), (94, nq_call 3 sp_X12_isIn 3 0 0 0 0), (97, nq_if (fun x => x = 0) 113), (100, np_ild 1 3), (101, np_push 1 (.int 0)), (102, np_push 1 (.int 2)), (103, nq_call 3 sp_X12_isIn 3 0 0 0 0), (106, nq_if (fun x => x = 0) 113), (109, np_push 1 (.int 1)), (110, np_goto 114), (113, np_push 1 (.int 0)), (114, np_ret Rt), (115, np_ild 1 2), (116, np_push 2 (.int 33)), (118, np_push 2 (.int 126)), (120, nq_call 3 sp_X12_isIn 3 0 0 0 0), (123, nq_if (fun x => x = 0) 134), (126, np_ild 1 3), (127, nq_ifne 134), (130, np_push 1 (.int 1)), (131, np_goto 135), (134, np_push 1 (.int 0)), (135, np_ret Rt), (136, np_ild 1 2), (137, np_push 1 (.int 1)), (138, np_push 2 (.int 8)), (140, nq_call 3 sp_X12_isIn 3 0 0 0 0), (143, nq_if (fun x => x = 0) 154), (146, np_ild 1 3), (147, nq_ifne 154), (150, np_push 1 (.int 1)), (151, np_goto 155), (154, np_push 1 (.int 0)), (155, np_ret Rt), (156, np_ild 1 1), (157, nq_ifne 172), (160, np_ild 1 2), (161, nq_ifne 172), (164, np_ild 1 3), (165, nq_ifne 172), (168, np_push 1 (.int 1)), (169, np_goto 173), (172, np_push 1 (.int 0)), (173, np_ret Rt), (174, np_ild 1 1), (175, np_push 2 (.int 32)), (177, np_push 2 (.int 126)), (179, nq_call 3 sp_X12_isIn 3 0 0 0 0), (182, nq_if (fun x => x = 0) 197), (185, np_ild 1 2), (186, nq_ifne 197), (189, np_ild 1 3), (190, nq_ifne 197), (193, np_push 1 (.int 1)), (194, np_goto 198), (197, np_push 1 (.int 0)), (198, np_ret Rt), (199, np_ild 1 2), (200, np_push 1 (.int 1)), (201, np_push 1 (.int 3)), (202, nq_call 3 sp_X12_isIn 3 0 0 0 0), (205, nq_if (fun x => x = 0) 216), (208, np_ild 1 3), (209, nq_ifne 216), (212, np_push 1 (.int 1)), (213, np_goto 217), (216, np_push 1 (.int 0)), (217, np_ret Rt), (218, np_ild 1 2), (219, np_push 1 (.int 1)), (220, np_push 1 (.int 3)), (221, nq_call 3 sp_X12_isIn 3 0 0 0 0), (224, nq_if (fun x => x = 0) 241), (227, np_ild 1 3), (228, np_push 1 (.int 0)), (229, np_push 2 (.int 99)), (231, nq_call 3 sp_X12_isIn 3 0 0 0 0), (234, nq_if (fun x => x = 0) 241), (237, np_push 1 (.int 1)), (238, np_goto 242), (241, np_push 1 (.int 0)), (242, np_ret Rt), (243, np_ild 1 0), (244, np_push 2 (.int 6)), (246, np_push 2 (.int 9)), (248, nq_call 3 sp_X12_isIn 3 0 0 0 0), (251, nq_if (fun x => x = 0) 266), (254, np_ild 1 2), (255, nq_ifne 266), (258, np_ild 1 3), (259, nq_ifne 266), (262, np_push 1 (.int 1)), (263, np_goto 267), (266, np_push 1 (.int 0)), (267, np_ret Rt)]
set_option maxRecDepth 20000 in
theorem so_X12_isRight {X : np_Ctx} {Rt : np_Rt} (hX : np_ok RX12 cX12_isRight 4 1 22 0 0 .ireturn X) (hR : ∀ st w ce sl, Rt st w ce sl → X.2.2.1 st w ce sl) : ∀ q ∈ is_X12_isRight Rt, np_S X q.1 q.2 :=
  List.forall_mem_cons.mpr ⟨np_s_iload_n hX dX12_isRight_0 rfl, List.forall_mem_cons.mpr ⟨np_S.mono (op := np_tsw (0) (8) [52, 90, 115, 136, 156, 174, 243, 199, 218] 243) (np_s_tsw hX dX12_isRight_1 (by decide) (by decide) (by decide)) (nq_tsw_le (by decide)), List.forall_mem_cons.mpr ⟨np_s_iload_n hX dX12_isRight_52 rfl, List.forall_mem_cons.mpr ⟨np_s_iconst hX dX12_isRight_53 (by decide), List.forall_mem_cons.mpr ⟨np_s_bipush hX dX12_isRight_54 (by decide), List.forall_mem_cons.mpr ⟨np_S.mono (op := np_call 3 sp_X12_isIn 3 0 0 0 0) (np_s_callS hX C_X12_isIn dX12_isRight_56 gw1880 gw142 gw1878 gw1879 ⟨by decide, by decide, by decide⟩ (by decide) (by decide)) nq_call_le, List.forall_mem_cons.mpr ⟨np_S.mono (op := np_if (fun x => x = 0) 88) (np_s_if_eq hX dX12_isRight_59 (by decide)) nq_if_le, List.forall_mem_cons.mpr ⟨np_s_iload_n hX dX12_isRight_62 rfl, List.forall_mem_cons.mpr ⟨np_s_iconst hX dX12_isRight_63 (by decide), List.forall_mem_cons.mpr ⟨np_s_bipush hX dX12_isRight_64 (by decide), List.forall_mem_cons.mpr ⟨np_S.mono (op := np_call 3 sp_X12_isIn 3 0 0 0 0) (np_s_callS hX C_X12_isIn dX12_isRight_66 gw1880 gw142 gw1878 gw1879 ⟨by decide, by decide, by decide⟩ (by decide) (by decide)) nq_call_le, List.forall_mem_cons.mpr ⟨np_S.mono (op := np_if (fun x => x = 0) 88) (np_s_if_eq hX dX12_isRight_69 (by decide)) nq_if_le, List.forall_mem_cons.mpr ⟨np_s_iload_n hX dX12_isRight_72 rfl, List.forall_mem_cons.mpr ⟨np_s_iconst hX dX12_isRight_73 (by decide), List.forall_mem_cons.mpr ⟨np_S.mono (op := np_ic (fun x y => x < y) 84) (np_s_icmp_lt hX dX12_isRight_74 (by decide)) nq_ic_le, List.forall_mem_cons.mpr ⟨np_s_iload_n hX dX12_isRight_77 rfl, List.forall_mem_cons.mpr ⟨np_s_iconst hX dX12_isRight_78 (by decide), List.forall_mem_cons.mpr ⟨np_S.mono (op := np_ibn (fun x y => x - x / y * y)) (np_s_irem hX dX12_isRight_79) nq_ibn_le, List.forall_mem_cons.mpr ⟨np_s_iconst hX dX12_isRight_80 (by decide), List.forall_mem_cons.mpr ⟨np_S.mono (op := np_ic (fun x y => x = y) 88) (np_s_icmp_eq hX dX12_isRight_81 (by decide)) nq_ic_le, List.forall_mem_cons.mpr ⟨np_s_iconst hX dX12_isRight_84 (by decide), List.forall_mem_cons.mpr ⟨np_s_goto hX dX12_isRight_85 (by decide), List.forall_mem_cons.mpr ⟨np_s_iconst hX dX12_isRight_88 (by decide), List.forall_mem_cons.mpr ⟨np_S.mono (op := np_ret X.2.2.1) (np_s_ret hX dX12_isRight_89) (nq_ret_le hR), List.forall_mem_cons.mpr ⟨np_s_iload_n hX dX12_isRight_90 rfl, List.forall_mem_cons.mpr ⟨np_s_iconst hX dX12_isRight_91 (by decide), List.forall_mem_cons.mpr ⟨np_s_bipush hX dX12_isRight_92 (by decide), List.forall_mem_cons.mpr ⟨np_S.mono (op := np_call 3 sp_X12_isIn 3 0 0 0 0) (np_s_callS hX C_X12_isIn dX12_isRight_94 gw1880 gw142 gw1878 gw1879 ⟨by decide, by decide, by decide⟩ (by decide) (by decide)) nq_call_le, List.forall_mem_cons.mpr ⟨np_S.mono (op := np_if (fun x => x = 0) 113) (np_s_if_eq hX dX12_isRight_97 (by decide)) nq_if_le, List.forall_mem_cons.mpr ⟨np_s_iload_n hX dX12_isRight_100 rfl, List.forall_mem_cons.mpr ⟨np_s_iconst hX dX12_isRight_101 (by decide), List.forall_mem_cons.mpr ⟨np_s_iconst hX dX12_isRight_102 (by decide), List.forall_mem_cons.mpr ⟨np_S.mono (op := np_call 3 sp_X12_isIn 3 0 0 0 0) (np_s_callS hX C_X12_isIn dX12_isRight_103 gw1880 gw142 gw1878 gw1879 ⟨by decide, by decide, by decide⟩ (by decide) (by decide)) nq_call_le, List.forall_mem_cons.mpr ⟨np_S.mono (op := np_if (fun x => x = 0) 113) (np_s_if_eq hX dX12_isRight_106 (by decide)) nq_if_le, List.forall_mem_cons.mpr ⟨np_s_iconst hX dX12_isRight_109 (by decide), List.forall_mem_cons.mpr ⟨np_s_goto hX dX12_isRight_110 (by decide), List.forall_mem_cons.mpr ⟨np_s_iconst hX dX12_isRight_113 (by decide), List.forall_mem_cons.mpr ⟨np_S.mono (op := np_ret X.2.2.1) (np_s_ret hX dX12_isRight_114) (nq_ret_le hR), List.forall_mem_cons.mpr ⟨np_s_iload_n hX dX12_isRight_115 rfl, List.forall_mem_cons.mpr ⟨np_s_bipush hX dX12_isRight_116 (by decide), List.forall_mem_cons.mpr ⟨np_s_bipush hX dX12_isRight_118 (by decide), List.forall_mem_cons.mpr ⟨np_S.mono (op := np_call 3 sp_X12_isIn 3 0 0 0 0) (np_s_callS hX C_X12_isIn dX12_isRight_120 gw1880 gw142 gw1878 gw1879 ⟨by decide, by decide, by decide⟩ (by decide) (by decide)) nq_call_le, List.forall_mem_cons.mpr ⟨np_S.mono (op := np_if (fun x => x = 0) 134) (np_s_if_eq hX dX12_isRight_123 (by decide)) nq_if_le, List.forall_mem_cons.mpr ⟨np_s_iload_n hX dX12_isRight_126 rfl, List.forall_mem_cons.mpr ⟨np_S.mono (op := np_ifne 134) (np_s_if_ne hX dX12_isRight_127 (by decide)) nq_ifne_le, List.forall_mem_cons.mpr ⟨np_s_iconst hX dX12_isRight_130 (by decide), List.forall_mem_cons.mpr ⟨np_s_goto hX dX12_isRight_131 (by decide), List.forall_mem_cons.mpr ⟨np_s_iconst hX dX12_isRight_134 (by decide), List.forall_mem_cons.mpr ⟨np_S.mono (op := np_ret X.2.2.1) (np_s_ret hX dX12_isRight_135) (nq_ret_le hR), List.forall_mem_cons.mpr ⟨np_s_iload_n hX dX12_isRight_136 rfl, List.forall_mem_cons.mpr ⟨np_s_iconst hX dX12_isRight_137 (by decide), List.forall_mem_cons.mpr ⟨np_s_bipush hX dX12_isRight_138 (by decide), List.forall_mem_cons.mpr ⟨np_S.mono (op := np_call 3 sp_X12_isIn 3 0 0 0 0) (np_s_callS hX C_X12_isIn dX12_isRight_140 gw1880 gw142 gw1878 gw1879 ⟨by decide, by decide, by decide⟩ (by decide) (by decide)) nq_call_le, List.forall_mem_cons.mpr ⟨np_S.mono (op := np_if (fun x => x = 0) 154) (np_s_if_eq hX dX12_isRight_143 (by decide)) nq_if_le, List.forall_mem_cons.mpr ⟨np_s_iload_n hX dX12_isRight_146 rfl, List.forall_mem_cons.mpr ⟨np_S.mono (op := np_ifne 154) (np_s_if_ne hX dX12_isRight_147 (by decide)) nq_ifne_le, List.forall_mem_cons.mpr ⟨np_s_iconst hX dX12_isRight_150 (by decide), List.forall_mem_cons.mpr ⟨np_s_goto hX dX12_isRight_151 (by decide), List.forall_mem_cons.mpr ⟨np_s_iconst hX dX12_isRight_154 (by decide), List.forall_mem_cons.mpr ⟨np_S.mono (op := np_ret X.2.2.1) (np_s_ret hX dX12_isRight_155) (nq_ret_le hR), List.forall_mem_cons.mpr ⟨np_s_iload_n hX dX12_isRight_156 rfl, List.forall_mem_cons.mpr ⟨np_S.mono (op := np_ifne 172) (np_s_if_ne hX dX12_isRight_157 (by decide)) nq_ifne_le, List.forall_mem_cons.mpr ⟨np_s_iload_n hX dX12_isRight_160 rfl, List.forall_mem_cons.mpr ⟨np_S.mono (op := np_ifne 172) (np_s_if_ne hX dX12_isRight_161 (by decide)) nq_ifne_le, List.forall_mem_cons.mpr ⟨np_s_iload_n hX dX12_isRight_164 rfl, List.forall_mem_cons.mpr ⟨np_S.mono (op := np_ifne 172) (np_s_if_ne hX dX12_isRight_165 (by decide)) nq_ifne_le, List.forall_mem_cons.mpr ⟨np_s_iconst hX dX12_isRight_168 (by decide), List.forall_mem_cons.mpr ⟨np_s_goto hX dX12_isRight_169 (by decide), List.forall_mem_cons.mpr ⟨np_s_iconst hX dX12_isRight_172 (by decide), List.forall_mem_cons.mpr ⟨np_S.mono (op := np_ret X.2.2.1) (np_s_ret hX dX12_isRight_173) (nq_ret_le hR), List.forall_mem_cons.mpr ⟨np_s_iload_n hX dX12_isRight_174 rfl, List.forall_mem_cons.mpr ⟨np_s_bipush hX dX12_isRight_175 (by decide), List.forall_mem_cons.mpr ⟨np_s_bipush hX dX12_isRight_177 (by decide), List.forall_mem_cons.mpr ⟨np_S.mono (op := np_call 3 sp_X12_isIn 3 0 0 0 0) (np_s_callS hX C_X12_isIn dX12_isRight_179 gw1880 gw142 gw1878 gw1879 ⟨by decide, by decide, by decide⟩ (by decide) (by decide)) nq_call_le, List.forall_mem_cons.mpr ⟨np_S.mono (op := np_if (fun x => x = 0) 197) (np_s_if_eq hX dX12_isRight_182 (by decide)) nq_if_le, List.forall_mem_cons.mpr ⟨np_s_iload_n hX dX12_isRight_185 rfl, List.forall_mem_cons.mpr ⟨np_S.mono (op := np_ifne 197) (np_s_if_ne hX dX12_isRight_186 (by decide)) nq_ifne_le, List.forall_mem_cons.mpr ⟨np_s_iload_n hX dX12_isRight_189 rfl, List.forall_mem_cons.mpr ⟨np_S.mono (op := np_ifne 197) (np_s_if_ne hX dX12_isRight_190 (by decide)) nq_ifne_le, List.forall_mem_cons.mpr ⟨np_s_iconst hX dX12_isRight_193 (by decide), List.forall_mem_cons.mpr ⟨np_s_goto hX dX12_isRight_194 (by decide), List.forall_mem_cons.mpr ⟨np_s_iconst hX dX12_isRight_197 (by decide), List.forall_mem_cons.mpr ⟨np_S.mono (op := np_ret X.2.2.1) (np_s_ret hX dX12_isRight_198) (nq_ret_le hR), List.forall_mem_cons.mpr ⟨np_s_iload_n hX dX12_isRight_199 rfl, List.forall_mem_cons.mpr ⟨np_s_iconst hX dX12_isRight_200 (by decide), List.forall_mem_cons.mpr ⟨np_s_iconst hX dX12_isRight_201 (by decide), List.forall_mem_cons.mpr ⟨np_S.mono (op := np_call 3 sp_X12_isIn 3 0 0 0 0) (np_s_callS hX C_X12_isIn dX12_isRight_202 gw1880 gw142 gw1878 gw1879 ⟨by decide, by decide, by decide⟩ (by decide) (by decide)) nq_call_le, List.forall_mem_cons.mpr ⟨np_S.mono (op := np_if (fun x => x = 0) 216) (np_s_if_eq hX dX12_isRight_205 (by decide)) nq_if_le, List.forall_mem_cons.mpr ⟨np_s_iload_n hX dX12_isRight_208 rfl, List.forall_mem_cons.mpr ⟨np_S.mono (op := np_ifne 216) (np_s_if_ne hX dX12_isRight_209 (by decide)) nq_ifne_le, List.forall_mem_cons.mpr ⟨np_s_iconst hX dX12_isRight_212 (by decide), List.forall_mem_cons.mpr ⟨np_s_goto hX dX12_isRight_213 (by decide), List.forall_mem_cons.mpr ⟨np_s_iconst hX dX12_isRight_216 (by decide), List.forall_mem_cons.mpr ⟨np_S.mono (op := np_ret X.2.2.1) (np_s_ret hX dX12_isRight_217) (nq_ret_le hR), List.forall_mem_cons.mpr ⟨np_s_iload_n hX dX12_isRight_218 rfl, List.forall_mem_cons.mpr ⟨np_s_iconst hX dX12_isRight_219 (by decide), List.forall_mem_cons.mpr ⟨np_s_iconst hX dX12_isRight_220 (by decide), List.forall_mem_cons.mpr ⟨np_S.mono (op := np_call 3 sp_X12_isIn 3 0 0 0 0) (np_s_callS hX C_X12_isIn dX12_isRight_221 gw1880 gw142 gw1878 gw1879 ⟨by decide, by decide, by decide⟩ (by decide) (by decide)) nq_call_le, List.forall_mem_cons.mpr ⟨np_S.mono (op := np_if (fun x => x = 0) 241) (np_s_if_eq hX dX12_isRight_224 (by decide)) nq_if_le, List.forall_mem_cons.mpr ⟨np_s_iload_n hX dX12_isRight_227 rfl, List.forall_mem_cons.mpr ⟨np_s_iconst hX dX12_isRight_228 (by decide), List.forall_mem_cons.mpr ⟨np_s_bipush hX dX12_isRight_229 (by decide), List.forall_mem_cons.mpr ⟨np_S.mono (op := np_call 3 sp_X12_isIn 3 0 0 0 0) (np_s_callS hX C_X12_isIn dX12_isRight_231 gw1880 gw142 gw1878 gw1879 ⟨by decide, by decide, by decide⟩ (by decide) (by decide)) nq_call_le, List.forall_mem_cons.mpr ⟨np_S.mono (op := np_if (fun x => x = 0) 241) (np_s_if_eq hX dX12_isRight_234 (by decide)) nq_if_le, List.forall_mem_cons.mpr ⟨np_s_iconst hX dX12_isRight_237 (by decide), List.forall_mem_cons.mpr ⟨np_s_goto hX dX12_isRight_238 (by decide), List.forall_mem_cons.mpr ⟨np_s_iconst hX dX12_isRight_241 (by decide), List.forall_mem_cons.mpr ⟨np_S.mono (op := np_ret X.2.2.1) (np_s_ret hX dX12_isRight_242) (nq_ret_le hR), List.forall_mem_cons.mpr ⟨np_s_iload_n hX dX12_isRight_243 rfl, List.forall_mem_cons.mpr ⟨np_s_bipush hX dX12_isRight_244 (by decide), List.forall_mem_cons.mpr ⟨np_s_bipush hX dX12_isRight_246 (by decide), List.forall_mem_cons.mpr ⟨np_S.mono (op := np_call 3 sp_X12_isIn 3 0 0 0 0) (np_s_callS hX C_X12_isIn dX12_isRight_248 gw1880 gw142 gw1878 gw1879 ⟨by decide, by decide, by decide⟩ (by decide) (by decide)) nq_call_le, List.forall_mem_cons.mpr ⟨np_S.mono (op := np_if (fun x => x = 0) 266) (np_s_if_eq hX dX12_isRight_251 (by decide)) nq_if_le, List.forall_mem_cons.mpr ⟨np_s_iload_n hX dX12_isRight_254 rfl, List.forall_mem_cons.mpr ⟨np_S.mono (op := np_ifne 266) (np_s_if_ne hX dX12_isRight_255 (by decide)) nq_ifne_le, List.forall_mem_cons.mpr ⟨np_s_iload_n hX dX12_isRight_258 rfl, List.forall_mem_cons.mpr ⟨np_S.mono (op := np_ifne 266) (np_s_if_ne hX dX12_isRight_259 (by decide)) nq_ifne_le, List.forall_mem_cons.mpr ⟨np_s_iconst hX dX12_isRight_262 (by decide), List.forall_mem_cons.mpr ⟨np_s_goto hX dX12_isRight_263 (by decide), List.forall_mem_cons.mpr ⟨np_s_iconst hX dX12_isRight_266 (by decide), List.forall_mem_cons.mpr ⟨np_S.mono (op := np_ret X.2.2.1) (np_s_ret hX dX12_isRight_267) (nq_ret_le hR), fun _ h => nomatch h⟩⟩⟩⟩⟩⟩⟩⟩⟩⟩⟩⟩⟩⟩⟩⟩⟩⟩⟩⟩⟩⟩⟩⟩⟩⟩⟩⟩⟩⟩⟩⟩⟩⟩⟩⟩⟩⟩⟩⟩⟩⟩⟩⟩⟩⟩⟩⟩⟩⟩⟩⟩⟩⟩⟩⟩⟩⟩⟩⟩⟩⟩⟩⟩⟩⟩⟩⟩⟩⟩⟩⟩⟩⟩⟩⟩⟩⟩⟩⟩⟩⟩⟩⟩⟩⟩⟩⟩⟩⟩⟩⟩⟩⟩⟩⟩⟩⟩⟩⟩⟩⟩⟩⟩⟩⟩⟩⟩⟩⟩⟩⟩⟩⟩⟩⟩⟩⟩⟩⟩⟩
abbrev sp_X12_isRight : np_Sp := nq_in is_X12_isRight (some .boolean) 0 0 400
theorem C_X12_isRight : np_C yX12_isRight cX12_isRight 4 (some .boolean) 1 22 0 0 sp_X12_isRight := nq_inC 400 (by decide) (fun X Rt hX hmn hR => so_X12_isRight hX hR)
theorem dX12_isValue_0 : decode cX12_isValue 0 = .ok (.iload_n 0, 1) := by decide +kernel
theorem dX12_isValue_1 : decode cX12_isValue 1 = .ok (.invokestatic 191, 3) := by decide +kernel
theorem dX12_isValue_4 : decode cX12_isValue 4 = .ok (.ifCond .eq 16, 3) := by decide +kernel
theorem dX12_isValue_7 : decode cX12_isValue 7 = .ok (.iload_n 1, 1) := by decide +kernel
theorem dX12_isValue_8 : decode cX12_isValue 8 = .ok (.iconst 0, 1) := by decide +kernel
theorem dX12_isValue_9 : decode cX12_isValue 9 = .ok (.iconst 2, 1) := by decide +kernel
theorem dX12_isValue_10 : decode cX12_isValue 10 = .ok (.invokestatic 184, 3) := by decide +kernel
theorem dX12_isValue_13 : decode cX12_isValue 13 = .ok (.ifCond .eq 7, 3) := by decide +kernel
theorem dX12_isValue_16 : decode cX12_isValue 16 = .ok (.iconst 1, 1) := by decide +kernel
theorem dX12_isValue_17 : decode cX12_isValue 17 = .ok (.goto 4, 3) := by decide +kernel
theorem dX12_isValue_20 : decode cX12_isValue 20 = .ok (.iconst 0, 1) := by decide +kernel
theorem dX12_isValue_21 : decode cX12_isValue 21 = .ok (.ireturn, 1) := by decide +kernel
def is_X12_isValue (Rt : np_Rt) : List (Nat × np_Op) := [(0, np_ild 1 0), (1, nq_call 1 sp_X12_isSlot 1 0 0 0 0), (4, nq_if (fun x => x = 0) 20), (7, np_ild 1 1), (8, np_push 1 (.int 0)), (9, np_push 1 (.int 2)), (10, nq_call 3 sp_X12_isIn 3 0 0 0 0), (13, nq_if (fun x => x = 0) 20), (16, np_push 1 (.int 1)), (17, np_goto 21), (20, np_push 1 (.int 0)), (21, np_ret Rt)]
set_option maxRecDepth 20000 in
theorem so_X12_isValue {X : np_Ctx} {Rt : np_Rt} (hX : np_ok RX12 cX12_isValue 2 2 42 0 0 .ireturn X) (hR : ∀ st w ce sl, Rt st w ce sl → X.2.2.1 st w ce sl) : ∀ q ∈ is_X12_isValue Rt, np_S X q.1 q.2 :=
  List.forall_mem_cons.mpr ⟨np_s_iload_n hX dX12_isValue_0 rfl, List.forall_mem_cons.mpr ⟨np_S.mono (op := np_call 1 sp_X12_isSlot 1 0 0 0 0) (np_s_callS hX C_X12_isSlot dX12_isValue_1 gw1883 gw142 gw1881 gw1882 ⟨by decide, by decide, by decide⟩ (by decide) (by decide)) nq_call_le, List.forall_mem_cons.mpr ⟨np_S.mono (op := np_if (fun x => x = 0) 20) (np_s_if_eq hX dX12_isValue_4 (by decide)) nq_if_le, List.forall_mem_cons.mpr ⟨np_s_iload_n hX dX12_isValue_7 rfl, List.forall_mem_cons.mpr ⟨np_s_iconst hX dX12_isValue_8 (by decide), List.forall_mem_cons.mpr ⟨np_s_iconst hX dX12_isValue_9 (by decide), List.forall_mem_cons.mpr ⟨np_S.mono (op := np_call 3 sp_X12_isIn 3 0 0 0 0) (np_s_callS hX C_X12_isIn dX12_isValue_10 gw1880 gw142 gw1878 gw1879 ⟨by decide, by decide, by decide⟩ (by decide) (by decide)) nq_call_le, List.forall_mem_cons.mpr ⟨np_S.mono (op := np_if (fun x => x = 0) 20) (np_s_if_eq hX dX12_isValue_13 (by decide)) nq_if_le, List.forall_mem_cons.mpr ⟨np_s_iconst hX dX12_isValue_16 (by decide), List.forall_mem_cons.mpr ⟨np_s_goto hX dX12_isValue_17 (by decide), List.forall_mem_cons.mpr ⟨np_s_iconst hX dX12_isValue_20 (by decide), List.forall_mem_cons.mpr ⟨np_S.mono (op := np_ret X.2.2.1) (np_s_ret hX dX12_isValue_21) (nq_ret_le hR), fun _ h => nomatch h⟩⟩⟩⟩⟩⟩⟩⟩⟩⟩⟩⟩
abbrev sp_X12_isValue : np_Sp := nq_in is_X12_isValue (some .boolean) 0 0 400
theorem C_X12_isValue : np_C yX12_isValue cX12_isValue 2 (some .boolean) 2 42 0 0 sp_X12_isValue := nq_inC 400 (by decide) (fun X Rt hX hmn hR => so_X12_isValue hX hR)
theorem dX12_recorded_0 : decode cX12_recorded 0 = .ok (.iconst 3, 1) := by decide +kernel
theorem dX12_recorded_1 : decode cX12_recorded 1 = .ok (.iload_n 1, 1) := by decide +kernel
theorem dX12_recorded_2 : decode cX12_recorded 2 = .ok (.imul, 1) := by decide +kernel
theorem dX12_recorded_3 : decode cX12_recorded 3 = .ok (.iload_n 2, 1) := by decide +kernel
theorem dX12_recorded_4 : decode cX12_recorded 4 = .ok (.iadd, 1) := by decide +kernel
theorem dX12_recorded_5 : decode cX12_recorded 5 = .ok (.istore_n 3, 1) := by decide +kernel
theorem dX12_recorded_6 : decode cX12_recorded 6 = .ok (.aload_n 0, 1) := by decide +kernel
theorem dX12_recorded_7 : decode cX12_recorded 7 = .ok (.getfield 235, 3) := by decide +kernel
theorem dX12_recorded_10 : decode cX12_recorded 10 = .ok (.iload_n 3, 1) := by decide +kernel
theorem dX12_recorded_11 : decode cX12_recorded 11 = .ok (.invokestatic 229, 3) := by decide +kernel
theorem dX12_recorded_14 : decode cX12_recorded 14 = .ok (.ifCond .eq 12, 3) := by decide +kernel
theorem dX12_recorded_17 : decode cX12_recorded 17 = .ok (.aload_n 0, 1) := by decide +kernel
theorem dX12_recorded_18 : decode cX12_recorded 18 = .ok (.getfield 58, 3) := by decide +kernel
theorem dX12_recorded_21 : decode cX12_recorded 21 = .ok (.iload_n 3, 1) := by decide +kernel
theorem dX12_recorded_22 : decode cX12_recorded 22 = .ok (.iaload, 1) := by decide +kernel
theorem dX12_recorded_23 : decode cX12_recorded 23 = .ok (.goto 5, 3) := by decide +kernel
theorem dX12_recorded_26 : decode cX12_recorded 26 = .ok (.ldc 238, 2) := by decide +kernel
theorem dX12_recorded_28 : decode cX12_recorded 28 = .ok (.ireturn, 1) := by decide +kernel
def is_X12_recorded (Rt : np_Rt) : List (Nat × np_Op) := [(0, np_push 1 (.int 3)), (1, np_ild 1 1), (2, np_ib (fun x y => x * y)), (3, np_ild 1 2), (4, np_ib (fun x y => x + y)), (5, np_ist 1 3), (6, np_ald 1 0), (7, nq_getf 12 19), (10, np_ild 1 3), (11, nq_call 2 sp_X12_has 2 0 0 0 0), (14, nq_if (fun x => x = 0) 26), (17, np_ald 1 0), (18, nq_getf 12 18), (21, np_ild 1 3), (22, nq_ialdT .int), (23, np_goto 28), (26, np_push 2 (.int (-2147483648))), (28, np_ret Rt)]
set_option maxRecDepth 20000 in
theorem so_X12_recorded {X : np_Ctx} {Rt : np_Rt} (hX : np_ok RX12 cX12_recorded 4 1 21 0 0 .ireturn X) (hR : ∀ st w ce sl, Rt st w ce sl → X.2.2.1 st w ce sl) : ∀ q ∈ is_X12_recorded Rt, np_S X q.1 q.2 :=
  List.forall_mem_cons.mpr ⟨np_s_iconst hX dX12_recorded_0 (by decide), List.forall_mem_cons.mpr ⟨np_s_iload_n hX dX12_recorded_1 rfl, List.forall_mem_cons.mpr ⟨np_s_imul hX dX12_recorded_2, List.forall_mem_cons.mpr ⟨np_s_iload_n hX dX12_recorded_3 rfl, List.forall_mem_cons.mpr ⟨np_s_iadd hX dX12_recorded_4, List.forall_mem_cons.mpr ⟨np_s_istore_n hX dX12_recorded_5 rfl (by decide), List.forall_mem_cons.mpr ⟨np_s_aload_n hX dX12_recorded_6 rfl, List.forall_mem_cons.mpr ⟨np_S.mono (op := np_getf 12 19) (np_s_getf hX dX12_recorded_7 (C := RX12) (T := TX12) (N := 77) rfl guX12 (by decide) gw1655) nq_getf_le, List.forall_mem_cons.mpr ⟨np_s_iload_n hX dX12_recorded_10 rfl, List.forall_mem_cons.mpr ⟨np_S.mono (op := np_call 2 sp_X12_has 2 0 0 0 0) (np_s_callS hX C_X12_has dX12_recorded_11 gw1943 gw142 gw1941 gw1942 ⟨by decide, by decide, by decide⟩ (by decide) (by decide)) nq_call_le, List.forall_mem_cons.mpr ⟨np_S.mono (op := np_if (fun x => x = 0) 26) (np_s_if_eq hX dX12_recorded_14 (by decide)) nq_if_le, List.forall_mem_cons.mpr ⟨np_s_aload_n hX dX12_recorded_17 rfl, List.forall_mem_cons.mpr ⟨np_S.mono (op := np_getf 12 18) (np_s_getf hX dX12_recorded_18 (C := RX12) (T := TX12) (N := 77) rfl guX12 (by decide) gw1654) nq_getf_le, List.forall_mem_cons.mpr ⟨np_s_iload_n hX dX12_recorded_21 rfl, List.forall_mem_cons.mpr ⟨np_S.mono (op := np_ialdT .int) (np_s_iald hX dX12_recorded_22) nq_ialdT_le, List.forall_mem_cons.mpr ⟨np_s_goto hX dX12_recorded_23 (by decide), List.forall_mem_cons.mpr ⟨np_s_ldc hX dX12_recorded_26 gw1944, List.forall_mem_cons.mpr ⟨np_S.mono (op := np_ret X.2.2.1) (np_s_ret hX dX12_recorded_28) (nq_ret_le hR), fun _ h => nomatch h⟩⟩⟩⟩⟩⟩⟩⟩⟩⟩⟩⟩⟩⟩⟩⟩⟩⟩
abbrev sp_X12_recorded : np_Sp := nq_in is_X12_recorded (some .int) 0 0 400
theorem C_X12_recorded : np_C yX12_recorded cX12_recorded 4 (some .int) 1 21 0 0 sp_X12_recorded := nq_inC 400 (by decide) (fun X Rt hX hmn hR => so_X12_recorded hX hR)
theorem dX12_charOf_0 : decode cX12_charOf 0 = .ok (.iload_n 0, 1) := by decide +kernel
theorem dX12_charOf_1 : decode cX12_charOf 1 = .ok (.bipush 8, 2) := by decide +kernel
theorem dX12_charOf_3 : decode cX12_charOf 3 = .ok (.iload_n 1, 1) := by decide +kernel
theorem dX12_charOf_4 : decode cX12_charOf 4 = .ok (.imul, 1) := by decide +kernel
theorem dX12_charOf_5 : decode cX12_charOf 5 = .ok (.iushr, 1) := by decide +kernel
theorem dX12_charOf_6 : decode cX12_charOf 6 = .ok (.sipush 255, 3) := by decide +kernel
theorem dX12_charOf_9 : decode cX12_charOf 9 = .ok (.iand, 1) := by decide +kernel
theorem dX12_charOf_10 : decode cX12_charOf 10 = .ok (.ireturn, 1) := by decide +kernel
def is_X12_charOf (Rt : np_Rt) : List (Nat × np_Op) := [(0, np_ild 1 0), (1, np_push 2 (.int 8)), (3, np_ild 1 1), (4, np_ib (fun x y => x * y)), (5, np_ib (fun x y => (x.toUInt32 >>> (y.toUInt32 &&& Int32.toUInt32 31)).toInt32)), (6, np_push 3 (.int 255)), (9, np_ib (fun x y => x &&& y)), (10, np_ret Rt)]
set_option maxRecDepth 20000 in
theorem so_X12_charOf {X : np_Ctx} {Rt : np_Rt} (hX : np_ok RX12 cX12_charOf 2 0 0 0 0 .ireturn X) (hR : ∀ st w ce sl, Rt st w ce sl → X.2.2.1 st w ce sl) : ∀ q ∈ is_X12_charOf Rt, np_S X q.1 q.2 :=
  List.forall_mem_cons.mpr ⟨np_s_iload_n hX dX12_charOf_0 rfl, List.forall_mem_cons.mpr ⟨np_s_bipush hX dX12_charOf_1 (by decide), List.forall_mem_cons.mpr ⟨np_s_iload_n hX dX12_charOf_3 rfl, List.forall_mem_cons.mpr ⟨np_s_imul hX dX12_charOf_4, List.forall_mem_cons.mpr ⟨np_s_iushr hX dX12_charOf_5, List.forall_mem_cons.mpr ⟨np_s_sipush hX dX12_charOf_6 (by decide), List.forall_mem_cons.mpr ⟨np_s_iand hX dX12_charOf_9, List.forall_mem_cons.mpr ⟨np_S.mono (op := np_ret X.2.2.1) (np_s_ret hX dX12_charOf_10) (nq_ret_le hR), fun _ h => nomatch h⟩⟩⟩⟩⟩⟩⟩⟩
abbrev sp_X12_charOf : np_Sp := nq_in is_X12_charOf (some .int) 0 0 400
theorem C_X12_charOf : np_C yX12_charOf cX12_charOf 2 (some .int) 0 0 0 0 sp_X12_charOf := nq_inC 400 (by decide) (fun X Rt hX hmn hR => so_X12_charOf hX hR)
theorem dX12_areChars_0 : decode cX12_areChars 0 = .ok (.iload_n 0, 1) := by decide +kernel
theorem dX12_areChars_1 : decode cX12_areChars 1 = .ok (.iconst 0, 1) := by decide +kernel
theorem dX12_areChars_2 : decode cX12_areChars 2 = .ok (.invokestatic 353, 3) := by decide +kernel
theorem dX12_areChars_5 : decode cX12_areChars 5 = .ok (.ifCond .eq 7, 3) := by decide +kernel
theorem dX12_areChars_8 : decode cX12_areChars 8 = .ok (.iconst 1, 1) := by decide +kernel
theorem dX12_areChars_9 : decode cX12_areChars 9 = .ok (.goto 4, 3) := by decide +kernel
theorem dX12_areChars_12 : decode cX12_areChars 12 = .ok (.iconst 0, 1) := by decide +kernel
theorem dX12_areChars_13 : decode cX12_areChars 13 = .ok (.istore_n 1, 1) := by decide +kernel
theorem dX12_areChars_14 : decode cX12_areChars 14 = .ok (.iconst 0, 1) := by decide +kernel
theorem dX12_areChars_15 : decode cX12_areChars 15 = .ok (.istore_n 2, 1) := by decide +kernel
theorem dX12_areChars_16 : decode cX12_areChars 16 = .ok (.iload_n 2, 1) := by decide +kernel
theorem dX12_areChars_17 : decode cX12_areChars 17 = .ok (.iconst 4, 1) := by decide +kernel
theorem dX12_areChars_18 : decode cX12_areChars 18 = .ok (.if_icmp .ge 60, 3) := by decide +kernel
theorem dX12_areChars_21 : decode cX12_areChars 21 = .ok (.iload_n 0, 1) := by decide +kernel
theorem dX12_areChars_22 : decode cX12_areChars 22 = .ok (.iload_n 2, 1) := by decide +kernel
theorem dX12_areChars_23 : decode cX12_areChars 23 = .ok (.invokestatic 353, 3) := by decide +kernel
theorem dX12_areChars_26 : decode cX12_areChars 26 = .ok (.istore_n 3, 1) := by decide +kernel
theorem dX12_areChars_27 : decode cX12_areChars 27 = .ok (.iload_n 1, 1) := by decide +kernel
theorem dX12_areChars_28 : decode cX12_areChars 28 = .ok (.ifCond .eq 42, 3) := by decide +kernel
theorem dX12_areChars_31 : decode cX12_areChars 31 = .ok (.iload_n 3, 1) := by decide +kernel
theorem dX12_areChars_32 : decode cX12_areChars 32 = .ok (.ifCond .eq 34, 3) := by decide +kernel
theorem dX12_areChars_35 : decode cX12_areChars 35 = .ok (.iload_n 3, 1) := by decide +kernel
theorem dX12_areChars_36 : decode cX12_areChars 36 = .ok (.bipush 10, 2) := by decide +kernel
theorem dX12_areChars_38 : decode cX12_areChars 38 = .ok (.if_icmp .eq 14, 3) := by decide +kernel
theorem dX12_areChars_41 : decode cX12_areChars 41 = .ok (.iload_n 3, 1) := by decide +kernel
theorem dX12_areChars_42 : decode cX12_areChars 42 = .ok (.bipush 32, 2) := by decide +kernel
theorem dX12_areChars_44 : decode cX12_areChars 44 = .ok (.bipush 126, 2) := by decide +kernel
theorem dX12_areChars_46 : decode cX12_areChars 46 = .ok (.invokestatic 184, 3) := by decide +kernel
theorem dX12_areChars_49 : decode cX12_areChars 49 = .ok (.ifCond .eq 21, 3) := by decide +kernel
theorem dX12_areChars_52 : decode cX12_areChars 52 = .ok (.iload_n 2, 1) := by decide +kernel
theorem dX12_areChars_53 : decode cX12_areChars 53 = .ok (.ifCond .eq 13, 3) := by decide +kernel
theorem dX12_areChars_56 : decode cX12_areChars 56 = .ok (.iload_n 0, 1) := by decide +kernel
theorem dX12_areChars_57 : decode cX12_areChars 57 = .ok (.iload_n 2, 1) := by decide +kernel
theorem dX12_areChars_58 : decode cX12_areChars 58 = .ok (.iconst 1, 1) := by decide +kernel
theorem dX12_areChars_59 : decode cX12_areChars 59 = .ok (.isub, 1) := by decide +kernel
theorem dX12_areChars_60 : decode cX12_areChars 60 = .ok (.invokestatic 353, 3) := by decide +kernel
theorem dX12_areChars_63 : decode cX12_areChars 63 = .ok (.ifCond .eq 7, 3) := by decide +kernel
theorem dX12_areChars_66 : decode cX12_areChars 66 = .ok (.iconst 1, 1) := by decide +kernel
theorem dX12_areChars_67 : decode cX12_areChars 67 = .ok (.goto 4, 3) := by decide +kernel
theorem dX12_areChars_70 : decode cX12_areChars 70 = .ok (.iconst 0, 1) := by decide +kernel
theorem dX12_areChars_71 : decode cX12_areChars 71 = .ok (.istore_n 1, 1) := by decide +kernel
theorem dX12_areChars_72 : decode cX12_areChars 72 = .ok (.iinc 2 1, 3) := by decide +kernel
theorem dX12_areChars_75 : decode cX12_areChars 75 = .ok (.goto (-59), 3) := by decide +kernel
theorem dX12_areChars_78 : decode cX12_areChars 78 = .ok (.iload_n 1, 1) := by decide +kernel
theorem dX12_areChars_79 : decode cX12_areChars 79 = .ok (.ireturn, 1) := by decide +kernel
def is_X12_areChars (Rt : np_Rt) : List (Nat × np_Op) := [(0, np_ild 1 0), (1, np_push 1 (.int 0)), (2, nq_call 2 sp_X12_charOf 2 0 0 0 0), (5, nq_if (fun x => x = 0) 12), (8, np_push 1 (.int 1)), (9, np_goto 13), (12, np_push 1 (.int 0)), (13, np_ist 1 1), (14, np_push 1 (.int 0)), (15, np_ist 1 2), (16, np_ild 1 2), (17, np_push 1 (.int 4)), (18, nq_ic (fun x y => y ≤ x) 78), (21, np_ild 1 0), (22, np_ild 1 2), (23, nq_call 2 sp_X12_charOf 2 0 0 0 0), (26, np_ist 1 3), (27, np_ild 1 1), (28, nq_if (fun x => x = 0) 70), (31, np_ild 1 3), (32, nq_if (fun x => x = 0) 66), (35, np_ild 1 3), (36, np_push 2 (.int 10)), (38, nq_ic (fun x y => x = y) 52), (41, np_ild 1 3), (42, np_push 2 (.int 32)), (44, np_push 2 (.int 126)), (46, nq_call 3 sp_X12_isIn 3 0 0 0 0), (49, nq_if (fun x => x = 0) 70), (52, np_ild 1 2), (53, nq_if (fun x => x = 0) 66), (56, np_ild 1 0), (57, np_ild 1 2), (58, np_push 1 (.int 1)), (59, np_ib (fun x y => x - y)), (60, nq_call 2 sp_X12_charOf 2 0 0 0 0), (63, nq_if (fun x => x = 0) 70), (66, np_push 1 (.int 1)), (67, np_goto 71), (70, np_push 1 (.int 0)), (71, np_ist 1 1), (72, np_iinc 2 1), (75, np_goto 16), (78, np_ild 1 1), (79, np_ret Rt)]
set_option maxRecDepth 20000 in
theorem so_X12_areChars {X : np_Ctx} {Rt : np_Rt} (hX : np_ok RX12 cX12_areChars 4 1 22 0 0 .ireturn X) (hR : ∀ st w ce sl, Rt st w ce sl → X.2.2.1 st w ce sl) : ∀ q ∈ is_X12_areChars Rt, np_S X q.1 q.2 :=
  List.forall_mem_cons.mpr ⟨np_s_iload_n hX dX12_areChars_0 rfl, List.forall_mem_cons.mpr ⟨np_s_iconst hX dX12_areChars_1 (by decide), List.forall_mem_cons.mpr ⟨np_S.mono (op := np_call 2 sp_X12_charOf 2 0 0 0 0) (np_s_callS hX C_X12_charOf dX12_areChars_2 gw2059 gw142 gw2057 gw2058 ⟨by decide, by decide, by decide⟩ (by decide) (by decide)) nq_call_le, List.forall_mem_cons.mpr ⟨np_S.mono (op := np_if (fun x => x = 0) 12) (np_s_if_eq hX dX12_areChars_5 (by decide)) nq_if_le, List.forall_mem_cons.mpr ⟨np_s_iconst hX dX12_areChars_8 (by decide), List.forall_mem_cons.mpr ⟨np_s_goto hX dX12_areChars_9 (by decide), List.forall_mem_cons.mpr ⟨np_s_iconst hX dX12_areChars_12 (by decide), List.forall_mem_cons.mpr ⟨np_s_istore_n hX dX12_areChars_13 rfl (by decide), List.forall_mem_cons.mpr ⟨np_s_iconst hX dX12_areChars_14 (by decide), List.forall_mem_cons.mpr ⟨np_s_istore_n hX dX12_areChars_15 rfl (by decide), List.forall_mem_cons.mpr ⟨np_s_iload_n hX dX12_areChars_16 rfl, List.forall_mem_cons.mpr ⟨np_s_iconst hX dX12_areChars_17 (by decide), List.forall_mem_cons.mpr ⟨np_S.mono (op := np_ic (fun x y => y ≤ x) 78) (np_s_icmp_ge hX dX12_areChars_18 (by decide)) nq_ic_le, List.forall_mem_cons.mpr ⟨np_s_iload_n hX dX12_areChars_21 rfl, List.forall_mem_cons.mpr ⟨np_s_iload_n hX dX12_areChars_22 rfl, List.forall_mem_cons.mpr ⟨np_S.mono (op := np_call 2 sp_X12_charOf 2 0 0 0 0) (np_s_callS hX C_X12_charOf dX12_areChars_23 gw2059 gw142 gw2057 gw2058 ⟨by decide, by decide, by decide⟩ (by decide) (by decide)) nq_call_le, List.forall_mem_cons.mpr ⟨np_s_istore_n hX dX12_areChars_26 rfl (by decide), List.forall_mem_cons.mpr ⟨np_s_iload_n hX dX12_areChars_27 rfl, List.forall_mem_cons.mpr ⟨np_S.mono (op := np_if (fun x => x = 0) 70) (np_s_if_eq hX dX12_areChars_28 (by decide)) nq_if_le, List.forall_mem_cons.mpr ⟨np_s_iload_n hX dX12_areChars_31 rfl, List.forall_mem_cons.mpr ⟨np_S.mono (op := np_if (fun x => x = 0) 66) (np_s_if_eq hX dX12_areChars_32 (by decide)) nq_if_le, List.forall_mem_cons.mpr ⟨np_s_iload_n hX dX12_areChars_35 rfl, List.forall_mem_cons.mpr ⟨np_s_bipush hX dX12_areChars_36 (by decide), List.forall_mem_cons.mpr ⟨np_S.mono (op := np_ic (fun x y => x = y) 52) (np_s_icmp_eq hX dX12_areChars_38 (by decide)) nq_ic_le, List.forall_mem_cons.mpr ⟨np_s_iload_n hX dX12_areChars_41 rfl, List.forall_mem_cons.mpr ⟨np_s_bipush hX dX12_areChars_42 (by decide), List.forall_mem_cons.mpr ⟨np_s_bipush hX dX12_areChars_44 (by decide), List.forall_mem_cons.mpr ⟨np_S.mono (op := np_call 3 sp_X12_isIn 3 0 0 0 0) (np_s_callS hX C_X12_isIn dX12_areChars_46 gw1880 gw142 gw1878 gw1879 ⟨by decide, by decide, by decide⟩ (by decide) (by decide)) nq_call_le, List.forall_mem_cons.mpr ⟨np_S.mono (op := np_if (fun x => x = 0) 70) (np_s_if_eq hX dX12_areChars_49 (by decide)) nq_if_le, List.forall_mem_cons.mpr ⟨np_s_iload_n hX dX12_areChars_52 rfl, List.forall_mem_cons.mpr ⟨np_S.mono (op := np_if (fun x => x = 0) 66) (np_s_if_eq hX dX12_areChars_53 (by decide)) nq_if_le, List.forall_mem_cons.mpr ⟨np_s_iload_n hX dX12_areChars_56 rfl, List.forall_mem_cons.mpr ⟨np_s_iload_n hX dX12_areChars_57 rfl, List.forall_mem_cons.mpr ⟨np_s_iconst hX dX12_areChars_58 (by decide), List.forall_mem_cons.mpr ⟨np_s_isub hX dX12_areChars_59, List.forall_mem_cons.mpr ⟨np_S.mono (op := np_call 2 sp_X12_charOf 2 0 0 0 0) (np_s_callS hX C_X12_charOf dX12_areChars_60 gw2059 gw142 gw2057 gw2058 ⟨by decide, by decide, by decide⟩ (by decide) (by decide)) nq_call_le, List.forall_mem_cons.mpr ⟨np_S.mono (op := np_if (fun x => x = 0) 70) (np_s_if_eq hX dX12_areChars_63 (by decide)) nq_if_le, List.forall_mem_cons.mpr ⟨np_s_iconst hX dX12_areChars_66 (by decide), List.forall_mem_cons.mpr ⟨np_s_goto hX dX12_areChars_67 (by decide), List.forall_mem_cons.mpr ⟨np_s_iconst hX dX12_areChars_70 (by decide), List.forall_mem_cons.mpr ⟨np_s_istore_n hX dX12_areChars_71 rfl (by decide), List.forall_mem_cons.mpr ⟨np_s_iinc hX dX12_areChars_72 (by decide), List.forall_mem_cons.mpr ⟨np_s_goto hX dX12_areChars_75 (by decide), List.forall_mem_cons.mpr ⟨np_s_iload_n hX dX12_areChars_78 rfl, List.forall_mem_cons.mpr ⟨np_S.mono (op := np_ret X.2.2.1) (np_s_ret hX dX12_areChars_79) (nq_ret_le hR), fun _ h => nomatch h⟩⟩⟩⟩⟩⟩⟩⟩⟩⟩⟩⟩⟩⟩⟩⟩⟩⟩⟩⟩⟩⟩⟩⟩⟩⟩⟩⟩⟩⟩⟩⟩⟩⟩⟩⟩⟩⟩⟩⟩⟩⟩⟩⟩⟩
abbrev sp_X12_areChars : np_Sp := nq_in is_X12_areChars (some .boolean) 0 0 400
theorem C_X12_areChars : np_C yX12_areChars cX12_areChars 4 (some .boolean) 1 22 0 0 sp_X12_areChars := nq_inC 400 (by decide) (fun X Rt hX hmn hR => so_X12_areChars hX hR)
theorem dX12_types_0 : decode cX12_types 0 = .ok (.aload_n 0, 1) := by decide +kernel
theorem dX12_types_1 : decode cX12_types 1 = .ok (.getfield 61, 3) := by decide +kernel
theorem dX12_types_4 : decode cX12_types 4 = .ok (.sipush 300, 3) := by decide +kernel
theorem dX12_types_7 : decode cX12_types 7 = .ok (.iload_n 1, 1) := by decide +kernel
theorem dX12_types_8 : decode cX12_types 8 = .ok (.imul, 1) := by decide +kernel
theorem dX12_types_9 : decode cX12_types 9 = .ok (.aload_n 0, 1) := by decide +kernel
theorem dX12_types_10 : decode cX12_types 10 = .ok (.getfield 64, 3) := by decide +kernel
theorem dX12_types_13 : decode cX12_types 13 = .ok (.iload_n 1, 1) := by decide +kernel
theorem dX12_types_14 : decode cX12_types 14 = .ok (.iaload, 1) := by decide +kernel
theorem dX12_types_15 : decode cX12_types 15 = .ok (.iadd, 1) := by decide +kernel
theorem dX12_types_16 : decode cX12_types 16 = .ok (.iload_n 2, 1) := by decide +kernel
theorem dX12_types_17 : decode cX12_types 17 = .ok (.iastore, 1) := by decide +kernel
theorem dX12_types_18 : decode cX12_types 18 = .ok (.aload_n 0, 1) := by decide +kernel
theorem dX12_types_19 : decode cX12_types 19 = .ok (.getfield 64, 3) := by decide +kernel
theorem dX12_types_22 : decode cX12_types 22 = .ok (.iload_n 1, 1) := by decide +kernel
theorem dX12_types_23 : decode cX12_types 23 = .ok (.dup2, 1) := by decide +kernel
theorem dX12_types_24 : decode cX12_types 24 = .ok (.iaload, 1) := by decide +kernel
theorem dX12_types_25 : decode cX12_types 25 = .ok (.iconst 1, 1) := by decide +kernel
theorem dX12_types_26 : decode cX12_types 26 = .ok (.iadd, 1) := by decide +kernel
theorem dX12_types_27 : decode cX12_types 27 = .ok (.iastore, 1) := by decide +kernel
theorem dX12_types_28 : decode cX12_types 28 = .ok (.return_, 1) := by decide +kernel
def is_X12_types (Rt : np_Rt) : List (Nat × np_Op) := [(0, np_ald 1 0), (1, nq_getf 12 20), (4, np_push 3 (.int 300)), (7, np_ild 1 1), (8, np_ib (fun x y => x * y)), (9, np_ald 1 0), (10, nq_getf 12 21), (13, np_ild 1 1), (14, nq_ialdT .int), (15, np_ib (fun x y => x + y)), (16, np_ild 1 2), (17, nq_iastT .int), (18, np_ald 1 0), (19, nq_getf 12 21), (22, np_ild 1 1), (23, nq_dup2), (24, nq_ialdT .int), (25, np_push 1 (.int 1)), (26, np_ib (fun x y => x + y)), (27, nq_iastT .int), (28, np_ret Rt)]
set_option maxRecDepth 20000 in
theorem so_X12_types {X : np_Ctx} {Rt : np_Rt} (hX : np_ok RX12 cX12_types 3 0 0 0 0 .return_ X) (hR : ∀ st w ce sl, Rt st w ce sl → X.2.2.1 st w ce sl) : ∀ q ∈ is_X12_types Rt, np_S X q.1 q.2 :=
  List.forall_mem_cons.mpr ⟨np_s_aload_n hX dX12_types_0 rfl, List.forall_mem_cons.mpr ⟨np_S.mono (op := np_getf 12 20) (np_s_getf hX dX12_types_1 (C := RX12) (T := TX12) (N := 77) rfl guX12 (by decide) gw1656) nq_getf_le, List.forall_mem_cons.mpr ⟨np_s_sipush hX dX12_types_4 (by decide), List.forall_mem_cons.mpr ⟨np_s_iload_n hX dX12_types_7 rfl, List.forall_mem_cons.mpr ⟨np_s_imul hX dX12_types_8, List.forall_mem_cons.mpr ⟨np_s_aload_n hX dX12_types_9 rfl, List.forall_mem_cons.mpr ⟨np_S.mono (op := np_getf 12 21) (np_s_getf hX dX12_types_10 (C := RX12) (T := TX12) (N := 77) rfl guX12 (by decide) gw1657) nq_getf_le, List.forall_mem_cons.mpr ⟨np_s_iload_n hX dX12_types_13 rfl, List.forall_mem_cons.mpr ⟨np_S.mono (op := np_ialdT .int) (np_s_iald hX dX12_types_14) nq_ialdT_le, List.forall_mem_cons.mpr ⟨np_s_iadd hX dX12_types_15, List.forall_mem_cons.mpr ⟨np_s_iload_n hX dX12_types_16 rfl, List.forall_mem_cons.mpr ⟨np_S.mono (op := np_iastT .int) (np_s_iast hX dX12_types_17) nq_iastT_le, List.forall_mem_cons.mpr ⟨np_s_aload_n hX dX12_types_18 rfl, List.forall_mem_cons.mpr ⟨np_S.mono (op := np_getf 12 21) (np_s_getf hX dX12_types_19 (C := RX12) (T := TX12) (N := 77) rfl guX12 (by decide) gw1657) nq_getf_le, List.forall_mem_cons.mpr ⟨np_s_iload_n hX dX12_types_22 rfl, List.forall_mem_cons.mpr ⟨np_S.mono (op := np_dup2) (np_s_dup2 hX dX12_types_23) nq_dup2_le, List.forall_mem_cons.mpr ⟨np_S.mono (op := np_ialdT .int) (np_s_iald hX dX12_types_24) nq_ialdT_le, List.forall_mem_cons.mpr ⟨np_s_iconst hX dX12_types_25 (by decide), List.forall_mem_cons.mpr ⟨np_s_iadd hX dX12_types_26, List.forall_mem_cons.mpr ⟨np_S.mono (op := np_iastT .int) (np_s_iast hX dX12_types_27) nq_iastT_le, List.forall_mem_cons.mpr ⟨np_S.mono (op := np_ret X.2.2.1) (np_s_ret hX dX12_types_28) (nq_ret_le hR), fun _ h => nomatch h⟩⟩⟩⟩⟩⟩⟩⟩⟩⟩⟩⟩⟩⟩⟩⟩⟩⟩⟩⟩⟩
abbrev sp_X12_types : np_Sp := nq_in is_X12_types none 0 0 400
theorem C_X12_types : np_C yX12_types cX12_types 3 none 0 0 0 0 sp_X12_types := nq_inC 400 (by decide) (fun X Rt hX hmn hR => so_X12_types hX hR)
theorem dX12_isPlace_0 : decode cX12_isPlace 0 = .ok (.aload_n 0, 1) := by decide +kernel
theorem dX12_isPlace_1 : decode cX12_isPlace 1 = .ok (.iload_n 1, 1) := by decide +kernel
theorem dX12_isPlace_2 : decode cX12_isPlace 2 = .ok (.invokevirtual 219, 3) := by decide +kernel
theorem dX12_isPlace_5 : decode cX12_isPlace 5 = .ok (.ifCond .eq 28, 3) := by decide +kernel
theorem dX12_isPlace_8 : decode cX12_isPlace 8 = .ok (.iload_n 2, 1) := by decide +kernel
theorem dX12_isPlace_9 : decode cX12_isPlace 9 = .ok (.invokestatic 356, 3) := by decide +kernel
theorem dX12_isPlace_12 : decode cX12_isPlace 12 = .ok (.ifCond .eq 21, 3) := by decide +kernel
theorem dX12_isPlace_15 : decode cX12_isPlace 15 = .ok (.iload_n 3, 1) := by decide +kernel
theorem dX12_isPlace_16 : decode cX12_isPlace 16 = .ok (.iconst 0, 1) := by decide +kernel
theorem dX12_isPlace_17 : decode cX12_isPlace 17 = .ok (.aload_n 0, 1) := by decide +kernel
theorem dX12_isPlace_18 : decode cX12_isPlace 18 = .ok (.getfield 64, 3) := by decide +kernel
theorem dX12_isPlace_21 : decode cX12_isPlace 21 = .ok (.iload_n 2, 1) := by decide +kernel
theorem dX12_isPlace_22 : decode cX12_isPlace 22 = .ok (.iaload, 1) := by decide +kernel
theorem dX12_isPlace_23 : decode cX12_isPlace 23 = .ok (.invokestatic 184, 3) := by decide +kernel
theorem dX12_isPlace_26 : decode cX12_isPlace 26 = .ok (.ifCond .eq 7, 3) := by decide +kernel
theorem dX12_isPlace_29 : decode cX12_isPlace 29 = .ok (.iconst 1, 1) := by decide +kernel
theorem dX12_isPlace_30 : decode cX12_isPlace 30 = .ok (.goto 4, 3) := by decide +kernel
theorem dX12_isPlace_33 : decode cX12_isPlace 33 = .ok (.iconst 0, 1) := by decide +kernel
theorem dX12_isPlace_34 : decode cX12_isPlace 34 = .ok (.ireturn, 1) := by decide +kernel
def is_X12_isPlace (Rt : np_Rt) : List (Nat × np_Op) := [(0, np_ald 1 0), (1, np_ild 1 1), (2, nq_callV 12 2 sp_X12_isDescription 2 0 0 0 0), (5, nq_if (fun x => x = 0) 33), (8, np_ild 1 2), (9, nq_call 1 sp_X12_isFile 1 0 0 0 0), (12, nq_if (fun x => x = 0) 33), (15, np_ild 1 3), (16, np_push 1 (.int 0)), (17, np_ald 1 0), (18, nq_getf 12 21), (21, np_ild 1 2), (22, nq_ialdT .int), (23, nq_call 3 sp_X12_isIn 3 0 0 0 0), (26, nq_if (fun x => x = 0) 33), (29, np_push 1 (.int 1)), (30, np_goto 34), (33, np_push 1 (.int 0)), (34, np_ret Rt)]
set_option maxRecDepth 20000 in
theorem so_X12_isPlace {X : np_Ctx} {Rt : np_Rt} (hX : np_ok RX12 cX12_isPlace 4 2 43 0 0 .ireturn X) (hR : ∀ st w ce sl, Rt st w ce sl → X.2.2.1 st w ce sl) : ∀ q ∈ is_X12_isPlace Rt, np_S X q.1 q.2 :=
  List.forall_mem_cons.mpr ⟨np_s_aload_n hX dX12_isPlace_0 rfl, List.forall_mem_cons.mpr ⟨np_s_iload_n hX dX12_isPlace_1 rfl, List.forall_mem_cons.mpr ⟨np_S.mono (op := np_callV 12 2 sp_X12_isDescription 2 0 0 0 0) (np_s_callV hX C_X12_isDescription dX12_isPlace_2 (q := (RX12, TX12, 77)) rfl rfl gw1921 gw142 gw1918 gw1920 gw67 ⟨by decide, by decide, by decide⟩ (by decide) (by decide)) nq_callV_le, List.forall_mem_cons.mpr ⟨np_S.mono (op := np_if (fun x => x = 0) 33) (np_s_if_eq hX dX12_isPlace_5 (by decide)) nq_if_le, List.forall_mem_cons.mpr ⟨np_s_iload_n hX dX12_isPlace_8 rfl, List.forall_mem_cons.mpr ⟨np_S.mono (op := np_call 1 sp_X12_isFile 1 0 0 0 0) (np_s_callS hX C_X12_isFile dX12_isPlace_9 gw2062 gw142 gw2060 gw2061 ⟨by decide, by decide, by decide⟩ (by decide) (by decide)) nq_call_le, List.forall_mem_cons.mpr ⟨np_S.mono (op := np_if (fun x => x = 0) 33) (np_s_if_eq hX dX12_isPlace_12 (by decide)) nq_if_le, List.forall_mem_cons.mpr ⟨np_s_iload_n hX dX12_isPlace_15 rfl, List.forall_mem_cons.mpr ⟨np_s_iconst hX dX12_isPlace_16 (by decide), List.forall_mem_cons.mpr ⟨np_s_aload_n hX dX12_isPlace_17 rfl, List.forall_mem_cons.mpr ⟨np_S.mono (op := np_getf 12 21) (np_s_getf hX dX12_isPlace_18 (C := RX12) (T := TX12) (N := 77) rfl guX12 (by decide) gw1657) nq_getf_le, List.forall_mem_cons.mpr ⟨np_s_iload_n hX dX12_isPlace_21 rfl, List.forall_mem_cons.mpr ⟨np_S.mono (op := np_ialdT .int) (np_s_iald hX dX12_isPlace_22) nq_ialdT_le, List.forall_mem_cons.mpr ⟨np_S.mono (op := np_call 3 sp_X12_isIn 3 0 0 0 0) (np_s_callS hX C_X12_isIn dX12_isPlace_23 gw1880 gw142 gw1878 gw1879 ⟨by decide, by decide, by decide⟩ (by decide) (by decide)) nq_call_le, List.forall_mem_cons.mpr ⟨np_S.mono (op := np_if (fun x => x = 0) 33) (np_s_if_eq hX dX12_isPlace_26 (by decide)) nq_if_le, List.forall_mem_cons.mpr ⟨np_s_iconst hX dX12_isPlace_29 (by decide), List.forall_mem_cons.mpr ⟨np_s_goto hX dX12_isPlace_30 (by decide), List.forall_mem_cons.mpr ⟨np_s_iconst hX dX12_isPlace_33 (by decide), List.forall_mem_cons.mpr ⟨np_S.mono (op := np_ret X.2.2.1) (np_s_ret hX dX12_isPlace_34) (nq_ret_le hR), fun _ h => nomatch h⟩⟩⟩⟩⟩⟩⟩⟩⟩⟩⟩⟩⟩⟩⟩⟩⟩⟩⟩
abbrev sp_X12_isPlace : np_Sp := nq_in is_X12_isPlace (some .boolean) 0 0 400
theorem C_X12_isPlace : np_C yX12_isPlace cX12_isPlace 4 (some .boolean) 2 43 0 0 sp_X12_isPlace := nq_inC 400 (by decide) (fun X Rt hX hmn hR => so_X12_isPlace hX hR)
theorem dX12_isRow_0 : decode cX12_isRow 0 = .ok (.iload_n 2, 1) := by decide +kernel
theorem dX12_isRow_1 : decode cX12_isRow 1 = .ok (.iconst 0, 1) := by decide +kernel
theorem dX12_isRow_2 : decode cX12_isRow 2 = .ok (.aload_n 0, 1) := by decide +kernel
theorem dX12_isRow_3 : decode cX12_isRow 3 = .ok (.getfield 77, 3) := by decide +kernel
theorem dX12_isRow_6 : decode cX12_isRow 6 = .ok (.iload_n 1, 1) := by decide +kernel
theorem dX12_isRow_7 : decode cX12_isRow 7 = .ok (.iaload, 1) := by decide +kernel
theorem dX12_isRow_8 : decode cX12_isRow 8 = .ok (.iconst 1, 1) := by decide +kernel
theorem dX12_isRow_9 : decode cX12_isRow 9 = .ok (.isub, 1) := by decide +kernel
theorem dX12_isRow_10 : decode cX12_isRow 10 = .ok (.invokestatic 184, 3) := by decide +kernel
theorem dX12_isRow_13 : decode cX12_isRow 13 = .ok (.ireturn, 1) := by decide +kernel
def is_X12_isRow (Rt : np_Rt) : List (Nat × np_Op) := [(0, np_ild 1 2), (1, np_push 1 (.int 0)), (2, np_ald 1 0), (3, nq_getf 12 25), (6, np_ild 1 1), (7, nq_ialdT .int), (8, np_push 1 (.int 1)), (9, np_ib (fun x y => x - y)), (10, nq_call 3 sp_X12_isIn 3 0 0 0 0), (13, np_ret Rt)]
set_option maxRecDepth 20000 in
theorem so_X12_isRow {X : np_Ctx} {Rt : np_Rt} (hX : np_ok RX12 cX12_isRow 3 1 22 0 0 .ireturn X) (hR : ∀ st w ce sl, Rt st w ce sl → X.2.2.1 st w ce sl) : ∀ q ∈ is_X12_isRow Rt, np_S X q.1 q.2 :=
  List.forall_mem_cons.mpr ⟨np_s_iload_n hX dX12_isRow_0 rfl, List.forall_mem_cons.mpr ⟨np_s_iconst hX dX12_isRow_1 (by decide), List.forall_mem_cons.mpr ⟨np_s_aload_n hX dX12_isRow_2 rfl, List.forall_mem_cons.mpr ⟨np_S.mono (op := np_getf 12 25) (np_s_getf hX dX12_isRow_3 (C := RX12) (T := TX12) (N := 77) rfl guX12 (by decide) gw1661) nq_getf_le, List.forall_mem_cons.mpr ⟨np_s_iload_n hX dX12_isRow_6 rfl, List.forall_mem_cons.mpr ⟨np_S.mono (op := np_ialdT .int) (np_s_iald hX dX12_isRow_7) nq_ialdT_le, List.forall_mem_cons.mpr ⟨np_s_iconst hX dX12_isRow_8 (by decide), List.forall_mem_cons.mpr ⟨np_s_isub hX dX12_isRow_9, List.forall_mem_cons.mpr ⟨np_S.mono (op := np_call 3 sp_X12_isIn 3 0 0 0 0) (np_s_callS hX C_X12_isIn dX12_isRow_10 gw1880 gw142 gw1878 gw1879 ⟨by decide, by decide, by decide⟩ (by decide) (by decide)) nq_call_le, List.forall_mem_cons.mpr ⟨np_S.mono (op := np_ret X.2.2.1) (np_s_ret hX dX12_isRow_13) (nq_ret_le hR), fun _ h => nomatch h⟩⟩⟩⟩⟩⟩⟩⟩⟩⟩
abbrev sp_X12_isRow : np_Sp := nq_in is_X12_isRow (some .boolean) 0 0 400
theorem C_X12_isRow : np_C yX12_isRow cX12_isRow 3 (some .boolean) 1 22 0 0 sp_X12_isRow := nq_inC 400 (by decide) (fun X Rt hX hmn hR => so_X12_isRow hX hR)
theorem dX12_isDerived_0 : decode cX12_isDerived 0 = .ok (.iload_n 1, 1) := by decide +kernel
theorem dX12_isDerived_1 : decode cX12_isDerived 1 = .ok (.iconst 0, 1) := by decide +kernel
theorem dX12_isDerived_2 : decode cX12_isDerived 2 = .ok (.aload_n 0, 1) := by decide +kernel
theorem dX12_isDerived_3 : decode cX12_isDerived 3 = .ok (.getfield 447, 3) := by decide +kernel
theorem dX12_isDerived_6 : decode cX12_isDerived 6 = .ok (.iconst 1, 1) := by decide +kernel
theorem dX12_isDerived_7 : decode cX12_isDerived 7 = .ok (.isub, 1) := by decide +kernel
theorem dX12_isDerived_8 : decode cX12_isDerived 8 = .ok (.invokestatic 184, 3) := by decide +kernel
theorem dX12_isDerived_11 : decode cX12_isDerived 11 = .ok (.ifCond .eq 21, 3) := by decide +kernel
theorem dX12_isDerived_14 : decode cX12_isDerived 14 = .ok (.aload_n 0, 1) := by decide +kernel
theorem dX12_isDerived_15 : decode cX12_isDerived 15 = .ok (.aload_n 0, 1) := by decide +kernel
theorem dX12_isDerived_16 : decode cX12_isDerived 16 = .ok (.getfield 101, 3) := by decide +kernel
theorem dX12_isDerived_19 : decode cX12_isDerived 19 = .ok (.iload_n 1, 1) := by decide +kernel
theorem dX12_isDerived_20 : decode cX12_isDerived 20 = .ok (.iaload, 1) := by decide +kernel
theorem dX12_isDerived_21 : decode cX12_isDerived 21 = .ok (.iload_n 2, 1) := by decide +kernel
theorem dX12_isDerived_22 : decode cX12_isDerived 22 = .ok (.invokevirtual 440, 3) := by decide +kernel
theorem dX12_isDerived_25 : decode cX12_isDerived 25 = .ok (.ifCond .eq 7, 3) := by decide +kernel
theorem dX12_isDerived_28 : decode cX12_isDerived 28 = .ok (.iconst 1, 1) := by decide +kernel
theorem dX12_isDerived_29 : decode cX12_isDerived 29 = .ok (.goto 4, 3) := by decide +kernel
theorem dX12_isDerived_32 : decode cX12_isDerived 32 = .ok (.iconst 0, 1) := by decide +kernel
theorem dX12_isDerived_33 : decode cX12_isDerived 33 = .ok (.ireturn, 1) := by decide +kernel
def is_X12_isDerived (Rt : np_Rt) : List (Nat × np_Op) := [(0, np_ild 1 1), (1, np_push 1 (.int 0)), (2, np_ald 1 0), (3, nq_getf 12 33), (6, np_push 1 (.int 1)), (7, np_ib (fun x y => x - y)), (8, nq_call 3 sp_X12_isIn 3 0 0 0 0), (11, nq_if (fun x => x = 0) 32), (14, np_ald 1 0), (15, np_ald 1 0), (16, nq_getf 12 34), (19, np_ild 1 1), (20, nq_ialdT .int), (21, np_ild 1 2), (22, nq_callV 12 3 sp_X12_isRow 3 0 0 0 0), (25, nq_if (fun x => x = 0) 32), (28, np_push 1 (.int 1)), (29, np_goto 33), (32, np_push 1 (.int 0)), (33, np_ret Rt)]
set_option maxRecDepth 20000 in
theorem so_X12_isDerived {X : np_Ctx} {Rt : np_Rt} (hX : np_ok RX12 cX12_isDerived 3 2 44 0 0 .ireturn X) (hR : ∀ st w ce sl, Rt st w ce sl → X.2.2.1 st w ce sl) : ∀ q ∈ is_X12_isDerived Rt, np_S X q.1 q.2 :=
  List.forall_mem_cons.mpr ⟨np_s_iload_n hX dX12_isDerived_0 rfl, List.forall_mem_cons.mpr ⟨np_s_iconst hX dX12_isDerived_1 (by decide), List.forall_mem_cons.mpr ⟨np_s_aload_n hX dX12_isDerived_2 rfl, List.forall_mem_cons.mpr ⟨np_S.mono (op := np_getf 12 33) (np_s_getf hX dX12_isDerived_3 (C := RX12) (T := TX12) (N := 77) rfl guX12 (by decide) gw1669) nq_getf_le, List.forall_mem_cons.mpr ⟨np_s_iconst hX dX12_isDerived_6 (by decide), List.forall_mem_cons.mpr ⟨np_s_isub hX dX12_isDerived_7, List.forall_mem_cons.mpr ⟨np_S.mono (op := np_call 3 sp_X12_isIn 3 0 0 0 0) (np_s_callS hX C_X12_isIn dX12_isDerived_8 gw1880 gw142 gw1878 gw1879 ⟨by decide, by decide, by decide⟩ (by decide) (by decide)) nq_call_le, List.forall_mem_cons.mpr ⟨np_S.mono (op := np_if (fun x => x = 0) 32) (np_s_if_eq hX dX12_isDerived_11 (by decide)) nq_if_le, List.forall_mem_cons.mpr ⟨np_s_aload_n hX dX12_isDerived_14 rfl, List.forall_mem_cons.mpr ⟨np_s_aload_n hX dX12_isDerived_15 rfl, List.forall_mem_cons.mpr ⟨np_S.mono (op := np_getf 12 34) (np_s_getf hX dX12_isDerived_16 (C := RX12) (T := TX12) (N := 77) rfl guX12 (by decide) gw1670) nq_getf_le, List.forall_mem_cons.mpr ⟨np_s_iload_n hX dX12_isDerived_19 rfl, List.forall_mem_cons.mpr ⟨np_S.mono (op := np_ialdT .int) (np_s_iald hX dX12_isDerived_20) nq_ialdT_le, List.forall_mem_cons.mpr ⟨np_s_iload_n hX dX12_isDerived_21 rfl, List.forall_mem_cons.mpr ⟨np_S.mono (op := np_callV 12 3 sp_X12_isRow 3 0 0 0 0) (np_s_callV hX C_X12_isRow dX12_isDerived_22 (q := (RX12, TX12, 77)) rfl rfl gw2193 gw142 gw2190 gw2192 gw110 ⟨by decide, by decide, by decide⟩ (by decide) (by decide)) nq_callV_le, List.forall_mem_cons.mpr ⟨np_S.mono (op := np_if (fun x => x = 0) 32) (np_s_if_eq hX dX12_isDerived_25 (by decide)) nq_if_le, List.forall_mem_cons.mpr ⟨np_s_iconst hX dX12_isDerived_28 (by decide), List.forall_mem_cons.mpr ⟨np_s_goto hX dX12_isDerived_29 (by decide), List.forall_mem_cons.mpr ⟨np_s_iconst hX dX12_isDerived_32 (by decide), List.forall_mem_cons.mpr ⟨np_S.mono (op := np_ret X.2.2.1) (np_s_ret hX dX12_isDerived_33) (nq_ret_le hR), fun _ h => nomatch h⟩⟩⟩⟩⟩⟩⟩⟩⟩⟩⟩⟩⟩⟩⟩⟩⟩⟩⟩⟩
abbrev sp_X12_isDerived : np_Sp := nq_in is_X12_isDerived (some .boolean) 0 0 400
theorem C_X12_isDerived : np_C yX12_isDerived cX12_isDerived 3 (some .boolean) 2 44 0 0 sp_X12_isDerived := nq_inC 400 (by decide) (fun X Rt hX hmn hR => so_X12_isDerived hX hR)
theorem dX12_clearsCodes_0 : decode cX12_clearsCodes 0 = .ok (.aload_n 0, 1) := by decide +kernel
theorem dX12_clearsCodes_1 : decode cX12_clearsCodes 1 = .ok (.iconst 0, 1) := by decide +kernel
theorem dX12_clearsCodes_2 : decode cX12_clearsCodes 2 = .ok (.putfield 459, 3) := by decide +kernel
theorem dX12_clearsCodes_5 : decode cX12_clearsCodes 5 = .ok (.iconst 0, 1) := by decide +kernel
theorem dX12_clearsCodes_6 : decode cX12_clearsCodes 6 = .ok (.istore_n 1, 1) := by decide +kernel
theorem dX12_clearsCodes_7 : decode cX12_clearsCodes 7 = .ok (.iload_n 1, 1) := by decide +kernel
theorem dX12_clearsCodes_8 : decode cX12_clearsCodes 8 = .ok (.bipush 8, 2) := by decide +kernel
theorem dX12_clearsCodes_10 : decode cX12_clearsCodes 10 = .ok (.if_icmp .ge 24, 3) := by decide +kernel
theorem dX12_clearsCodes_13 : decode cX12_clearsCodes 13 = .ok (.aload_n 0, 1) := by decide +kernel
theorem dX12_clearsCodes_14 : decode cX12_clearsCodes 14 = .ok (.getfield 131, 3) := by decide +kernel
theorem dX12_clearsCodes_17 : decode cX12_clearsCodes 17 = .ok (.bipush 8, 2) := by decide +kernel
theorem dX12_clearsCodes_19 : decode cX12_clearsCodes 19 = .ok (.aload_n 0, 1) := by decide +kernel
theorem dX12_clearsCodes_20 : decode cX12_clearsCodes 20 = .ok (.getfield 462, 3) := by decide +kernel
theorem dX12_clearsCodes_23 : decode cX12_clearsCodes 23 = .ok (.imul, 1) := by decide +kernel
theorem dX12_clearsCodes_24 : decode cX12_clearsCodes 24 = .ok (.iload_n 1, 1) := by decide +kernel
theorem dX12_clearsCodes_25 : decode cX12_clearsCodes 25 = .ok (.iadd, 1) := by decide +kernel
theorem dX12_clearsCodes_26 : decode cX12_clearsCodes 26 = .ok (.iconst 0, 1) := by decide +kernel
theorem dX12_clearsCodes_27 : decode cX12_clearsCodes 27 = .ok (.iastore, 1) := by decide +kernel
theorem dX12_clearsCodes_28 : decode cX12_clearsCodes 28 = .ok (.iinc 1 1, 3) := by decide +kernel
theorem dX12_clearsCodes_31 : decode cX12_clearsCodes 31 = .ok (.goto (-24), 3) := by decide +kernel
theorem dX12_clearsCodes_34 : decode cX12_clearsCodes 34 = .ok (.return_, 1) := by decide +kernel
def is_X12_clearsCodes (Rt : np_Rt) : List (Nat × np_Op) := [(0, np_ald 1 0), (1, np_push 1 (.int 0)), (2, nq_putf 12 46 (.int)), (5, np_push 1 (.int 0)), (6, np_ist 1 1), (7, np_ild 1 1), (8, np_push 2 (.int 8)), (10, nq_ic (fun x y => y ≤ x) 34), (13, np_ald 1 0), (14, nq_getf 12 45), (17, np_push 2 (.int 8)), (19, np_ald 1 0), (20, nq_getf 12 41), (23, np_ib (fun x y => x * y)), (24, np_ild 1 1), (25, np_ib (fun x y => x + y)), (26, np_push 1 (.int 0)), (27, nq_iastT .int), (28, np_iinc 1 1), (31, np_goto 7), (34, np_ret Rt)]
set_option maxRecDepth 20000 in
theorem so_X12_clearsCodes {X : np_Ctx} {Rt : np_Rt} (hX : np_ok RX12 cX12_clearsCodes 2 0 0 0 0 .return_ X) (hR : ∀ st w ce sl, Rt st w ce sl → X.2.2.1 st w ce sl) : ∀ q ∈ is_X12_clearsCodes Rt, np_S X q.1 q.2 :=
  List.forall_mem_cons.mpr ⟨np_s_aload_n hX dX12_clearsCodes_0 rfl, List.forall_mem_cons.mpr ⟨np_s_iconst hX dX12_clearsCodes_1 (by decide), List.forall_mem_cons.mpr ⟨np_S.mono (op := np_putf 12 46 (.int)) (np_s_putf hX dX12_clearsCodes_2 (C := RX12) (T := TX12) (N := 77) (ty0 := tyX12) rfl guX12 tyX12_ok nmX12 (by decide) gw1682 rfl rfl) nq_putf_le, List.forall_mem_cons.mpr ⟨np_s_iconst hX dX12_clearsCodes_5 (by decide), List.forall_mem_cons.mpr ⟨np_s_istore_n hX dX12_clearsCodes_6 rfl (by decide), List.forall_mem_cons.mpr ⟨np_s_iload_n hX dX12_clearsCodes_7 rfl, List.forall_mem_cons.mpr ⟨np_s_bipush hX dX12_clearsCodes_8 (by decide), List.forall_mem_cons.mpr ⟨np_S.mono (op := np_ic (fun x y => y ≤ x) 34) (np_s_icmp_ge hX dX12_clearsCodes_10 (by decide)) nq_ic_le, List.forall_mem_cons.mpr ⟨np_s_aload_n hX dX12_clearsCodes_13 rfl, List.forall_mem_cons.mpr ⟨np_S.mono (op := np_getf 12 45) (np_s_getf hX dX12_clearsCodes_14 (C := RX12) (T := TX12) (N := 77) rfl guX12 (by decide) gw1681) nq_getf_le, List.forall_mem_cons.mpr ⟨np_s_bipush hX dX12_clearsCodes_17 (by decide), List.forall_mem_cons.mpr ⟨np_s_aload_n hX dX12_clearsCodes_19 rfl, List.forall_mem_cons.mpr ⟨np_S.mono (op := np_getf 12 41) (np_s_getf hX dX12_clearsCodes_20 (C := RX12) (T := TX12) (N := 77) rfl guX12 (by decide) gw1677) nq_getf_le, List.forall_mem_cons.mpr ⟨np_s_imul hX dX12_clearsCodes_23, List.forall_mem_cons.mpr ⟨np_s_iload_n hX dX12_clearsCodes_24 rfl, List.forall_mem_cons.mpr ⟨np_s_iadd hX dX12_clearsCodes_25, List.forall_mem_cons.mpr ⟨np_s_iconst hX dX12_clearsCodes_26 (by decide), List.forall_mem_cons.mpr ⟨np_S.mono (op := np_iastT .int) (np_s_iast hX dX12_clearsCodes_27) nq_iastT_le, List.forall_mem_cons.mpr ⟨np_s_iinc hX dX12_clearsCodes_28 (by decide), List.forall_mem_cons.mpr ⟨np_s_goto hX dX12_clearsCodes_31 (by decide), List.forall_mem_cons.mpr ⟨np_S.mono (op := np_ret X.2.2.1) (np_s_ret hX dX12_clearsCodes_34) (nq_ret_le hR), fun _ h => nomatch h⟩⟩⟩⟩⟩⟩⟩⟩⟩⟩⟩⟩⟩⟩⟩⟩⟩⟩⟩⟩⟩
abbrev sp_X12_clearsCodes : np_Sp := nq_in is_X12_clearsCodes none 0 0 400
theorem C_X12_clearsCodes : np_C yX12_clearsCodes cX12_clearsCodes 2 none 0 0 0 0 sp_X12_clearsCodes := nq_inC 400 (by decide) (fun X Rt hX hmn hR => so_X12_clearsCodes hX hR)
theorem dX12_isUpgrade_0 : decode cX12_isUpgrade 0 = .ok (.iload_n 1, 1) := by decide +kernel
theorem dX12_isUpgrade_1 : decode cX12_isUpgrade 1 = .ok (.iconst 0, 1) := by decide +kernel
theorem dX12_isUpgrade_2 : decode cX12_isUpgrade 2 = .ok (.aload_n 0, 1) := by decide +kernel
theorem dX12_isUpgrade_3 : decode cX12_isUpgrade 3 = .ok (.getfield 462, 3) := by decide +kernel
theorem dX12_isUpgrade_6 : decode cX12_isUpgrade 6 = .ok (.iconst 1, 1) := by decide +kernel
theorem dX12_isUpgrade_7 : decode cX12_isUpgrade 7 = .ok (.isub, 1) := by decide +kernel
theorem dX12_isUpgrade_8 : decode cX12_isUpgrade 8 = .ok (.invokestatic 184, 3) := by decide +kernel
theorem dX12_isUpgrade_11 : decode cX12_isUpgrade 11 = .ok (.ireturn, 1) := by decide +kernel
def is_X12_isUpgrade (Rt : np_Rt) : List (Nat × np_Op) := [(0, np_ild 1 1), (1, np_push 1 (.int 0)), (2, np_ald 1 0), (3, nq_getf 12 41), (6, np_push 1 (.int 1)), (7, np_ib (fun x y => x - y)), (8, nq_call 3 sp_X12_isIn 3 0 0 0 0), (11, np_ret Rt)]
set_option maxRecDepth 20000 in
theorem so_X12_isUpgrade {X : np_Ctx} {Rt : np_Rt} (hX : np_ok RX12 cX12_isUpgrade 2 1 22 0 0 .ireturn X) (hR : ∀ st w ce sl, Rt st w ce sl → X.2.2.1 st w ce sl) : ∀ q ∈ is_X12_isUpgrade Rt, np_S X q.1 q.2 :=
  List.forall_mem_cons.mpr ⟨np_s_iload_n hX dX12_isUpgrade_0 rfl, List.forall_mem_cons.mpr ⟨np_s_iconst hX dX12_isUpgrade_1 (by decide), List.forall_mem_cons.mpr ⟨np_s_aload_n hX dX12_isUpgrade_2 rfl, List.forall_mem_cons.mpr ⟨np_S.mono (op := np_getf 12 41) (np_s_getf hX dX12_isUpgrade_3 (C := RX12) (T := TX12) (N := 77) rfl guX12 (by decide) gw1677) nq_getf_le, List.forall_mem_cons.mpr ⟨np_s_iconst hX dX12_isUpgrade_6 (by decide), List.forall_mem_cons.mpr ⟨np_s_isub hX dX12_isUpgrade_7, List.forall_mem_cons.mpr ⟨np_S.mono (op := np_call 3 sp_X12_isIn 3 0 0 0 0) (np_s_callS hX C_X12_isIn dX12_isUpgrade_8 gw1880 gw142 gw1878 gw1879 ⟨by decide, by decide, by decide⟩ (by decide) (by decide)) nq_call_le, List.forall_mem_cons.mpr ⟨np_S.mono (op := np_ret X.2.2.1) (np_s_ret hX dX12_isUpgrade_11) (nq_ret_le hR), fun _ h => nomatch h⟩⟩⟩⟩⟩⟩⟩⟩
abbrev sp_X12_isUpgrade : np_Sp := nq_in is_X12_isUpgrade (some .boolean) 0 0 400
theorem C_X12_isUpgrade : np_C yX12_isUpgrade cX12_isUpgrade 2 (some .boolean) 1 22 0 0 sp_X12_isUpgrade := nq_inC 400 (by decide) (fun X Rt hX hmn hR => so_X12_isUpgrade hX hR)
theorem dX12_isFound_0 : decode cX12_isFound 0 = .ok (.aload_n 0, 1) := by decide +kernel
theorem dX12_isFound_1 : decode cX12_isFound 1 = .ok (.iload_n 1, 1) := by decide +kernel
theorem dX12_isFound_2 : decode cX12_isFound 2 = .ok (.invokestatic 356, 3) := by decide +kernel
theorem dX12_isFound_5 : decode cX12_isFound 5 = .ok (.ifCond .eq 18, 3) := by decide +kernel
theorem dX12_isFound_8 : decode cX12_isFound 8 = .ok (.iload_n 2, 1) := by decide +kernel
theorem dX12_isFound_9 : decode cX12_isFound 9 = .ok (.invokestatic 191, 3) := by decide +kernel
theorem dX12_isFound_12 : decode cX12_isFound 12 = .ok (.ifCond .eq 11, 3) := by decide +kernel
theorem dX12_isFound_15 : decode cX12_isFound 15 = .ok (.iload_n 3, 1) := by decide +kernel
theorem dX12_isFound_16 : decode cX12_isFound 16 = .ok (.ifCond .lt 7, 3) := by decide +kernel
theorem dX12_isFound_19 : decode cX12_isFound 19 = .ok (.iconst 0, 1) := by decide +kernel
theorem dX12_isFound_20 : decode cX12_isFound 20 = .ok (.goto 4, 3) := by decide +kernel
theorem dX12_isFound_23 : decode cX12_isFound 23 = .ok (.iconst 1, 1) := by decide +kernel
theorem dX12_isFound_24 : decode cX12_isFound 24 = .ok (.invokevirtual 202, 3) := by decide +kernel
theorem dX12_isFound_27 : decode cX12_isFound 27 = .ok (.ireturn, 1) := by decide +kernel
def is_X12_isFound (Rt : np_Rt) : List (Nat × np_Op) := [(0, np_ald 1 0), (1, np_ild 1 1), (2, nq_call 1 sp_X12_isFile 1 0 0 0 0), (5, nq_if (fun x => x = 0) 23), (8, np_ild 1 2), (9, nq_call 1 sp_X12_isSlot 1 0 0 0 0), (12, nq_if (fun x => x = 0) 23), (15, np_ild 1 3), (16, nq_if (fun x => x < 0) 23), (19, np_push 1 (.int 0)), (20, np_goto 24), (23, np_push 1 (.int 1)), (24, nq_callV 12 2 sp_X12_can 2 0 0 0 0), (27, np_ret Rt)]
set_option maxRecDepth 20000 in
theorem so_X12_isFound {X : np_Ctx} {Rt : np_Rt} (hX : np_ok RX12 cX12_isFound 4 2 42 0 0 .ireturn X) (hR : ∀ st w ce sl, Rt st w ce sl → X.2.2.1 st w ce sl) : ∀ q ∈ is_X12_isFound Rt, np_S X q.1 q.2 :=
  List.forall_mem_cons.mpr ⟨np_s_aload_n hX dX12_isFound_0 rfl, List.forall_mem_cons.mpr ⟨np_s_iload_n hX dX12_isFound_1 rfl, List.forall_mem_cons.mpr ⟨np_S.mono (op := np_call 1 sp_X12_isFile 1 0 0 0 0) (np_s_callS hX C_X12_isFile dX12_isFound_2 gw2062 gw142 gw2060 gw2061 ⟨by decide, by decide, by decide⟩ (by decide) (by decide)) nq_call_le, List.forall_mem_cons.mpr ⟨np_S.mono (op := np_if (fun x => x = 0) 23) (np_s_if_eq hX dX12_isFound_5 (by decide)) nq_if_le, List.forall_mem_cons.mpr ⟨np_s_iload_n hX dX12_isFound_8 rfl, List.forall_mem_cons.mpr ⟨np_S.mono (op := np_call 1 sp_X12_isSlot 1 0 0 0 0) (np_s_callS hX C_X12_isSlot dX12_isFound_9 gw1883 gw142 gw1881 gw1882 ⟨by decide, by decide, by decide⟩ (by decide) (by decide)) nq_call_le, List.forall_mem_cons.mpr ⟨np_S.mono (op := np_if (fun x => x = 0) 23) (np_s_if_eq hX dX12_isFound_12 (by decide)) nq_if_le, List.forall_mem_cons.mpr ⟨np_s_iload_n hX dX12_isFound_15 rfl, List.forall_mem_cons.mpr ⟨np_S.mono (op := np_if (fun x => x < 0) 23) (np_s_if_lt hX dX12_isFound_16 (by decide)) nq_if_le, List.forall_mem_cons.mpr ⟨np_s_iconst hX dX12_isFound_19 (by decide), List.forall_mem_cons.mpr ⟨np_s_goto hX dX12_isFound_20 (by decide), List.forall_mem_cons.mpr ⟨np_s_iconst hX dX12_isFound_23 (by decide), List.forall_mem_cons.mpr ⟨np_S.mono (op := np_callV 12 2 sp_X12_can 2 0 0 0 0) (np_s_callV hX C_X12_can dX12_isFound_24 (q := (RX12, TX12, 77)) rfl rfl gw1890 gw142 gw1887 gw1889 gw63 ⟨by decide, by decide, by decide⟩ (by decide) (by decide)) nq_callV_le, List.forall_mem_cons.mpr ⟨np_S.mono (op := np_ret X.2.2.1) (np_s_ret hX dX12_isFound_27) (nq_ret_le hR), fun _ h => nomatch h⟩⟩⟩⟩⟩⟩⟩⟩⟩⟩⟩⟩⟩⟩
abbrev sp_X12_isFound : np_Sp := nq_in is_X12_isFound (some .boolean) 0 0 400
theorem C_X12_isFound : np_C yX12_isFound cX12_isFound 4 (some .boolean) 2 42 0 0 sp_X12_isFound := nq_inC 400 (by decide) (fun X Rt hX hmn hR => so_X12_isFound hX hR)
theorem dX12_findsRow_0 : decode cX12_findsRow 0 = .ok (.iload 4, 2) := by decide +kernel
theorem dX12_findsRow_2 : decode cX12_findsRow 2 = .ok (.istore 5, 2) := by decide +kernel
theorem dX12_findsRow_4 : decode cX12_findsRow 4 = .ok (.iconst (-1), 1) := by decide +kernel
theorem dX12_findsRow_5 : decode cX12_findsRow 5 = .ok (.istore 6, 2) := by decide +kernel
theorem dX12_findsRow_7 : decode cX12_findsRow 7 = .ok (.iconst 0, 1) := by decide +kernel
theorem dX12_findsRow_8 : decode cX12_findsRow 8 = .ok (.istore 7, 2) := by decide +kernel
theorem dX12_findsRow_10 : decode cX12_findsRow 10 = .ok (.iload 7, 2) := by decide +kernel
theorem dX12_findsRow_12 : decode cX12_findsRow 12 = .ok (.aload_n 0, 1) := by decide +kernel
theorem dX12_findsRow_13 : decode cX12_findsRow 13 = .ok (.getfield 77, 3) := by decide +kernel
theorem dX12_findsRow_16 : decode cX12_findsRow 16 = .ok (.iload_n 1, 1) := by decide +kernel
theorem dX12_findsRow_17 : decode cX12_findsRow 17 = .ok (.iaload, 1) := by decide +kernel
theorem dX12_findsRow_18 : decode cX12_findsRow 18 = .ok (.if_icmp .ge 84, 3) := by decide +kernel
theorem dX12_findsRow_21 : decode cX12_findsRow 21 = .ok (.aload_n 0, 1) := by decide +kernel
theorem dX12_findsRow_22 : decode cX12_findsRow 22 = .ok (.getfield 86, 3) := by decide +kernel
theorem dX12_findsRow_25 : decode cX12_findsRow 25 = .ok (.bipush 24, 2) := by decide +kernel
theorem dX12_findsRow_27 : decode cX12_findsRow 27 = .ok (.iload_n 1, 1) := by decide +kernel
theorem dX12_findsRow_28 : decode cX12_findsRow 28 = .ok (.imul, 1) := by decide +kernel
theorem dX12_findsRow_29 : decode cX12_findsRow 29 = .ok (.iload 7, 2) := by decide +kernel
theorem dX12_findsRow_31 : decode cX12_findsRow 31 = .ok (.iadd, 1) := by decide +kernel
theorem dX12_findsRow_32 : decode cX12_findsRow 32 = .ok (.iaload, 1) := by decide +kernel
theorem dX12_findsRow_33 : decode cX12_findsRow 33 = .ok (.iconst 3, 1) := by decide +kernel
theorem dX12_findsRow_34 : decode cX12_findsRow 34 = .ok (.iload_n 2, 1) := by decide +kernel
theorem dX12_findsRow_35 : decode cX12_findsRow 35 = .ok (.imul, 1) := by decide +kernel
theorem dX12_findsRow_36 : decode cX12_findsRow 36 = .ok (.invokestatic 229, 3) := by decide +kernel
theorem dX12_findsRow_39 : decode cX12_findsRow 39 = .ok (.ifCond .eq 20, 3) := by decide +kernel
theorem dX12_findsRow_42 : decode cX12_findsRow 42 = .ok (.aload_n 0, 1) := by decide +kernel
theorem dX12_findsRow_43 : decode cX12_findsRow 43 = .ok (.iload_n 1, 1) := by decide +kernel
theorem dX12_findsRow_44 : decode cX12_findsRow 44 = .ok (.iload 7, 2) := by decide +kernel
theorem dX12_findsRow_46 : decode cX12_findsRow 46 = .ok (.iload_n 2, 1) := by decide +kernel
theorem dX12_findsRow_47 : decode cX12_findsRow 47 = .ok (.iconst 0, 1) := by decide +kernel
theorem dX12_findsRow_48 : decode cX12_findsRow 48 = .ok (.invokevirtual 443, 3) := by decide +kernel
theorem dX12_findsRow_51 : decode cX12_findsRow 51 = .ok (.iload_n 3, 1) := by decide +kernel
theorem dX12_findsRow_52 : decode cX12_findsRow 52 = .ok (.if_icmp .ne 7, 3) := by decide +kernel
theorem dX12_findsRow_55 : decode cX12_findsRow 55 = .ok (.iconst 1, 1) := by decide +kernel
theorem dX12_findsRow_56 : decode cX12_findsRow 56 = .ok (.goto 4, 3) := by decide +kernel
theorem dX12_findsRow_59 : decode cX12_findsRow 59 = .ok (.iconst 0, 1) := by decide +kernel
theorem dX12_findsRow_60 : decode cX12_findsRow 60 = .ok (.istore 8, 2) := by decide +kernel
theorem dX12_findsRow_62 : decode cX12_findsRow 62 = .ok (.iload 8, 2) := by decide +kernel
theorem dX12_findsRow_64 : decode cX12_findsRow 64 = .ok (.ifCond .eq 13, 3) := by decide +kernel
theorem dX12_findsRow_67 : decode cX12_findsRow 67 = .ok (.iload 5, 2) := by decide +kernel
theorem dX12_findsRow_69 : decode cX12_findsRow 69 = .ok (.ifCond .ne 8, 3) := by decide +kernel
theorem dX12_findsRow_72 : decode cX12_findsRow 72 = .ok (.iload 7, 2) := by decide +kernel
theorem dX12_findsRow_74 : decode cX12_findsRow 74 = .ok (.goto 5, 3) := by decide +kernel
theorem dX12_findsRow_77 : decode cX12_findsRow 77 = .ok (.iload 6, 2) := by decide +kernel
theorem dX12_findsRow_79 : decode cX12_findsRow 79 = .ok (.istore 6, 2) := by decide +kernel
theorem dX12_findsRow_81 : decode cX12_findsRow 81 = .ok (.iload 5, 2) := by decide +kernel
theorem dX12_findsRow_83 : decode cX12_findsRow 83 = .ok (.iload 8, 2) := by decide +kernel
theorem dX12_findsRow_85 : decode cX12_findsRow 85 = .ok (.ifCond .eq 7, 3) := by decide +kernel
theorem dX12_findsRow_88 : decode cX12_findsRow 88 = .ok (.iconst 1, 1) := by decide +kernel
theorem dX12_findsRow_89 : decode cX12_findsRow 89 = .ok (.goto 4, 3) := by decide +kernel
theorem dX12_findsRow_92 : decode cX12_findsRow 92 = .ok (.iconst 0, 1) := by decide +kernel
theorem dX12_findsRow_93 : decode cX12_findsRow 93 = .ok (.isub, 1) := by decide +kernel
theorem dX12_findsRow_94 : decode cX12_findsRow 94 = .ok (.istore 5, 2) := by decide +kernel
theorem dX12_findsRow_96 : decode cX12_findsRow 96 = .ok (.iinc 7 1, 3) := by decide +kernel
theorem dX12_findsRow_99 : decode cX12_findsRow 99 = .ok (.goto (-89), 3) := by decide +kernel
theorem dX12_findsRow_102 : decode cX12_findsRow 102 = .ok (.iload 6, 2) := by decide +kernel
theorem dX12_findsRow_104 : decode cX12_findsRow 104 = .ok (.ireturn, 1) := by decide +kernel
def is_X12_findsRow (Rt : np_Rt) : List (Nat × np_Op) := [(0, np_ild 2 4), (2, np_ist 2 5), (4, np_push 1 (.int (-1))), (5, np_ist 2 6), (7, np_push 1 (.int 0)), (8, np_ist 2 7), (10, np_ild 2 7), (12, np_ald 1 0), (13, nq_getf 12 25), (16, np_ild 1 1), (17, nq_ialdT .int), (18, nq_ic (fun x y => y ≤ x) 102), (21, np_ald 1 0), (22, nq_getf 12 28), (25, np_push 2 (.int 24)), (27, np_ild 1 1), (28, np_ib (fun x y => x * y)), (29, np_ild 2 7), (31, np_ib (fun x y => x + y)), (32, nq_ialdT .int), (33, np_push 1 (.int 3)), (34, np_ild 1 2), (35, np_ib (fun x y => x * y)), (36, nq_call 2 sp_X12_has 2 0 0 0 0), (39, nq_if (fun x => x = 0) 59), (42, np_ald 1 0), (43, np_ild 1 1), (44, np_ild 2 7), (46, np_ild 1 2), (47, np_push 1 (.int 0)), (51, np_ild 1 3), (52, nq_icne 59), (55, np_push 1 (.int 1)), (56, np_goto 60), (59, np_push 1 (.int 0)), (60, np_ist 2 8), (62, np_ild 2 8), (64, nq_if (fun x => x = 0) 77), (67, np_ild 2 5), (69, nq_ifne 77), (72, np_ild 2 7), (74, np_goto 79), (77, np_ild 2 6), (79, np_ist 2 6), (81, np_ild 2 5), (83, np_ild 2 8), (85, nq_if (fun x => x = 0) 92), (88, np_push 1 (.int 1)), (89, np_goto 93), (92, np_push 1 (.int 0)), (93, np_ib (fun x y => x - y)), (94, np_ist 2 5), (96, np_iinc 7 1), (99, np_goto 10), (102, np_ild 2 6), (104, np_ret Rt)]
set_option maxRecDepth 20000 in
theorem so_X12_findsRow {X : np_Ctx} {Rt : np_Rt} (hX : np_ok RX12 cX12_findsRow 9 1 21 0 0 .ireturn X) (hR : ∀ st w ce sl, Rt st w ce sl → X.2.2.1 st w ce sl) : ∀ q ∈ is_X12_findsRow Rt, np_S X q.1 q.2 :=
  List.forall_mem_cons.mpr ⟨np_s_iload hX dX12_findsRow_0, List.forall_mem_cons.mpr ⟨np_s_istore hX dX12_findsRow_2 (by decide), List.forall_mem_cons.mpr ⟨np_s_iconst hX dX12_findsRow_4 (by decide), List.forall_mem_cons.mpr ⟨np_s_istore hX dX12_findsRow_5 (by decide), List.forall_mem_cons.mpr ⟨np_s_iconst hX dX12_findsRow_7 (by decide), List.forall_mem_cons.mpr ⟨np_s_istore hX dX12_findsRow_8 (by decide), List.forall_mem_cons.mpr ⟨np_s_iload hX dX12_findsRow_10, List.forall_mem_cons.mpr ⟨np_s_aload_n hX dX12_findsRow_12 rfl, List.forall_mem_cons.mpr ⟨np_S.mono (op := np_getf 12 25) (np_s_getf hX dX12_findsRow_13 (C := RX12) (T := TX12) (N := 77) rfl guX12 (by decide) gw1661) nq_getf_le, List.forall_mem_cons.mpr ⟨np_s_iload_n hX dX12_findsRow_16 rfl, List.forall_mem_cons.mpr ⟨np_S.mono (op := np_ialdT .int) (np_s_iald hX dX12_findsRow_17) nq_ialdT_le, List.forall_mem_cons.mpr ⟨np_S.mono (op := np_ic (fun x y => y ≤ x) 102) (np_s_icmp_ge hX dX12_findsRow_18 (by decide)) nq_ic_le, List.forall_mem_cons.mpr ⟨np_s_aload_n hX dX12_findsRow_21 rfl, List.forall_mem_cons.mpr ⟨np_S.mono (op := np_getf 12 28) (np_s_getf hX dX12_findsRow_22 (C := RX12) (T := TX12) (N := 77) rfl guX12 (by decide) gw1664) nq_getf_le, List.forall_mem_cons.mpr ⟨np_s_bipush hX dX12_findsRow_25 (by decide), List.forall_mem_cons.mpr ⟨np_s_iload_n hX dX12_findsRow_27 rfl, List.forall_mem_cons.mpr ⟨np_s_imul hX dX12_findsRow_28, List.forall_mem_cons.mpr ⟨np_s_iload hX dX12_findsRow_29, List.forall_mem_cons.mpr ⟨np_s_iadd hX dX12_findsRow_31, List.forall_mem_cons.mpr ⟨np_S.mono (op := np_ialdT .int) (np_s_iald hX dX12_findsRow_32) nq_ialdT_le, List.forall_mem_cons.mpr ⟨np_s_iconst hX dX12_findsRow_33 (by decide), List.forall_mem_cons.mpr ⟨np_s_iload_n hX dX12_findsRow_34 rfl, List.forall_mem_cons.mpr ⟨np_s_imul hX dX12_findsRow_35, List.forall_mem_cons.mpr ⟨np_S.mono (op := np_call 2 sp_X12_has 2 0 0 0 0) (np_s_callS hX C_X12_has dX12_findsRow_36 gw1943 gw142 gw1941 gw1942 ⟨by decide, by decide, by decide⟩ (by decide) (by decide)) nq_call_le, List.forall_mem_cons.mpr ⟨np_S.mono (op := np_if (fun x => x = 0) 59) (np_s_if_eq hX dX12_findsRow_39 (by decide)) nq_if_le, List.forall_mem_cons.mpr ⟨np_s_aload_n hX dX12_findsRow_42 rfl, List.forall_mem_cons.mpr ⟨np_s_iload_n hX dX12_findsRow_43 rfl, List.forall_mem_cons.mpr ⟨np_s_iload hX dX12_findsRow_44, List.forall_mem_cons.mpr ⟨np_s_iload_n hX dX12_findsRow_46 rfl, List.forall_mem_cons.mpr ⟨np_s_iconst hX dX12_findsRow_47 (by decide), List.forall_mem_cons.mpr ⟨np_s_iload_n hX dX12_findsRow_51 rfl, List.forall_mem_cons.mpr ⟨np_S.mono (op := np_icne 59) (np_s_icmp_ne hX dX12_findsRow_52 (by decide)) nq_icne_le, List.forall_mem_cons.mpr ⟨np_s_iconst hX dX12_findsRow_55 (by decide), List.forall_mem_cons.mpr ⟨np_s_goto hX dX12_findsRow_56 (by decide), List.forall_mem_cons.mpr ⟨np_s_iconst hX dX12_findsRow_59 (by decide), List.forall_mem_cons.mpr ⟨np_s_istore hX dX12_findsRow_60 (by decide), List.forall_mem_cons.mpr ⟨np_s_iload hX dX12_findsRow_62, List.forall_mem_cons.mpr ⟨np_S.mono (op := np_if (fun x => x = 0) 77) (np_s_if_eq hX dX12_findsRow_64 (by decide)) nq_if_le, List.forall_mem_cons.mpr ⟨np_s_iload hX dX12_findsRow_67, List.forall_mem_cons.mpr ⟨np_S.mono (op := np_ifne 77) (np_s_if_ne hX dX12_findsRow_69 (by decide)) nq_ifne_le, List.forall_mem_cons.mpr ⟨np_s_iload hX dX12_findsRow_72, List.forall_mem_cons.mpr ⟨np_s_goto hX dX12_findsRow_74 (by decide), List.forall_mem_cons.mpr ⟨np_s_iload hX dX12_findsRow_77, List.forall_mem_cons.mpr ⟨np_s_istore hX dX12_findsRow_79 (by decide), List.forall_mem_cons.mpr ⟨np_s_iload hX dX12_findsRow_81, List.forall_mem_cons.mpr ⟨np_s_iload hX dX12_findsRow_83, List.forall_mem_cons.mpr ⟨np_S.mono (op := np_if (fun x => x = 0) 92) (np_s_if_eq hX dX12_findsRow_85 (by decide)) nq_if_le, List.forall_mem_cons.mpr ⟨np_s_iconst hX dX12_findsRow_88 (by decide), List.forall_mem_cons.mpr ⟨np_s_goto hX dX12_findsRow_89 (by decide), List.forall_mem_cons.mpr ⟨np_s_iconst hX dX12_findsRow_92 (by decide), List.forall_mem_cons.mpr ⟨np_s_isub hX dX12_findsRow_93, List.forall_mem_cons.mpr ⟨np_s_istore hX dX12_findsRow_94 (by decide), List.forall_mem_cons.mpr ⟨np_s_iinc hX dX12_findsRow_96 (by decide), List.forall_mem_cons.mpr ⟨np_s_goto hX dX12_findsRow_99 (by decide), List.forall_mem_cons.mpr ⟨np_s_iload hX dX12_findsRow_102, List.forall_mem_cons.mpr ⟨np_S.mono (op := np_ret X.2.2.1) (np_s_ret hX dX12_findsRow_104) (nq_ret_le hR), fun _ h => nomatch h⟩⟩⟩⟩⟩⟩⟩⟩⟩⟩⟩⟩⟩⟩⟩⟩⟩⟩⟩⟩⟩⟩⟩⟩⟩⟩⟩⟩⟩⟩⟩⟩⟩⟩⟩⟩⟩⟩⟩⟩⟩⟩⟩⟩⟩⟩⟩⟩⟩⟩⟩⟩⟩⟩⟩⟩
abbrev sp_X12_findsRow : np_Sp := nq_in is_X12_findsRow (some .int) 0 0 400
theorem C_X12_findsRow : np_C yX12_findsRow cX12_findsRow 9 (some .int) 1 21 0 0 sp_X12_findsRow := nq_inC 400 (by decide) (fun X Rt hX hmn hR => so_X12_findsRow hX hR)
theorem dX12_thrown_0 : decode cX12_thrown 0 = .ok (.aload_n 0, 1) := by decide +kernel
theorem dX12_thrown_1 : decode cX12_thrown 1 = .ok (.getfield 180, 3) := by decide +kernel
theorem dX12_thrown_4 : decode cX12_thrown 4 = .ok (.ireturn, 1) := by decide +kernel
def is_X12_thrown (Rt : np_Rt) : List (Nat × np_Op) := [(0, np_ald 1 0), (1, nq_getf 12 76), (4, np_ret Rt)]
set_option maxRecDepth 20000 in
theorem so_X12_thrown {X : np_Ctx} {Rt : np_Rt} (hX : np_ok RX12 cX12_thrown 1 0 0 0 0 .ireturn X) (hR : ∀ st w ce sl, Rt st w ce sl → X.2.2.1 st w ce sl) : ∀ q ∈ is_X12_thrown Rt, np_S X q.1 q.2 :=
  List.forall_mem_cons.mpr ⟨np_s_aload_n hX dX12_thrown_0 rfl, List.forall_mem_cons.mpr ⟨np_S.mono (op := np_getf 12 76) (np_s_getf hX dX12_thrown_1 (C := RX12) (T := TX12) (N := 77) rfl guX12 (by decide) gw1712) nq_getf_le, List.forall_mem_cons.mpr ⟨np_S.mono (op := np_ret X.2.2.1) (np_s_ret hX dX12_thrown_4) (nq_ret_le hR), fun _ h => nomatch h⟩⟩⟩
abbrev sp_X12_thrown : np_Sp := nq_in is_X12_thrown (some .int) 0 0 400
theorem C_X12_thrown : np_C yX12_thrown cX12_thrown 1 (some .int) 0 0 0 0 sp_X12_thrown := nq_inC 400 (by decide) (fun X Rt hX hmn hR => so_X12_thrown hX hR)
