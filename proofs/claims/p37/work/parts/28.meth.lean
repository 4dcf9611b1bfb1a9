theorem gw39 : (Jvm.Cond.selects "NotationPress$Upgrade" ({ cls := "NotationPress$Upgrade", name := "addStep", desc := "(III)V" } : Jvm.MethodName) ({ cls := "NotationPress$Upgrade", name := "addStep", desc := "(III)V" } : Jvm.MethodName)) ∈ np_gw := np_gwi 39 (by decide +kernel) rfl
theorem gw40 : (Jvm.Cond.selects "NotationPress$Upgrade" ({ cls := "NotationPress$Upgrade", name := "add", desc := "(II)V" } : Jvm.MethodName) ({ cls := "NotationPress$Upgrade", name := "add", desc := "(II)V" } : Jvm.MethodName)) ∈ np_gw := np_gwi 40 (by decide +kernel) rfl
theorem gw42 : (Jvm.Cond.selects "NotationPress$Upgrade" ({ cls := "NotationPress$Upgrade", name := "isMadeOf", desc := "(LNotationPress$Upgrade;I)Z" } : Jvm.MethodName) ({ cls := "NotationPress$Upgrade", name := "isMadeOf", desc := "(LNotationPress$Upgrade;I)Z" } : Jvm.MethodName)) ∈ np_gw := np_gwi 42 (by decide +kernel) rfl
theorem gw43 : (Jvm.Cond.selects "NotationPress$Upgrade" ({ cls := "NotationPress$Upgrade", name := "start", desc := "(I)I" } : Jvm.MethodName) ({ cls := "NotationPress$Upgrade", name := "start", desc := "(I)I" } : Jvm.MethodName)) ∈ np_gw := np_gwi 43 (by decide +kernel) rfl
theorem gw45 : (Jvm.Cond.selects "NotationPress$Upgrade" ({ cls := "NotationPress$Upgrade", name := "kind", desc := "(I)I" } : Jvm.MethodName) ({ cls := "NotationPress$Upgrade", name := "kind", desc := "(I)I" } : Jvm.MethodName)) ∈ np_gw := np_gwi 45 (by decide +kernel) rfl
theorem gw46 : (Jvm.Cond.selects "NotationPress$Upgrade" ({ cls := "NotationPress$Upgrade", name := "number", desc := "(I)I" } : Jvm.MethodName) ({ cls := "NotationPress$Upgrade", name := "number", desc := "(I)I" } : Jvm.MethodName)) ∈ np_gw := np_gwi 46 (by decide +kernel) rfl
theorem gw47 : (Jvm.Cond.selects "NotationPress$Upgrade" ({ cls := "NotationPress$Upgrade", name := "tells", desc := "(I)Z" } : Jvm.MethodName) ({ cls := "NotationPress$Upgrade", name := "tells", desc := "(I)Z" } : Jvm.MethodName)) ∈ np_gw := np_gwi 47 (by decide +kernel) rfl
theorem gw48 : (Jvm.Cond.selects "NotationPress$Upgrade" ({ cls := "NotationPress$Upgrade", name := "addComposed", desc := "(LNotationPress$Upgrade;LNotationPress$Upgrade;I)V" } : Jvm.MethodName) ({ cls := "NotationPress$Upgrade", name := "addComposed", desc := "(LNotationPress$Upgrade;LNotationPress$Upgrade;I)V" } : Jvm.MethodName)) ∈ np_gw := np_gwi 48 (by decide +kernel) rfl
theorem gw49 : (Jvm.Cond.selects "NotationPress$Upgrade" ({ cls := "NotationPress$Upgrade", name := "addTold", desc := "(LNotationPress$Upgrade;I)V" } : Jvm.MethodName) ({ cls := "NotationPress$Upgrade", name := "addTold", desc := "(LNotationPress$Upgrade;I)V" } : Jvm.MethodName)) ∈ np_gw := np_gwi 49 (by decide +kernel) rfl
theorem gw50 : (Jvm.Cond.selects "NotationPress$Upgrade" ({ cls := "NotationPress$Upgrade", name := "hasQuotientOrRest", desc := "()Z" } : Jvm.MethodName) ({ cls := "NotationPress$Upgrade", name := "hasQuotientOrRest", desc := "()Z" } : Jvm.MethodName)) ∈ np_gw := np_gwi 50 (by decide +kernel) rfl
theorem gw51 : (Jvm.Cond.selects "NotationPress$Upgrade" ({ cls := "NotationPress$Upgrade", name := "addReversed", desc := "(LNotationPress$Upgrade;I)V" } : Jvm.MethodName) ({ cls := "NotationPress$Upgrade", name := "addReversed", desc := "(LNotationPress$Upgrade;I)V" } : Jvm.MethodName)) ∈ np_gw := np_gwi 51 (by decide +kernel) rfl
theorem gw52 : (Jvm.Cond.selects "NotationPress$Upgrade" ({ cls := "NotationPress$Upgrade", name := "findPath", desc := "(LNotationPress$Upgrade;II)I" } : Jvm.MethodName) ({ cls := "NotationPress$Upgrade", name := "findPath", desc := "(LNotationPress$Upgrade;II)I" } : Jvm.MethodName)) ∈ np_gw := np_gwi 52 (by decide +kernel) rfl
theorem gw53 : (Jvm.Cond.selects "NotationPress$Upgrade" ({ cls := "NotationPress$Upgrade", name := "turnToSecond", desc := "(I)I" } : Jvm.MethodName) ({ cls := "NotationPress$Upgrade", name := "turnToSecond", desc := "(I)I" } : Jvm.MethodName)) ∈ np_gw := np_gwi 53 (by decide +kernel) rfl
theorem gw292 : (Jvm.Cond.fieldLinkNest "NotationPress$Upgrade" (49 : Nat) "NotationPress$UpgradeDraft" "kinds" "[I" "NotationPress") ∈ np_nw := np_nwi 292 (by decide +kernel) rfl
theorem gw294 : (Jvm.Cond.fieldLinkNest "NotationPress$Upgrade" (52 : Nat) "NotationPress$UpgradeDraft" "firsts" "[I" "NotationPress") ∈ np_nw := np_nwi 294 (by decide +kernel) rfl
theorem gw296 : (Jvm.Cond.fieldLinkNest "NotationPress$Upgrade" (55 : Nat) "NotationPress$UpgradeDraft" "seconds" "[I" "NotationPress") ∈ np_nw := np_nwi 296 (by decide +kernel) rfl
theorem gw297 : (Jvm.Cond.laysFinal "NotationPress$UpgradeDraft" "NotationPress$UpgradeDraft" "kinds" "[I") ∈ np_gw := np_gwi 297 (by decide +kernel) rfl
theorem gw299 : (Jvm.Cond.laysFinal "NotationPress$UpgradeDraft" "NotationPress$UpgradeDraft" "firsts" "[I") ∈ np_gw := np_gwi 299 (by decide +kernel) rfl
theorem gw301 : (Jvm.Cond.laysFinal "NotationPress$UpgradeDraft" "NotationPress$UpgradeDraft" "seconds" "[I") ∈ np_gw := np_gwi 301 (by decide +kernel) rfl
theorem gw418 : (Jvm.Cond.fieldLink "NotationPress$Upgrade" (9 : Nat) "NotationPress$Upgrade" "kinds" "[I") ∈ np_gw := np_gwi 418 (by decide +kernel) rfl
theorem gw419 : (Jvm.Cond.fieldLink "NotationPress$Upgrade" (15 : Nat) "NotationPress$Upgrade" "numbers" "[I") ∈ np_gw := np_gwi 419 (by decide +kernel) rfl
theorem gw422 : (Jvm.Cond.fieldLink "NotationPress$Upgrade" (24 : Nat) "NotationPress$Upgrade" "pathKinds" "[I") ∈ np_gw := np_gwi 422 (by decide +kernel) rfl
theorem gw423 : (Jvm.Cond.fieldLink "NotationPress$Upgrade" (27 : Nat) "NotationPress$Upgrade" "pathNumbers" "[I") ∈ np_gw := np_gwi 423 (by decide +kernel) rfl
theorem gw424 : (Jvm.Cond.fieldLink "NotationPress$Upgrade" (41 : Nat) "NotationPress$Upgrade" "length" "I") ∈ np_gw := np_gwi 424 (by decide +kernel) rfl
theorem gw1321 : (Jvm.Cond.methodLink "NotationPress$Upgrade" (58 : Nat) ({ cls := "NotationPress$Upgrade", name := "addStep", desc := "(III)V" } : Jvm.MethodName)) ∈ np_gw := np_gwi 1321 (by decide +kernel) rfl
theorem gw1323 : (Jvm.Cond.instanceMethod ({ cls := "NotationPress$Upgrade", name := "addStep", desc := "(III)V" } : Jvm.MethodName)) ∈ np_gw := np_gwi 1323 (by decide +kernel) rfl
theorem gw1324 : (Jvm.Cond.code ({ cls := "NotationPress$Upgrade", name := "addStep", desc := "(III)V" } : Jvm.MethodName) prog_11_method_9_code (4 : Nat) (Option.none : Option Jvm.ClassFile.FieldType)) ∈ np_gw := np_gwi 1324 (by decide +kernel) rfl
theorem gw1325 : (Jvm.Cond.methodLink "NotationPress$Upgrade" (62 : Nat) ({ cls := "NotationPress$Upgrade", name := "add", desc := "(II)V" } : Jvm.MethodName)) ∈ np_gw := np_gwi 1325 (by decide +kernel) rfl
theorem gw1327 : (Jvm.Cond.instanceMethod ({ cls := "NotationPress$Upgrade", name := "add", desc := "(II)V" } : Jvm.MethodName)) ∈ np_gw := np_gwi 1327 (by decide +kernel) rfl
theorem gw1328 : (Jvm.Cond.code ({ cls := "NotationPress$Upgrade", name := "add", desc := "(II)V" } : Jvm.MethodName) prog_11_method_7_code (3 : Nat) (Option.none : Option Jvm.ClassFile.FieldType)) ∈ np_gw := np_gwi 1328 (by decide +kernel) rfl
theorem gw1329 : (Jvm.Cond.methodLinkNest "NotationPress$Upgrade" (45 : Nat) ({ cls := "NotationPress", name := "put", desc := "([III)V" } : Jvm.MethodName) "NotationPress") ∈ np_nw := np_nwi 1329 (by decide +kernel) rfl
theorem gw1356 : (Jvm.Cond.methodLink "NotationPress$Upgrade" (66 : Nat) ({ cls := "NotationPress$Upgrade", name := "isMadeOf", desc := "(LNotationPress$Upgrade;I)Z" } : Jvm.MethodName)) ∈ np_gw := np_gwi 1356 (by decide +kernel) rfl
theorem gw1358 : (Jvm.Cond.instanceMethod ({ cls := "NotationPress$Upgrade", name := "isMadeOf", desc := "(LNotationPress$Upgrade;I)Z" } : Jvm.MethodName)) ∈ np_gw := np_gwi 1358 (by decide +kernel) rfl
theorem gw1359 : (Jvm.Cond.code ({ cls := "NotationPress$Upgrade", name := "isMadeOf", desc := "(LNotationPress$Upgrade;I)Z" } : Jvm.MethodName) prog_11_method_11_code (4 : Nat) (Option.some Jvm.ClassFile.FieldType.boolean)) ∈ np_gw := np_gwi 1359 (by decide +kernel) rfl
theorem gw1360 : (Jvm.Cond.methodLink "NotationPress$Upgrade" (38 : Nat) ({ cls := "NotationPress$Upgrade", name := "start", desc := "(I)I" } : Jvm.MethodName)) ∈ np_gw := np_gwi 1360 (by decide +kernel) rfl
theorem gw1362 : (Jvm.Cond.instanceMethod ({ cls := "NotationPress$Upgrade", name := "start", desc := "(I)I" } : Jvm.MethodName)) ∈ np_gw := np_gwi 1362 (by decide +kernel) rfl
theorem gw1363 : (Jvm.Cond.code ({ cls := "NotationPress$Upgrade", name := "start", desc := "(I)I" } : Jvm.MethodName) prog_11_method_2_code (2 : Nat) (Option.some Jvm.ClassFile.FieldType.int)) ∈ np_gw := np_gwi 1363 (by decide +kernel) rfl
theorem gw1368 : (Jvm.Cond.methodLink "NotationPress$Upgrade" (74 : Nat) ({ cls := "NotationPress$Upgrade", name := "kind", desc := "(I)I" } : Jvm.MethodName)) ∈ np_gw := np_gwi 1368 (by decide +kernel) rfl
theorem gw1370 : (Jvm.Cond.instanceMethod ({ cls := "NotationPress$Upgrade", name := "kind", desc := "(I)I" } : Jvm.MethodName)) ∈ np_gw := np_gwi 1370 (by decide +kernel) rfl
theorem gw1371 : (Jvm.Cond.code ({ cls := "NotationPress$Upgrade", name := "kind", desc := "(I)I" } : Jvm.MethodName) prog_11_method_5_code (2 : Nat) (Option.some Jvm.ClassFile.FieldType.int)) ∈ np_gw := np_gwi 1371 (by decide +kernel) rfl
theorem gw1372 : (Jvm.Cond.methodLink "NotationPress$Upgrade" (77 : Nat) ({ cls := "NotationPress$Upgrade", name := "number", desc := "(I)I" } : Jvm.MethodName)) ∈ np_gw := np_gwi 1372 (by decide +kernel) rfl
theorem gw1374 : (Jvm.Cond.instanceMethod ({ cls := "NotationPress$Upgrade", name := "number", desc := "(I)I" } : Jvm.MethodName)) ∈ np_gw := np_gwi 1374 (by decide +kernel) rfl
theorem gw1375 : (Jvm.Cond.code ({ cls := "NotationPress$Upgrade", name := "number", desc := "(I)I" } : Jvm.MethodName) prog_11_method_6_code (2 : Nat) (Option.some Jvm.ClassFile.FieldType.int)) ∈ np_gw := np_gwi 1375 (by decide +kernel) rfl
theorem gw1376 : (Jvm.Cond.methodLink "NotationPress$Upgrade" (80 : Nat) ({ cls := "NotationPress$Upgrade", name := "tells", desc := "(I)Z" } : Jvm.MethodName)) ∈ np_gw := np_gwi 1376 (by decide +kernel) rfl
theorem gw1378 : (Jvm.Cond.instanceMethod ({ cls := "NotationPress$Upgrade", name := "tells", desc := "(I)Z" } : Jvm.MethodName)) ∈ np_gw := np_gwi 1378 (by decide +kernel) rfl
theorem gw1379 : (Jvm.Cond.code ({ cls := "NotationPress$Upgrade", name := "tells", desc := "(I)Z" } : Jvm.MethodName) prog_11_method_4_code (2 : Nat) (Option.some Jvm.ClassFile.FieldType.boolean)) ∈ np_gw := np_gwi 1379 (by decide +kernel) rfl
theorem gw1380 : (Jvm.Cond.methodLink "NotationPress$Upgrade" (70 : Nat) ({ cls := "NotationPress$Upgrade", name := "addComposed", desc := "(LNotationPress$Upgrade;LNotationPress$Upgrade;I)V" } : Jvm.MethodName)) ∈ np_gw := np_gwi 1380 (by decide +kernel) rfl
theorem gw1382 : (Jvm.Cond.instanceMethod ({ cls := "NotationPress$Upgrade", name := "addComposed", desc := "(LNotationPress$Upgrade;LNotationPress$Upgrade;I)V" } : Jvm.MethodName)) ∈ np_gw := np_gwi 1382 (by decide +kernel) rfl
theorem gw1383 : (Jvm.Cond.code ({ cls := "NotationPress$Upgrade", name := "addComposed", desc := "(LNotationPress$Upgrade;LNotationPress$Upgrade;I)V" } : Jvm.MethodName) prog_11_method_12_code (5 : Nat) (Option.none : Option Jvm.ClassFile.FieldType)) ∈ np_gw := np_gwi 1383 (by decide +kernel) rfl
theorem gw1384 : (Jvm.Cond.methodLink "NotationPress$Upgrade" (84 : Nat) ({ cls := "NotationPress$Upgrade", name := "addTold", desc := "(LNotationPress$Upgrade;I)V" } : Jvm.MethodName)) ∈ np_gw := np_gwi 1384 (by decide +kernel) rfl
theorem gw1386 : (Jvm.Cond.instanceMethod ({ cls := "NotationPress$Upgrade", name := "addTold", desc := "(LNotationPress$Upgrade;I)V" } : Jvm.MethodName)) ∈ np_gw := np_gwi 1386 (by decide +kernel) rfl
theorem gw1387 : (Jvm.Cond.code ({ cls := "NotationPress$Upgrade", name := "addTold", desc := "(LNotationPress$Upgrade;I)V" } : Jvm.MethodName) prog_11_method_13_code (4 : Nat) (Option.none : Option Jvm.ClassFile.FieldType)) ∈ np_gw := np_gwi 1387 (by decide +kernel) rfl
theorem gw1431 : (Jvm.Cond.methodLink "NotationPress$Upgrade" (88 : Nat) ({ cls := "NotationPress$Upgrade", name := "hasQuotientOrRest", desc := "()Z" } : Jvm.MethodName)) ∈ np_gw := np_gwi 1431 (by decide +kernel) rfl
theorem gw1433 : (Jvm.Cond.instanceMethod ({ cls := "NotationPress$Upgrade", name := "hasQuotientOrRest", desc := "()Z" } : Jvm.MethodName)) ∈ np_gw := np_gwi 1433 (by decide +kernel) rfl
theorem gw1434 : (Jvm.Cond.code ({ cls := "NotationPress$Upgrade", name := "hasQuotientOrRest", desc := "()Z" } : Jvm.MethodName) prog_11_method_15_code (2 : Nat) (Option.some Jvm.ClassFile.FieldType.boolean)) ∈ np_gw := np_gwi 1434 (by decide +kernel) rfl
theorem gw1435 : (Jvm.Cond.methodLink "NotationPress$Upgrade" (92 : Nat) ({ cls := "NotationPress$Upgrade", name := "addReversed", desc := "(LNotationPress$Upgrade;I)V" } : Jvm.MethodName)) ∈ np_gw := np_gwi 1435 (by decide +kernel) rfl
theorem gw1437 : (Jvm.Cond.instanceMethod ({ cls := "NotationPress$Upgrade", name := "addReversed", desc := "(LNotationPress$Upgrade;I)V" } : Jvm.MethodName)) ∈ np_gw := np_gwi 1437 (by decide +kernel) rfl
theorem gw1438 : (Jvm.Cond.code ({ cls := "NotationPress$Upgrade", name := "addReversed", desc := "(LNotationPress$Upgrade;I)V" } : Jvm.MethodName) prog_11_method_16_code (6 : Nat) (Option.none : Option Jvm.ClassFile.FieldType)) ∈ np_gw := np_gwi 1438 (by decide +kernel) rfl
theorem gw1439 : (Jvm.Cond.methodLink "NotationPress$Upgrade" (95 : Nat) ({ cls := "NotationPress$Upgrade", name := "findPath", desc := "(LNotationPress$Upgrade;II)I" } : Jvm.MethodName)) ∈ np_gw := np_gwi 1439 (by decide +kernel) rfl
theorem gw1441 : (Jvm.Cond.instanceMethod ({ cls := "NotationPress$Upgrade", name := "findPath", desc := "(LNotationPress$Upgrade;II)I" } : Jvm.MethodName)) ∈ np_gw := np_gwi 1441 (by decide +kernel) rfl
theorem gw1442 : (Jvm.Cond.code ({ cls := "NotationPress$Upgrade", name := "findPath", desc := "(LNotationPress$Upgrade;II)I" } : Jvm.MethodName) prog_11_method_17_code (8 : Nat) (Option.some Jvm.ClassFile.FieldType.int)) ∈ np_gw := np_gwi 1442 (by decide +kernel) rfl
theorem gw1443 : (Jvm.Cond.methodLink "NotationPress$Upgrade" (102 : Nat) ({ cls := "NotationPress$Upgrade", name := "turnToSecond", desc := "(I)I" } : Jvm.MethodName)) ∈ np_gw := np_gwi 1443 (by decide +kernel) rfl
theorem gw1445 : (Jvm.Cond.instanceMethod ({ cls := "NotationPress$Upgrade", name := "turnToSecond", desc := "(I)I" } : Jvm.MethodName)) ∈ np_gw := np_gwi 1445 (by decide +kernel) rfl
theorem gw1446 : (Jvm.Cond.code ({ cls := "NotationPress$Upgrade", name := "turnToSecond", desc := "(I)I" } : Jvm.MethodName) prog_11_method_18_code (3 : Nat) (Option.some Jvm.ClassFile.FieldType.int)) ∈ np_gw := np_gwi 1446 (by decide +kernel) rfl
theorem gw1447 : (Jvm.Cond.methodLink "NotationPress$Upgrade" (99 : Nat) ({ cls := "NotationPress$Upgrade", name := "reversedKind", desc := "(I)I" } : Jvm.MethodName)) ∈ np_gw := np_gwi 1447 (by decide +kernel) rfl
theorem gw1448 : (Jvm.Cond.static ({ cls := "NotationPress$Upgrade", name := "reversedKind", desc := "(I)I" } : Jvm.MethodName)) ∈ np_gw := np_gwi 1448 (by decide +kernel) rfl
theorem gw1449 : (Jvm.Cond.code ({ cls := "NotationPress$Upgrade", name := "reversedKind", desc := "(I)I" } : Jvm.MethodName) prog_11_method_19_code (1 : Nat) (Option.some Jvm.ClassFile.FieldType.int)) ∈ np_gw := np_gwi 1449 (by decide +kernel) rfl
set_option maxRecDepth 20000 in
theorem guX10 : ∀ w ∈ u_ws RX10 TX10 3, w ∈ np_gw := by
  show ∀ w ∈ [(Jvm.Cond.laysFinal "NotationPress$UpgradeDraft" "NotationPress$UpgradeDraft" "kinds" "[I"), (Jvm.Cond.laysFinal "NotationPress$UpgradeDraft" "NotationPress$UpgradeDraft" "firsts" "[I"), (Jvm.Cond.laysFinal "NotationPress$UpgradeDraft" "NotationPress$UpgradeDraft" "seconds" "[I")], w ∈ np_gw
  exact List.forall_mem_cons.mpr ⟨gw297, List.forall_mem_cons.mpr ⟨gw299, List.forall_mem_cons.mpr ⟨gw301, fun _ h => nomatch h⟩⟩⟩
theorem ndX10 : ∀ j, j < 3 → defaultValue (tyX10 j) = vp_V [.null, .null, .null] j := by decide +kernel
theorem nfX10 : ∀ v ∈ ([.null, .null, .null] : List Value), ∀ ad : Nat → Nat, np_v ad v = v := by
  intro v hv ad
  simp only [List.mem_cons, List.not_mem_nil, or_false] at hv
  rcases hv with rfl | rfl | rfl <;> rfl
theorem dX9_tells_0 : decode cX9_tells 0 = .ok (.aload_n 0, 1) := by decide +kernel
theorem dX9_tells_1 : decode cX9_tells 1 = .ok (.iload_n 1, 1) := by decide +kernel
theorem dX9_tells_2 : decode cX9_tells 2 = .ok (.invokevirtual 30, 3) := by decide +kernel
theorem dX9_tells_5 : decode cX9_tells 5 = .ok (.aload_n 0, 1) := by decide +kernel
theorem dX9_tells_6 : decode cX9_tells 6 = .ok (.iload_n 1, 1) := by decide +kernel
theorem dX9_tells_7 : decode cX9_tells 7 = .ok (.invokevirtual 38, 3) := by decide +kernel
theorem dX9_tells_10 : decode cX9_tells 10 = .ok (.if_icmp .le 7, 3) := by decide +kernel
theorem dX9_tells_13 : decode cX9_tells 13 = .ok (.iconst 1, 1) := by decide +kernel
theorem dX9_tells_14 : decode cX9_tells 14 = .ok (.goto 4, 3) := by decide +kernel
theorem dX9_tells_17 : decode cX9_tells 17 = .ok (.iconst 0, 1) := by decide +kernel
theorem dX9_tells_18 : decode cX9_tells 18 = .ok (.ireturn, 1) := by decide +kernel
def is_X9_tells (Rt : np_Rt) : List (Nat × np_Op) := [(0, np_ald 1 0), (1, np_ild 1 1), (2, nw_callV 9 2 sp_X9_end 2 0 0 0 0), (5, np_ald 1 0), (6, np_ild 1 1), (7, nw_callV 9 2 sp_X9_start 2 0 0 0 0), (10, nq_ic (fun x y => x ≤ y) 17), (13, np_push 1 (.int 1)), (14, np_goto 18), (17, np_push 1 (.int 0)), (18, np_ret Rt)]
set_option maxRecDepth 20000 in
theorem so_X9_tells {X : np_Ctx} {Rt : np_Rt} (hX : np_ok RX9 cX9_tells 2 3 64 0 0 .ireturn X) (hR : ∀ st w ce sl, Rt st w ce sl → X.2.2.1 st w ce sl) : ∀ q ∈ is_X9_tells Rt, np_S X q.1 q.2 :=
  List.forall_mem_cons.mpr ⟨np_s_aload_n hX dX9_tells_0 rfl, List.forall_mem_cons.mpr ⟨np_s_iload_n hX dX9_tells_1 rfl, List.forall_mem_cons.mpr ⟨np_S.mono (op := np_callV 9 2 sp_X9_end 2 0 0 0 0) (np_s_callV hX C_X9_end dX9_tells_2 (q := (RX9, TX9, 7)) rfl rfl gw1367 gw74 gw1364 gw1366 gw44 ⟨by decide, by decide, by decide⟩ (by decide) (by decide)) nw_callV_le, List.forall_mem_cons.mpr ⟨np_s_aload_n hX dX9_tells_5 rfl, List.forall_mem_cons.mpr ⟨np_s_iload_n hX dX9_tells_6 rfl, List.forall_mem_cons.mpr ⟨np_S.mono (op := np_callV 9 2 sp_X9_start 2 0 0 0 0) (np_s_callV hX C_X9_start dX9_tells_7 (q := (RX9, TX9, 7)) rfl rfl gw1363 gw74 gw1360 gw1362 gw43 ⟨by decide, by decide, by decide⟩ (by decide) (by decide)) nw_callV_le, List.forall_mem_cons.mpr ⟨np_S.mono (op := np_ic (fun x y => x ≤ y) 17) (np_s_icmp_le hX dX9_tells_10 (by decide)) nq_ic_le, List.forall_mem_cons.mpr ⟨np_s_iconst hX dX9_tells_13 (by decide), List.forall_mem_cons.mpr ⟨np_s_goto hX dX9_tells_14 (by decide), List.forall_mem_cons.mpr ⟨np_s_iconst hX dX9_tells_17 (by decide), List.forall_mem_cons.mpr ⟨np_S.mono (op := np_ret X.2.2.1) (np_s_ret hX dX9_tells_18) (nq_ret_le hR), fun _ h => nomatch h⟩⟩⟩⟩⟩⟩⟩⟩⟩⟩⟩
noncomputable def m_X9_tells (S : pw_S) (i0 : Nat) (x1 : Int32) : pw_R Int32 :=
 pw_b (m_X9_end S i0 x1) fun S1 r4 =>
 pw_b (m_X9_start S1 i0 x1) fun S6 r9 =>
 if r4 ≤ r9 then
 (some (S6, 0))
 else
 (some (S6, 1))
def sp_X9_tells : np_Sp := fun vs w Q => ∃ (q : Nat) (S : pw_S) (i0 : Nat) (x1 : Int32), vs = [.ref (pw_pl 57 i0), .int x1] ∧ pw_ok q 57 i0 = true ∧ pw_W q w S ∧ pw_p (m_X9_tells S i0 x1) (fun S' r => ∀ f', pw_W q (w.1, f') S' → Q (some (.int r)) (w.1, f'))
set_option maxRecDepth 100000 in
set_option maxHeartbeats 8000000 in
theorem C_X9_tells : np_C yX9_tells cX9_tells 2 (some .boolean) 3 64 0 0 sp_X9_tells := by
  refine np_of (by decide) ?_
  intro X vs w Q hsp hX hmn hRt hlt
  obtain ⟨q, S, i0, x1, rfl, hi0, hW, h⟩ := hsp
  obtain ⟨n, f⟩ := w
  unfold m_X9_tells at h
  have hR : ∀ st w ce sl, np_rt (some .boolean) 0 0 Q st w ce sl → X.2.2.1 st w ce sl := fun _ _ _ _ h => by rw [hRt]; exact h
  refine np_soundW (so_X9_tells hX hR) [] 400 0 _ _ _ _ _ ?_
  conv => whnf
  refine np_rd_i (hW.g hi0) ?_
  conv => whnf
  refine ⟨q, S, i0, x1, rfl, hi0, hW, pw_bd h (fun S1 r4 h f2 hW3 => ?_)⟩
  conv => whnf
  refine np_rd_i (hW3.g hi0) ?_
  conv => whnf
  refine ⟨q, S1, i0, x1, rfl, hi0, hW3, pw_bd h (fun S6 r9 h f7 hW8 => ?_)⟩
  conv => whnf
  refine pw_br h (fun _ h => ?_) (fun _ h => ?_)
  · conv => whnf
    exact ⟨Nat.le_of_ble_eq_true rfl, Nat.le_of_ble_eq_true rfl, ⟨_, rfl, by decide⟩, _, fun _ _ h9 => h9, pw_ps h _ hW8⟩
  · conv => whnf
    exact ⟨Nat.le_of_ble_eq_true rfl, Nat.le_of_ble_eq_true rfl, ⟨_, rfl, by decide⟩, _, fun _ _ h9 => h9, pw_ps h _ hW8⟩
theorem dX9_kind_0 : decode cX9_kind 0 = .ok (.iload_n 1, 1) := by decide +kernel
theorem dX9_kind_1 : decode cX9_kind 1 = .ok (.aload_n 0, 1) := by decide +kernel
theorem dX9_kind_2 : decode cX9_kind 2 = .ok (.getfield 41, 3) := by decide +kernel
theorem dX9_kind_5 : decode cX9_kind 5 = .ok (.if_icmp .ge 15, 3) := by decide +kernel
theorem dX9_kind_8 : decode cX9_kind 8 = .ok (.aload_n 0, 1) := by decide +kernel
theorem dX9_kind_9 : decode cX9_kind 9 = .ok (.getfield 9, 3) := by decide +kernel
theorem dX9_kind_12 : decode cX9_kind 12 = .ok (.iload_n 1, 1) := by decide +kernel
theorem dX9_kind_13 : decode cX9_kind 13 = .ok (.iconst (-1), 1) := by decide +kernel
theorem dX9_kind_14 : decode cX9_kind 14 = .ok (.invokestatic 34, 3) := by decide +kernel
theorem dX9_kind_17 : decode cX9_kind 17 = .ok (.goto 4, 3) := by decide +kernel
theorem dX9_kind_20 : decode cX9_kind 20 = .ok (.iconst (-1), 1) := by decide +kernel
theorem dX9_kind_21 : decode cX9_kind 21 = .ok (.ireturn, 1) := by decide +kernel
def is_X9_kind (Rt : np_Rt) : List (Nat × np_Op) := [(0, np_ild 1 1), (1, np_ald 1 0), (2, nw_getf 9 6), (5, nq_ic (fun x y => y ≤ x) 20), (8, np_ald 1 0), (9, nw_getf 9 0), (12, np_ild 1 1), (13, np_push 1 (.int (-1))), (14, nq_call 3 sp_X11_at 3 0 0 0 0), (17, np_goto 21), (20, np_push 1 (.int (-1))), (21, np_ret Rt)]
set_option maxRecDepth 20000 in
theorem so_X9_kind {X : np_Ctx} {Rt : np_Rt} (hX : np_ok RX9 cX9_kind 2 1 22 0 0 .ireturn X) (hR : ∀ st w ce sl, Rt st w ce sl → X.2.2.1 st w ce sl) : ∀ q ∈ is_X9_kind Rt, np_S X q.1 q.2 :=
  List.forall_mem_cons.mpr ⟨np_s_iload_n hX dX9_kind_0 rfl, List.forall_mem_cons.mpr ⟨np_s_aload_n hX dX9_kind_1 rfl, List.forall_mem_cons.mpr ⟨np_S.mono (op := np_getf 9 6) (np_s_getf hX dX9_kind_2 (C := RX9) (T := TX9) (N := 7) rfl guX9 (by decide) gw424) nw_getf_le, List.forall_mem_cons.mpr ⟨np_S.mono (op := np_ic (fun x y => y ≤ x) 20) (np_s_icmp_ge hX dX9_kind_5 (by decide)) nq_ic_le, List.forall_mem_cons.mpr ⟨np_s_aload_n hX dX9_kind_8 rfl, List.forall_mem_cons.mpr ⟨np_S.mono (op := np_getf 9 0) (np_s_getf hX dX9_kind_9 (C := RX9) (T := TX9) (N := 7) rfl guX9 (by decide) gw418) nw_getf_le, List.forall_mem_cons.mpr ⟨np_s_iload_n hX dX9_kind_12 rfl, List.forall_mem_cons.mpr ⟨np_s_iconst hX dX9_kind_13 (by decide), List.forall_mem_cons.mpr ⟨np_S.mono (op := np_call 3 sp_X11_at 3 0 0 0 0) (np_s_callSN hX C_X11_at dX9_kind_14 gw653 gw63 gw1320 gw652 ⟨by decide, by decide, by decide⟩ (by decide) (by decide)) nq_call_le, List.forall_mem_cons.mpr ⟨np_s_goto hX dX9_kind_17 (by decide), List.forall_mem_cons.mpr ⟨np_s_iconst hX dX9_kind_20 (by decide), List.forall_mem_cons.mpr ⟨np_S.mono (op := np_ret X.2.2.1) (np_s_ret hX dX9_kind_21) (nq_ret_le hR), fun _ h => nomatch h⟩⟩⟩⟩⟩⟩⟩⟩⟩⟩⟩⟩
noncomputable def m_X9_kind (S : pw_S) (i0 : Nat) (x1 : Int32) : pw_R Int32 :=
 if (S 57 i0 6) ≤ x1 then
 (some (S, (-1)))
 else
 (pw_b (m_X11_at S 22 i0 x1 (-1)) fun S1 r4 =>
 some (S1, r4))
def sp_X9_kind : np_Sp := fun vs w Q => ∃ (q : Nat) (S : pw_S) (i0 : Nat) (x1 : Int32), vs = [.ref (pw_pl 57 i0), .int x1] ∧ pw_ok q 57 i0 = true ∧ pw_W q w S ∧ pw_p (m_X9_kind S i0 x1) (fun S' r => ∀ f', pw_W q (w.1, f') S' → Q (some (.int r)) (w.1, f'))
set_option maxRecDepth 100000 in
set_option maxHeartbeats 8000000 in
theorem C_X9_kind : np_C yX9_kind cX9_kind 2 (some .int) 1 22 0 0 sp_X9_kind := by
  refine np_of (by decide) ?_
  intro X vs w Q hsp hX hmn hRt hlt
  obtain ⟨q, S, i0, x1, rfl, hi0, hW, h⟩ := hsp
  obtain ⟨n, f⟩ := w
  unfold m_X9_kind at h
  have hR : ∀ st w ce sl, np_rt (some .int) 0 0 Q st w ce sl → X.2.2.1 st w ce sl := fun _ _ _ _ h => by rw [hRt]; exact h
  refine np_soundW (so_X9_kind hX hR) [] 400 0 _ _ _ _ _ ?_
  conv => whnf
  refine np_rd_i (hW.g hi0) ?_
  conv => whnf
  refine pw_br h (fun _ h => ?_) (fun _ h => ?_)
  · conv => whnf
    exact ⟨Nat.le_of_ble_eq_true rfl, Nat.le_of_ble_eq_true rfl, ⟨_, rfl⟩, _, fun _ _ h9 => h9, pw_ps h _ hW⟩
  · conv => whnf
    refine np_rd_i (hW.g hi0) ?_
    conv => whnf
    refine ⟨q, S, 22, i0, x1, (-1), rfl, rfl, hi0, hW, pw_bd h (fun S1 r4 h f2 hW3 => ?_)⟩
    conv => whnf
    exact ⟨Nat.le_of_ble_eq_true rfl, Nat.le_of_ble_eq_true rfl, ⟨_, rfl⟩, _, fun _ _ h9 => h9, pw_ps h _ hW3⟩
theorem dX9_number_0 : decode cX9_number 0 = .ok (.aload_n 0, 1) := by decide +kernel
theorem dX9_number_1 : decode cX9_number 1 = .ok (.getfield 15, 3) := by decide +kernel
theorem dX9_number_4 : decode cX9_number 4 = .ok (.iload_n 1, 1) := by decide +kernel
theorem dX9_number_5 : decode cX9_number 5 = .ok (.iconst 0, 1) := by decide +kernel
theorem dX9_number_6 : decode cX9_number 6 = .ok (.invokestatic 34, 3) := by decide +kernel
theorem dX9_number_9 : decode cX9_number 9 = .ok (.ireturn, 1) := by decide +kernel
def is_X9_number (Rt : np_Rt) : List (Nat × np_Op) := [(0, np_ald 1 0), (1, nw_getf 9 1), (4, np_ild 1 1), (5, np_push 1 (.int 0)), (6, nq_call 3 sp_X11_at 3 0 0 0 0), (9, np_ret Rt)]
set_option maxRecDepth 20000 in
theorem so_X9_number {X : np_Ctx} {Rt : np_Rt} (hX : np_ok RX9 cX9_number 2 1 22 0 0 .ireturn X) (hR : ∀ st w ce sl, Rt st w ce sl → X.2.2.1 st w ce sl) : ∀ q ∈ is_X9_number Rt, np_S X q.1 q.2 :=
  List.forall_mem_cons.mpr ⟨np_s_aload_n hX dX9_number_0 rfl, List.forall_mem_cons.mpr ⟨np_S.mono (op := np_getf 9 1) (np_s_getf hX dX9_number_1 (C := RX9) (T := TX9) (N := 7) rfl guX9 (by decide) gw419) nw_getf_le, List.forall_mem_cons.mpr ⟨np_s_iload_n hX dX9_number_4 rfl, List.forall_mem_cons.mpr ⟨np_s_iconst hX dX9_number_5 (by decide), List.forall_mem_cons.mpr ⟨np_S.mono (op := np_call 3 sp_X11_at 3 0 0 0 0) (np_s_callSN hX C_X11_at dX9_number_6 gw653 gw63 gw1320 gw652 ⟨by decide, by decide, by decide⟩ (by decide) (by decide)) nq_call_le, List.forall_mem_cons.mpr ⟨np_S.mono (op := np_ret X.2.2.1) (np_s_ret hX dX9_number_9) (nq_ret_le hR), fun _ h => nomatch h⟩⟩⟩⟩⟩⟩
noncomputable def m_X9_number (S : pw_S) (i0 : Nat) (x1 : Int32) : pw_R Int32 :=
 pw_b (m_X11_at S 23 i0 x1 0) fun S1 r4 =>
 some (S1, r4)
def sp_X9_number : np_Sp := fun vs w Q => ∃ (q : Nat) (S : pw_S) (i0 : Nat) (x1 : Int32), vs = [.ref (pw_pl 57 i0), .int x1] ∧ pw_ok q 57 i0 = true ∧ pw_W q w S ∧ pw_p (m_X9_number S i0 x1) (fun S' r => ∀ f', pw_W q (w.1, f') S' → Q (some (.int r)) (w.1, f'))
set_option maxRecDepth 100000 in
set_option maxHeartbeats 8000000 in
theorem C_X9_number : np_C yX9_number cX9_number 2 (some .int) 1 22 0 0 sp_X9_number := by
  refine np_of (by decide) ?_
  intro X vs w Q hsp hX hmn hRt hlt
  obtain ⟨q, S, i0, x1, rfl, hi0, hW, h⟩ := hsp
  obtain ⟨n, f⟩ := w
  unfold m_X9_number at h
  have hR : ∀ st w ce sl, np_rt (some .int) 0 0 Q st w ce sl → X.2.2.1 st w ce sl := fun _ _ _ _ h => by rw [hRt]; exact h
  refine np_soundW (so_X9_number hX hR) [] 400 0 _ _ _ _ _ ?_
  conv => whnf
  refine np_rd_i (hW.g hi0) ?_
  conv => whnf
  refine ⟨q, S, 23, i0, x1, 0, rfl, rfl, hi0, hW, pw_bd h (fun S1 r4 h f2 hW3 => ?_)⟩
  conv => whnf
  exact ⟨Nat.le_of_ble_eq_true rfl, Nat.le_of_ble_eq_true rfl, ⟨_, rfl⟩, _, fun _ _ h9 => h9, pw_ps h _ hW3⟩
theorem dX9_add_0 : decode cX9_add 0 = .ok (.aload_n 0, 1) := by decide +kernel
theorem dX9_add_1 : decode cX9_add 1 = .ok (.getfield 9, 3) := by decide +kernel
theorem dX9_add_4 : decode cX9_add 4 = .ok (.aload_n 0, 1) := by decide +kernel
theorem dX9_add_5 : decode cX9_add 5 = .ok (.getfield 41, 3) := by decide +kernel
theorem dX9_add_8 : decode cX9_add 8 = .ok (.iload_n 1, 1) := by decide +kernel
theorem dX9_add_9 : decode cX9_add 9 = .ok (.invokestatic 45, 3) := by decide +kernel
theorem dX9_add_12 : decode cX9_add 12 = .ok (.aload_n 0, 1) := by decide +kernel
theorem dX9_add_13 : decode cX9_add 13 = .ok (.getfield 15, 3) := by decide +kernel
theorem dX9_add_16 : decode cX9_add 16 = .ok (.aload_n 0, 1) := by decide +kernel
theorem dX9_add_17 : decode cX9_add 17 = .ok (.getfield 41, 3) := by decide +kernel
theorem dX9_add_20 : decode cX9_add 20 = .ok (.iload_n 2, 1) := by decide +kernel
theorem dX9_add_21 : decode cX9_add 21 = .ok (.invokestatic 45, 3) := by decide +kernel
theorem dX9_add_24 : decode cX9_add 24 = .ok (.aload_n 0, 1) := by decide +kernel
theorem dX9_add_25 : decode cX9_add 25 = .ok (.dup, 1) := by decide +kernel
theorem dX9_add_26 : decode cX9_add 26 = .ok (.getfield 41, 3) := by decide +kernel
theorem dX9_add_29 : decode cX9_add 29 = .ok (.iconst 1, 1) := by decide +kernel
theorem dX9_add_30 : decode cX9_add 30 = .ok (.iadd, 1) := by decide +kernel
theorem dX9_add_31 : decode cX9_add 31 = .ok (.putfield 41, 3) := by decide +kernel
theorem dX9_add_34 : decode cX9_add 34 = .ok (.return_, 1) := by decide +kernel
def is_X9_add (Rt : np_Rt) : List (Nat × np_Op) := [(0, np_ald 1 0), (1, nw_getf 9 0), (4, np_ald 1 0), (5, nw_getf 9 6), (8, np_ild 1 1), (9, nq_call 3 sp_X11_put 3 0 0 0 0), (12, np_ald 1 0), (13, nw_getf 9 1), (16, np_ald 1 0), (17, nw_getf 9 6), (20, np_ild 1 2), (21, nq_call 3 sp_X11_put 3 0 0 0 0), (24, np_ald 1 0), (25, nq_dup), (26, nw_getf 9 6), (29, np_push 1 (.int 1)), (30, np_ib (fun x y => x + y)), (31, nw_putf 9 6 (.int)), (34, np_ret Rt)]
set_option maxRecDepth 20000 in
theorem so_X9_add {X : np_Ctx} {Rt : np_Rt} (hX : np_ok RX9 cX9_add 3 1 22 0 0 .return_ X) (hR : ∀ st w ce sl, Rt st w ce sl → X.2.2.1 st w ce sl) : ∀ q ∈ is_X9_add Rt, np_S X q.1 q.2 :=
  List.forall_mem_cons.mpr ⟨np_s_aload_n hX dX9_add_0 rfl, List.forall_mem_cons.mpr ⟨np_S.mono (op := np_getf 9 0) (np_s_getf hX dX9_add_1 (C := RX9) (T := TX9) (N := 7) rfl guX9 (by decide) gw418) nw_getf_le, List.forall_mem_cons.mpr ⟨np_s_aload_n hX dX9_add_4 rfl, List.forall_mem_cons.mpr ⟨np_S.mono (op := np_getf 9 6) (np_s_getf hX dX9_add_5 (C := RX9) (T := TX9) (N := 7) rfl guX9 (by decide) gw424) nw_getf_le, List.forall_mem_cons.mpr ⟨np_s_iload_n hX dX9_add_8 rfl, List.forall_mem_cons.mpr ⟨np_S.mono (op := np_call 3 sp_X11_put 3 0 0 0 0) (np_s_callSN hX C_X11_put dX9_add_9 gw632 gw63 gw1329 gw631 ⟨by decide, by decide, by decide⟩ (by decide) (by decide)) nq_call_le, List.forall_mem_cons.mpr ⟨np_s_aload_n hX dX9_add_12 rfl, List.forall_mem_cons.mpr ⟨np_S.mono (op := np_getf 9 1) (np_s_getf hX dX9_add_13 (C := RX9) (T := TX9) (N := 7) rfl guX9 (by decide) gw419) nw_getf_le, List.forall_mem_cons.mpr ⟨np_s_aload_n hX dX9_add_16 rfl, List.forall_mem_cons.mpr ⟨np_S.mono (op := np_getf 9 6) (np_s_getf hX dX9_add_17 (C := RX9) (T := TX9) (N := 7) rfl guX9 (by decide) gw424) nw_getf_le, List.forall_mem_cons.mpr ⟨np_s_iload_n hX dX9_add_20 rfl, List.forall_mem_cons.mpr ⟨np_S.mono (op := np_call 3 sp_X11_put 3 0 0 0 0) (np_s_callSN hX C_X11_put dX9_add_21 gw632 gw63 gw1329 gw631 ⟨by decide, by decide, by decide⟩ (by decide) (by decide)) nq_call_le, List.forall_mem_cons.mpr ⟨np_s_aload_n hX dX9_add_24 rfl, List.forall_mem_cons.mpr ⟨np_S.mono (op := np_dup) (np_s_dup hX dX9_add_25) nq_dup_le, List.forall_mem_cons.mpr ⟨np_S.mono (op := np_getf 9 6) (np_s_getf hX dX9_add_26 (C := RX9) (T := TX9) (N := 7) rfl guX9 (by decide) gw424) nw_getf_le, List.forall_mem_cons.mpr ⟨np_s_iconst hX dX9_add_29 (by decide), List.forall_mem_cons.mpr ⟨np_s_iadd hX dX9_add_30, List.forall_mem_cons.mpr ⟨np_S.mono (op := np_putf 9 6 (.int)) (np_s_putf hX dX9_add_31 (C := RX9) (T := TX9) (N := 7) (ty0 := tyX9) rfl guX9 tyX9_ok nmX9 (by decide) gw424 rfl rfl) nw_putf_le, List.forall_mem_cons.mpr ⟨np_S.mono (op := np_ret X.2.2.1) (np_s_ret hX dX9_add_34) (nq_ret_le hR), fun _ h => nomatch h⟩⟩⟩⟩⟩⟩⟩⟩⟩⟩⟩⟩⟩⟩⟩⟩⟩⟩⟩
noncomputable def m_X9_add (S : pw_S) (i0 : Nat) (x1 : Int32) (x2 : Int32) : pw_R Unit :=
 pw_b (m_X11_put S 22 i0 (S 57 i0 6) x1) fun S1 r4 =>
 pw_b (m_X11_put S1 23 i0 (S1 57 i0 6) x2) fun S6 r9 =>
 pw_l (pw_up S6 57 i0 (upd (S6 57 i0) 6 ((S6 57 i0 6) + 1))) fun S11 =>
 some (S11, ())
def sp_X9_add : np_Sp := fun vs w Q => ∃ (q : Nat) (S : pw_S) (i0 : Nat) (x1 : Int32) (x2 : Int32), vs = [.ref (pw_pl 57 i0), .int x1, .int x2] ∧ pw_ok q 57 i0 = true ∧ pw_W q w S ∧ pw_p (m_X9_add S i0 x1 x2) (fun S' r => ∀ f', pw_W q (w.1, f') S' → Q none (w.1, f'))
set_option maxRecDepth 100000 in
set_option maxHeartbeats 8000000 in
theorem C_X9_add : np_C yX9_add cX9_add 3 none 1 22 0 0 sp_X9_add := by
  refine np_of (by decide) ?_
  intro X vs w Q hsp hX hmn hRt hlt
  obtain ⟨q, S, i0, x1, x2, rfl, hi0, hW, h⟩ := hsp
  obtain ⟨n, f⟩ := w
  unfold m_X9_add at h
  have hR : ∀ st w ce sl, np_rt none 0 0 Q st w ce sl → X.2.2.1 st w ce sl := fun _ _ _ _ h => by rw [hRt]; exact h
  refine np_soundW (so_X9_add hX hR) [] 400 0 _ _ _ _ _ ?_
  conv => whnf
  refine np_rd_i (hW.g hi0) ?_
  conv => whnf
  refine np_rd_i (hW.g hi0) ?_
  conv => whnf
  refine ⟨q, S, 22, i0, (S 57 i0 6), x1, rfl, rfl, hi0, hW, pw_bd h (fun S1 r4 h f2 hW3 => ?_)⟩
  conv => whnf
  refine np_rd_i (hW3.g hi0) ?_
  conv => whnf
  refine np_rd_i (hW3.g hi0) ?_
  conv => whnf
  refine ⟨q, S1, 23, i0, (S1 57 i0 6), x2, rfl, rfl, hi0, hW3, pw_bd h (fun S6 r9 h f7 hW8 => ?_)⟩
  conv => whnf
  refine np_rd_i (hW8.g hi0) ?_
  conv => whnf
  refine np_rd_i (hW8.g hi0) ?_
  conv => whnf
  refine pw_wr (a := 57) (i := i0) (d := upd (S6 57 i0) 6 ((S6 57 i0 6) + 1)) hW8 hi0 rfl h (fun S11 f12 hW13 h => ?_)
  conv => whnf
  exact ⟨Nat.le_of_ble_eq_true rfl, Nat.le_of_ble_eq_true rfl, rfl, _, fun _ _ h9 => h9, pw_ps h _ hW13⟩
theorem dX9_addStep_0 : decode cX9_addStep 0 = .ok (.iload_n 1, 1) := by decide +kernel
theorem dX9_addStep_1 : decode cX9_addStep 1 = .ok (.iconst (-1), 1) := by decide +kernel
theorem dX9_addStep_2 : decode cX9_addStep 2 = .ok (.if_icmp .ne 4, 3) := by decide +kernel
theorem dX9_addStep_5 : decode cX9_addStep 5 = .ok (.return_, 1) := by decide +kernel
theorem dX9_addStep_6 : decode cX9_addStep 6 = .ok (.iload_n 1, 1) := by decide +kernel
theorem dX9_addStep_7 : decode cX9_addStep 7 = .ok (.iconst 2, 1) := by decide +kernel
theorem dX9_addStep_8 : decode cX9_addStep 8 = .ok (.if_icmp .eq 8, 3) := by decide +kernel
theorem dX9_addStep_11 : decode cX9_addStep 11 = .ok (.iload_n 1, 1) := by decide +kernel
theorem dX9_addStep_12 : decode cX9_addStep 12 = .ok (.iconst 3, 1) := by decide +kernel
theorem dX9_addStep_13 : decode cX9_addStep 13 = .ok (.if_icmp .ne 9, 3) := by decide +kernel
theorem dX9_addStep_16 : decode cX9_addStep 16 = .ok (.aload_n 0, 1) := by decide +kernel
theorem dX9_addStep_17 : decode cX9_addStep 17 = .ok (.iload_n 1, 1) := by decide +kernel
theorem dX9_addStep_18 : decode cX9_addStep 18 = .ok (.iload_n 3, 1) := by decide +kernel
theorem dX9_addStep_19 : decode cX9_addStep 19 = .ok (.invokevirtual 62, 3) := by decide +kernel
theorem dX9_addStep_22 : decode cX9_addStep 22 = .ok (.iload_n 1, 1) := by decide +kernel
theorem dX9_addStep_23 : decode cX9_addStep 23 = .ok (.iconst 4, 1) := by decide +kernel
theorem dX9_addStep_24 : decode cX9_addStep 24 = .ok (.if_icmp .ne 9, 3) := by decide +kernel
theorem dX9_addStep_27 : decode cX9_addStep 27 = .ok (.aload_n 0, 1) := by decide +kernel
theorem dX9_addStep_28 : decode cX9_addStep 28 = .ok (.iconst 4, 1) := by decide +kernel
theorem dX9_addStep_29 : decode cX9_addStep 29 = .ok (.iconst 0, 1) := by decide +kernel
theorem dX9_addStep_30 : decode cX9_addStep 30 = .ok (.invokevirtual 62, 3) := by decide +kernel
theorem dX9_addStep_33 : decode cX9_addStep 33 = .ok (.aload_n 0, 1) := by decide +kernel
theorem dX9_addStep_34 : decode cX9_addStep 34 = .ok (.iload_n 1, 1) := by decide +kernel
theorem dX9_addStep_35 : decode cX9_addStep 35 = .ok (.iconst 1, 1) := by decide +kernel
theorem dX9_addStep_36 : decode cX9_addStep 36 = .ok (.if_icmp .ne 7, 3) := by decide +kernel
theorem dX9_addStep_39 : decode cX9_addStep 39 = .ok (.iconst 1, 1) := by decide +kernel
theorem dX9_addStep_40 : decode cX9_addStep 40 = .ok (.goto 4, 3) := by decide +kernel
theorem dX9_addStep_43 : decode cX9_addStep 43 = .ok (.iconst 0, 1) := by decide +kernel
theorem dX9_addStep_44 : decode cX9_addStep 44 = .ok (.iload_n 2, 1) := by decide +kernel
theorem dX9_addStep_45 : decode cX9_addStep 45 = .ok (.invokevirtual 62, 3) := by decide +kernel
theorem dX9_addStep_48 : decode cX9_addStep 48 = .ok (.iload_n 1, 1) := by decide +kernel
theorem dX9_addStep_49 : decode cX9_addStep 49 = .ok (.iconst 4, 1) := by decide +kernel
theorem dX9_addStep_50 : decode cX9_addStep 50 = .ok (.if_icmp .ne 9, 3) := by decide +kernel
theorem dX9_addStep_53 : decode cX9_addStep 53 = .ok (.aload_n 0, 1) := by decide +kernel
theorem dX9_addStep_54 : decode cX9_addStep 54 = .ok (.iconst 0, 1) := by decide +kernel
theorem dX9_addStep_55 : decode cX9_addStep 55 = .ok (.iload_n 3, 1) := by decide +kernel
theorem dX9_addStep_56 : decode cX9_addStep 56 = .ok (.invokevirtual 62, 3) := by decide +kernel
theorem dX9_addStep_59 : decode cX9_addStep 59 = .ok (.return_, 1) := by decide +kernel
def is_X9_addStep (Rt : np_Rt) : List (Nat × np_Op) := [(0, np_ild 1 1), (1, np_push 1 (.int (-1))), (2, nq_icne 6), (5, np_ret Rt), (6, np_ild 1 1), (7, np_push 1 (.int 2)), (8, nq_ic (fun x y => x = y) 16), (11, np_ild 1 1), (12, np_push 1 (.int 3)), (13, nq_icne 22), (16, np_ald 1 0), (17, np_ild 1 1), (18, np_ild 1 3), (19, nw_callV 9 3 sp_X9_add 3 0 0 0 0), (22, np_ild 1 1), (23, np_push 1 (.int 4)), (24, nq_icne 33), (27, np_ald 1 0), (28, np_push 1 (.int 4)), (29, np_push 1 (.int 0)), (30, nw_callV 9 3 sp_X9_add 3 0 0 0 0), (33, np_ald 1 0), (34, np_ild 1 1), (35, np_push 1 (.int 1)), (36, nq_icne 43), (39, np_push 1 (.int 1)), (40, np_goto 44), (43, np_push 1 (.int 0)), (44, np_ild 1 2), (45, nw_callV 9 3 sp_X9_add 3 0 0 0 0), (48, np_ild 1 1), (49, np_push 1 (.int 4)), (50, nq_icne 59), (53, np_ald 1 0), (54, np_push 1 (.int 0)), (55, np_ild 1 3), (56, nw_callV 9 3 sp_X9_add 3 0 0 0 0), (59, np_ret Rt)]
set_option maxRecDepth 20000 in
theorem so_X9_addStep {X : np_Ctx} {Rt : np_Rt} (hX : np_ok RX9 cX9_addStep 4 2 44 0 0 .return_ X) (hR : ∀ st w ce sl, Rt st w ce sl → X.2.2.1 st w ce sl) : ∀ q ∈ is_X9_addStep Rt, np_S X q.1 q.2 :=
  List.forall_mem_cons.mpr ⟨np_s_iload_n hX dX9_addStep_0 rfl, List.forall_mem_cons.mpr ⟨np_s_iconst hX dX9_addStep_1 (by decide), List.forall_mem_cons.mpr ⟨np_S.mono (op := np_icne 6) (np_s_icmp_ne hX dX9_addStep_2 (by decide)) nq_icne_le, List.forall_mem_cons.mpr ⟨np_S.mono (op := np_ret X.2.2.1) (np_s_ret hX dX9_addStep_5) (nq_ret_le hR), List.forall_mem_cons.mpr ⟨np_s_iload_n hX dX9_addStep_6 rfl, List.forall_mem_cons.mpr ⟨np_s_iconst hX dX9_addStep_7 (by decide), List.forall_mem_cons.mpr ⟨np_S.mono (op := np_ic (fun x y => x = y) 16) (np_s_icmp_eq hX dX9_addStep_8 (by decide)) nq_ic_le, List.forall_mem_cons.mpr ⟨np_s_iload_n hX dX9_addStep_11 rfl, List.forall_mem_cons.mpr ⟨np_s_iconst hX dX9_addStep_12 (by decide), List.forall_mem_cons.mpr ⟨np_S.mono (op := np_icne 22) (np_s_icmp_ne hX dX9_addStep_13 (by decide)) nq_icne_le, List.forall_mem_cons.mpr ⟨np_s_aload_n hX dX9_addStep_16 rfl, List.forall_mem_cons.mpr ⟨np_s_iload_n hX dX9_addStep_17 rfl, List.forall_mem_cons.mpr ⟨np_s_iload_n hX dX9_addStep_18 rfl, List.forall_mem_cons.mpr ⟨np_S.mono (op := np_callV 9 3 sp_X9_add 3 0 0 0 0) (np_s_callV hX C_X9_add dX9_addStep_19 (q := (RX9, TX9, 7)) rfl rfl gw1328 gw74 gw1325 gw1327 gw40 ⟨by decide, by decide, by decide⟩ (by decide) (by decide)) nw_callV_le, List.forall_mem_cons.mpr ⟨np_s_iload_n hX dX9_addStep_22 rfl, List.forall_mem_cons.mpr ⟨np_s_iconst hX dX9_addStep_23 (by decide), List.forall_mem_cons.mpr ⟨np_S.mono (op := np_icne 33) (np_s_icmp_ne hX dX9_addStep_24 (by decide)) nq_icne_le, List.forall_mem_cons.mpr ⟨np_s_aload_n hX dX9_addStep_27 rfl, List.forall_mem_cons.mpr ⟨np_s_iconst hX dX9_addStep_28 (by decide), List.forall_mem_cons.mpr ⟨np_s_iconst hX dX9_addStep_29 (by decide), List.forall_mem_cons.mpr ⟨np_S.mono (op := np_callV 9 3 sp_X9_add 3 0 0 0 0) (np_s_callV hX C_X9_add dX9_addStep_30 (q := (RX9, TX9, 7)) rfl rfl gw1328 gw74 gw1325 gw1327 gw40 ⟨by decide, by decide, by decide⟩ (by decide) (by decide)) nw_callV_le, List.forall_mem_cons.mpr ⟨np_s_aload_n hX dX9_addStep_33 rfl, List.forall_mem_cons.mpr ⟨np_s_iload_n hX dX9_addStep_34 rfl, List.forall_mem_cons.mpr ⟨np_s_iconst hX dX9_addStep_35 (by decide), List.forall_mem_cons.mpr ⟨np_S.mono (op := np_icne 43) (np_s_icmp_ne hX dX9_addStep_36 (by decide)) nq_icne_le, List.forall_mem_cons.mpr ⟨np_s_iconst hX dX9_addStep_39 (by decide), List.forall_mem_cons.mpr ⟨np_s_goto hX dX9_addStep_40 (by decide), List.forall_mem_cons.mpr ⟨np_s_iconst hX dX9_addStep_43 (by decide), List.forall_mem_cons.mpr ⟨np_s_iload_n hX dX9_addStep_44 rfl, List.forall_mem_cons.mpr ⟨np_S.mono (op := np_callV 9 3 sp_X9_add 3 0 0 0 0) (np_s_callV hX C_X9_add dX9_addStep_45 (q := (RX9, TX9, 7)) rfl rfl gw1328 gw74 gw1325 gw1327 gw40 ⟨by decide, by decide, by decide⟩ (by decide) (by decide)) nw_callV_le, List.forall_mem_cons.mpr ⟨np_s_iload_n hX dX9_addStep_48 rfl, List.forall_mem_cons.mpr ⟨np_s_iconst hX dX9_addStep_49 (by decide), List.forall_mem_cons.mpr ⟨np_S.mono (op := np_icne 59) (np_s_icmp_ne hX dX9_addStep_50 (by decide)) nq_icne_le, List.forall_mem_cons.mpr ⟨np_s_aload_n hX dX9_addStep_53 rfl, List.forall_mem_cons.mpr ⟨np_s_iconst hX dX9_addStep_54 (by decide), List.forall_mem_cons.mpr ⟨np_s_iload_n hX dX9_addStep_55 rfl, List.forall_mem_cons.mpr ⟨np_S.mono (op := np_callV 9 3 sp_X9_add 3 0 0 0 0) (np_s_callV hX C_X9_add dX9_addStep_56 (q := (RX9, TX9, 7)) rfl rfl gw1328 gw74 gw1325 gw1327 gw40 ⟨by decide, by decide, by decide⟩ (by decide) (by decide)) nw_callV_le, List.forall_mem_cons.mpr ⟨np_S.mono (op := np_ret X.2.2.1) (np_s_ret hX dX9_addStep_59) (nq_ret_le hR), fun _ h => nomatch h⟩⟩⟩⟩⟩⟩⟩⟩⟩⟩⟩⟩⟩⟩⟩⟩⟩⟩⟩⟩⟩⟩⟩⟩⟩⟩⟩⟩⟩⟩⟩⟩⟩⟩⟩⟩⟩⟩
noncomputable def m_X9_addStep (S : pw_S) (i0 : Nat) (x1 : Int32) (x2 : Int32) (x3 : Int32) : pw_R Unit :=
 if x1 = (-1) then
 (some (S, ()))
 else
 (if x1 = 2 then
 (pw_b (m_X9_add S i0 x1 x3) fun S1 r4 =>
 if x1 = 4 then
 (pw_b (m_X9_add S1 i0 4 0) fun S6 r9 =>
 if x1 = 1 then
 (pw_b (m_X9_add S6 i0 1 x2) fun S11 r14 =>
 if x1 = 4 then
 (pw_b (m_X9_add S11 i0 0 x3) fun S16 r19 =>
 some (S16, ()))
 else
 (some (S11, ())))
 else
 (pw_b (m_X9_add S6 i0 0 x2) fun S21 r24 =>
 if x1 = 4 then
 (pw_b (m_X9_add S21 i0 0 x3) fun S26 r29 =>
 some (S26, ()))
 else
 (some (S21, ()))))
 else
 (if x1 = 1 then
 (pw_b (m_X9_add S1 i0 1 x2) fun S31 r34 =>
 if x1 = 4 then
 (pw_b (m_X9_add S31 i0 0 x3) fun S36 r39 =>
 some (S36, ()))
 else
 (some (S31, ())))
 else
 (pw_b (m_X9_add S1 i0 0 x2) fun S41 r44 =>
 if x1 = 4 then
 (pw_b (m_X9_add S41 i0 0 x3) fun S46 r49 =>
 some (S46, ()))
 else
 (some (S41, ())))))
 else
 (if x1 = 3 then
 (pw_b (m_X9_add S i0 x1 x3) fun S51 r54 =>
 if x1 = 4 then
 (pw_b (m_X9_add S51 i0 4 0) fun S56 r59 =>
 if x1 = 1 then
 (pw_b (m_X9_add S56 i0 1 x2) fun S61 r64 =>
 if x1 = 4 then
 (pw_b (m_X9_add S61 i0 0 x3) fun S66 r69 =>
 some (S66, ()))
 else
 (some (S61, ())))
 else
 (pw_b (m_X9_add S56 i0 0 x2) fun S71 r74 =>
 if x1 = 4 then
 (pw_b (m_X9_add S71 i0 0 x3) fun S76 r79 =>
 some (S76, ()))
 else
 (some (S71, ()))))
 else
 (if x1 = 1 then
 (pw_b (m_X9_add S51 i0 1 x2) fun S81 r84 =>
 if x1 = 4 then
 (pw_b (m_X9_add S81 i0 0 x3) fun S86 r89 =>
 some (S86, ()))
 else
 (some (S81, ())))
 else
 (pw_b (m_X9_add S51 i0 0 x2) fun S91 r94 =>
 if x1 = 4 then
 (pw_b (m_X9_add S91 i0 0 x3) fun S96 r99 =>
 some (S96, ()))
 else
 (some (S91, ())))))
 else
 (if x1 = 4 then
 (pw_b (m_X9_add S i0 4 0) fun S101 r104 =>
 if x1 = 1 then
 (pw_b (m_X9_add S101 i0 1 x2) fun S106 r109 =>
 if x1 = 4 then
 (pw_b (m_X9_add S106 i0 0 x3) fun S111 r114 =>
 some (S111, ()))
 else
 (some (S106, ())))
 else
 (pw_b (m_X9_add S101 i0 0 x2) fun S116 r119 =>
 if x1 = 4 then
 (pw_b (m_X9_add S116 i0 0 x3) fun S121 r124 =>
 some (S121, ()))
 else
 (some (S116, ()))))
 else
 (if x1 = 1 then
 (pw_b (m_X9_add S i0 1 x2) fun S126 r129 =>
 if x1 = 4 then
 (pw_b (m_X9_add S126 i0 0 x3) fun S131 r134 =>
 some (S131, ()))
 else
 (some (S126, ())))
 else
 (pw_b (m_X9_add S i0 0 x2) fun S136 r139 =>
 if x1 = 4 then
 (pw_b (m_X9_add S136 i0 0 x3) fun S141 r144 =>
 some (S141, ()))
 else
 (some (S136, ())))))))
def sp_X9_addStep : np_Sp := fun vs w Q => ∃ (q : Nat) (S : pw_S) (i0 : Nat) (x1 : Int32) (x2 : Int32) (x3 : Int32), vs = [.ref (pw_pl 57 i0), .int x1, .int x2, .int x3] ∧ pw_ok q 57 i0 = true ∧ pw_W q w S ∧ pw_p (m_X9_addStep S i0 x1 x2 x3) (fun S' r => ∀ f', pw_W q (w.1, f') S' → Q none (w.1, f'))
set_option maxRecDepth 100000 in
set_option maxHeartbeats 8000000 in
theorem C_X9_addStep : np_C yX9_addStep cX9_addStep 4 none 2 44 0 0 sp_X9_addStep := by
  refine np_of (by decide) ?_
  intro X vs w Q hsp hX hmn hRt hlt
  obtain ⟨q, S, i0, x1, x2, x3, rfl, hi0, hW, h⟩ := hsp
  obtain ⟨n, f⟩ := w
  unfold m_X9_addStep at h
  have hR : ∀ st w ce sl, np_rt none 0 0 Q st w ce sl → X.2.2.1 st w ce sl := fun _ _ _ _ h => by rw [hRt]; exact h
  refine np_soundW (so_X9_addStep hX hR) [] 400 0 _ _ _ _ _ ?_
  conv => whnf
  refine pw_br h (fun _ h => ?_) (fun _ h => ?_)
  · conv => whnf
    exact ⟨Nat.le_of_ble_eq_true rfl, Nat.le_of_ble_eq_true rfl, rfl, _, fun _ _ h9 => h9, pw_ps h _ hW⟩
  · conv => whnf
    refine pw_br h (fun _ h => ?_) (fun _ h => ?_)
    · conv => whnf
      refine np_rd_i (hW.g hi0) ?_
      conv => whnf
      refine ⟨q, S, i0, x1, x3, rfl, hi0, hW, pw_bd h (fun S1 r4 h f2 hW3 => ?_)⟩
      conv => whnf
      refine pw_br h (fun _ h => ?_) (fun _ h => ?_)
      · conv => whnf
        refine np_rd_i (hW3.g hi0) ?_
        conv => whnf
        refine ⟨q, S1, i0, 4, 0, rfl, hi0, hW3, pw_bd h (fun S6 r9 h f7 hW8 => ?_)⟩
        conv => whnf
        refine pw_br h (fun _ h => ?_) (fun _ h => ?_)
        · conv => whnf
          refine np_rd_i (hW8.g hi0) ?_
          conv => whnf
          refine ⟨q, S6, i0, 1, x2, rfl, hi0, hW8, pw_bd h (fun S11 r14 h f12 hW13 => ?_)⟩
          conv => whnf
          refine pw_br h (fun _ h => ?_) (fun _ h => ?_)
          · conv => whnf
            refine np_rd_i (hW13.g hi0) ?_
            conv => whnf
            refine ⟨q, S11, i0, 0, x3, rfl, hi0, hW13, pw_bd h (fun S16 r19 h f17 hW18 => ?_)⟩
            conv => whnf
            exact ⟨Nat.le_of_ble_eq_true rfl, Nat.le_of_ble_eq_true rfl, rfl, _, fun _ _ h9 => h9, pw_ps h _ hW18⟩
          · conv => whnf
            exact ⟨Nat.le_of_ble_eq_true rfl, Nat.le_of_ble_eq_true rfl, rfl, _, fun _ _ h9 => h9, pw_ps h _ hW13⟩
        · conv => whnf
          refine np_rd_i (hW8.g hi0) ?_
          conv => whnf
          refine ⟨q, S6, i0, 0, x2, rfl, hi0, hW8, pw_bd h (fun S21 r24 h f22 hW23 => ?_)⟩
          conv => whnf
          refine pw_br h (fun _ h => ?_) (fun _ h => ?_)
          · conv => whnf
            refine np_rd_i (hW23.g hi0) ?_
            conv => whnf
            refine ⟨q, S21, i0, 0, x3, rfl, hi0, hW23, pw_bd h (fun S26 r29 h f27 hW28 => ?_)⟩
            conv => whnf
            exact ⟨Nat.le_of_ble_eq_true rfl, Nat.le_of_ble_eq_true rfl, rfl, _, fun _ _ h9 => h9, pw_ps h _ hW28⟩
          · conv => whnf
            exact ⟨Nat.le_of_ble_eq_true rfl, Nat.le_of_ble_eq_true rfl, rfl, _, fun _ _ h9 => h9, pw_ps h _ hW23⟩
      · conv => whnf
        refine pw_br h (fun _ h => ?_) (fun _ h => ?_)
        · conv => whnf
          refine np_rd_i (hW3.g hi0) ?_
          conv => whnf
          refine ⟨q, S1, i0, 1, x2, rfl, hi0, hW3, pw_bd h (fun S31 r34 h f32 hW33 => ?_)⟩
          conv => whnf
          refine pw_br h (fun _ h => ?_) (fun _ h => ?_)
          · conv => whnf
            refine np_rd_i (hW33.g hi0) ?_
            conv => whnf
            refine ⟨q, S31, i0, 0, x3, rfl, hi0, hW33, pw_bd h (fun S36 r39 h f37 hW38 => ?_)⟩
            conv => whnf
            exact ⟨Nat.le_of_ble_eq_true rfl, Nat.le_of_ble_eq_true rfl, rfl, _, fun _ _ h9 => h9, pw_ps h _ hW38⟩
          · conv => whnf
            exact ⟨Nat.le_of_ble_eq_true rfl, Nat.le_of_ble_eq_true rfl, rfl, _, fun _ _ h9 => h9, pw_ps h _ hW33⟩
        · conv => whnf
          refine np_rd_i (hW3.g hi0) ?_
          conv => whnf
          refine ⟨q, S1, i0, 0, x2, rfl, hi0, hW3, pw_bd h (fun S41 r44 h f42 hW43 => ?_)⟩
          conv => whnf
          refine pw_br h (fun _ h => ?_) (fun _ h => ?_)
          · conv => whnf
            refine np_rd_i (hW43.g hi0) ?_
            conv => whnf
            refine ⟨q, S41, i0, 0, x3, rfl, hi0, hW43, pw_bd h (fun S46 r49 h f47 hW48 => ?_)⟩
            conv => whnf
            exact ⟨Nat.le_of_ble_eq_true rfl, Nat.le_of_ble_eq_true rfl, rfl, _, fun _ _ h9 => h9, pw_ps h _ hW48⟩
          · conv => whnf
            exact ⟨Nat.le_of_ble_eq_true rfl, Nat.le_of_ble_eq_true rfl, rfl, _, fun _ _ h9 => h9, pw_ps h _ hW43⟩
    · conv => whnf
      refine pw_br h (fun _ h => ?_) (fun _ h => ?_)
      · conv => whnf
        refine np_rd_i (hW.g hi0) ?_
        conv => whnf
        refine ⟨q, S, i0, x1, x3, rfl, hi0, hW, pw_bd h (fun S51 r54 h f52 hW53 => ?_)⟩
        conv => whnf
        refine pw_br h (fun _ h => ?_) (fun _ h => ?_)
        · conv => whnf
          refine np_rd_i (hW53.g hi0) ?_
          conv => whnf
          refine ⟨q, S51, i0, 4, 0, rfl, hi0, hW53, pw_bd h (fun S56 r59 h f57 hW58 => ?_)⟩
          conv => whnf
          refine pw_br h (fun _ h => ?_) (fun _ h => ?_)
          · conv => whnf
            refine np_rd_i (hW58.g hi0) ?_
            conv => whnf
            refine ⟨q, S56, i0, 1, x2, rfl, hi0, hW58, pw_bd h (fun S61 r64 h f62 hW63 => ?_)⟩
            conv => whnf
            refine pw_br h (fun _ h => ?_) (fun _ h => ?_)
            · conv => whnf
              refine np_rd_i (hW63.g hi0) ?_
              conv => whnf
              refine ⟨q, S61, i0, 0, x3, rfl, hi0, hW63, pw_bd h (fun S66 r69 h f67 hW68 => ?_)⟩
              conv => whnf
              exact ⟨Nat.le_of_ble_eq_true rfl, Nat.le_of_ble_eq_true rfl, rfl, _, fun _ _ h9 => h9, pw_ps h _ hW68⟩
            · conv => whnf
              exact ⟨Nat.le_of_ble_eq_true rfl, Nat.le_of_ble_eq_true rfl, rfl, _, fun _ _ h9 => h9, pw_ps h _ hW63⟩
          · conv => whnf
            refine np_rd_i (hW58.g hi0) ?_
            conv => whnf
            refine ⟨q, S56, i0, 0, x2, rfl, hi0, hW58, pw_bd h (fun S71 r74 h f72 hW73 => ?_)⟩
            conv => whnf
            refine pw_br h (fun _ h => ?_) (fun _ h => ?_)
            · conv => whnf
              refine np_rd_i (hW73.g hi0) ?_
              conv => whnf
              refine ⟨q, S71, i0, 0, x3, rfl, hi0, hW73, pw_bd h (fun S76 r79 h f77 hW78 => ?_)⟩
              conv => whnf
              exact ⟨Nat.le_of_ble_eq_true rfl, Nat.le_of_ble_eq_true rfl, rfl, _, fun _ _ h9 => h9, pw_ps h _ hW78⟩
            · conv => whnf
              exact ⟨Nat.le_of_ble_eq_true rfl, Nat.le_of_ble_eq_true rfl, rfl, _, fun _ _ h9 => h9, pw_ps h _ hW73⟩
        · conv => whnf
          refine pw_br h (fun _ h => ?_) (fun _ h => ?_)
          · conv => whnf
            refine np_rd_i (hW53.g hi0) ?_
            conv => whnf
            refine ⟨q, S51, i0, 1, x2, rfl, hi0, hW53, pw_bd h (fun S81 r84 h f82 hW83 => ?_)⟩
            conv => whnf
            refine pw_br h (fun _ h => ?_) (fun _ h => ?_)
            · conv => whnf
              refine np_rd_i (hW83.g hi0) ?_
              conv => whnf
              refine ⟨q, S81, i0, 0, x3, rfl, hi0, hW83, pw_bd h (fun S86 r89 h f87 hW88 => ?_)⟩
              conv => whnf
              exact ⟨Nat.le_of_ble_eq_true rfl, Nat.le_of_ble_eq_true rfl, rfl, _, fun _ _ h9 => h9, pw_ps h _ hW88⟩
            · conv => whnf
              exact ⟨Nat.le_of_ble_eq_true rfl, Nat.le_of_ble_eq_true rfl, rfl, _, fun _ _ h9 => h9, pw_ps h _ hW83⟩
          · conv => whnf
            refine np_rd_i (hW53.g hi0) ?_
            conv => whnf
            refine ⟨q, S51, i0, 0, x2, rfl, hi0, hW53, pw_bd h (fun S91 r94 h f92 hW93 => ?_)⟩
            conv => whnf
            refine pw_br h (fun _ h => ?_) (fun _ h => ?_)
            · conv => whnf
              refine np_rd_i (hW93.g hi0) ?_
              conv => whnf
              refine ⟨q, S91, i0, 0, x3, rfl, hi0, hW93, pw_bd h (fun S96 r99 h f97 hW98 => ?_)⟩
              conv => whnf
              exact ⟨Nat.le_of_ble_eq_true rfl, Nat.le_of_ble_eq_true rfl, rfl, _, fun _ _ h9 => h9, pw_ps h _ hW98⟩
            · conv => whnf
              exact ⟨Nat.le_of_ble_eq_true rfl, Nat.le_of_ble_eq_true rfl, rfl, _, fun _ _ h9 => h9, pw_ps h _ hW93⟩
      · conv => whnf
        refine pw_br h (fun _ h => ?_) (fun _ h => ?_)
        · conv => whnf
          refine np_rd_i (hW.g hi0) ?_
          conv => whnf
          refine ⟨q, S, i0, 4, 0, rfl, hi0, hW, pw_bd h (fun S101 r104 h f102 hW103 => ?_)⟩
          conv => whnf
          refine pw_br h (fun _ h => ?_) (fun _ h => ?_)
          · conv => whnf
            refine np_rd_i (hW103.g hi0) ?_
            conv => whnf
            refine ⟨q, S101, i0, 1, x2, rfl, hi0, hW103, pw_bd h (fun S106 r109 h f107 hW108 => ?_)⟩
            conv => whnf
            refine pw_br h (fun _ h => ?_) (fun _ h => ?_)
            · conv => whnf
              refine np_rd_i (hW108.g hi0) ?_
              conv => whnf
              refine ⟨q, S106, i0, 0, x3, rfl, hi0, hW108, pw_bd h (fun S111 r114 h f112 hW113 => ?_)⟩
              conv => whnf
              exact ⟨Nat.le_of_ble_eq_true rfl, Nat.le_of_ble_eq_true rfl, rfl, _, fun _ _ h9 => h9, pw_ps h _ hW113⟩
            · conv => whnf
              exact ⟨Nat.le_of_ble_eq_true rfl, Nat.le_of_ble_eq_true rfl, rfl, _, fun _ _ h9 => h9, pw_ps h _ hW108⟩
          · conv => whnf
            refine np_rd_i (hW103.g hi0) ?_
            conv => whnf
            refine ⟨q, S101, i0, 0, x2, rfl, hi0, hW103, pw_bd h (fun S116 r119 h f117 hW118 => ?_)⟩
            conv => whnf
            refine pw_br h (fun _ h => ?_) (fun _ h => ?_)
            · conv => whnf
              refine np_rd_i (hW118.g hi0) ?_
              conv => whnf
              refine ⟨q, S116, i0, 0, x3, rfl, hi0, hW118, pw_bd h (fun S121 r124 h f122 hW123 => ?_)⟩
              conv => whnf
              exact ⟨Nat.le_of_ble_eq_true rfl, Nat.le_of_ble_eq_true rfl, rfl, _, fun _ _ h9 => h9, pw_ps h _ hW123⟩
            · conv => whnf
              exact ⟨Nat.le_of_ble_eq_true rfl, Nat.le_of_ble_eq_true rfl, rfl, _, fun _ _ h9 => h9, pw_ps h _ hW118⟩
        · conv => whnf
          refine pw_br h (fun _ h => ?_) (fun _ h => ?_)
          · conv => whnf
            refine np_rd_i (hW.g hi0) ?_
            conv => whnf
            refine ⟨q, S, i0, 1, x2, rfl, hi0, hW, pw_bd h (fun S126 r129 h f127 hW128 => ?_)⟩
            conv => whnf
            refine pw_br h (fun _ h => ?_) (fun _ h => ?_)
            · conv => whnf
              refine np_rd_i (hW128.g hi0) ?_
              conv => whnf
              refine ⟨q, S126, i0, 0, x3, rfl, hi0, hW128, pw_bd h (fun S131 r134 h f132 hW133 => ?_)⟩
              conv => whnf
              exact ⟨Nat.le_of_ble_eq_true rfl, Nat.le_of_ble_eq_true rfl, rfl, _, fun _ _ h9 => h9, pw_ps h _ hW133⟩
            · conv => whnf
              exact ⟨Nat.le_of_ble_eq_true rfl, Nat.le_of_ble_eq_true rfl, rfl, _, fun _ _ h9 => h9, pw_ps h _ hW128⟩
          · conv => whnf
            refine np_rd_i (hW.g hi0) ?_
            conv => whnf
            refine ⟨q, S, i0, 0, x2, rfl, hi0, hW, pw_bd h (fun S136 r139 h f137 hW138 => ?_)⟩
            conv => whnf
            refine pw_br h (fun _ h => ?_) (fun _ h => ?_)
            · conv => whnf
              refine np_rd_i (hW138.g hi0) ?_
              conv => whnf
              refine ⟨q, S136, i0, 0, x3, rfl, hi0, hW138, pw_bd h (fun S141 r144 h f142 hW143 => ?_)⟩
              conv => whnf
              exact ⟨Nat.le_of_ble_eq_true rfl, Nat.le_of_ble_eq_true rfl, rfl, _, fun _ _ h9 => h9, pw_ps h _ hW143⟩
            · conv => whnf
              exact ⟨Nat.le_of_ble_eq_true rfl, Nat.le_of_ble_eq_true rfl, rfl, _, fun _ _ h9 => h9, pw_ps h _ hW138⟩
theorem dX9_buildFrom_0 : decode cX9_buildFrom 0 = .ok (.aload_n 0, 1) := by decide +kernel
theorem dX9_buildFrom_1 : decode cX9_buildFrom 1 = .ok (.iconst 0, 1) := by decide +kernel
theorem dX9_buildFrom_2 : decode cX9_buildFrom 2 = .ok (.putfield 41, 3) := by decide +kernel
theorem dX9_buildFrom_5 : decode cX9_buildFrom 5 = .ok (.iconst 0, 1) := by decide +kernel
theorem dX9_buildFrom_6 : decode cX9_buildFrom 6 = .ok (.istore_n 2, 1) := by decide +kernel
theorem dX9_buildFrom_7 : decode cX9_buildFrom 7 = .ok (.iload_n 2, 1) := by decide +kernel
theorem dX9_buildFrom_8 : decode cX9_buildFrom 8 = .ok (.bipush 8, 2) := by decide +kernel
theorem dX9_buildFrom_10 : decode cX9_buildFrom 10 = .ok (.if_icmp .ge 52, 3) := by decide +kernel
theorem dX9_buildFrom_13 : decode cX9_buildFrom 13 = .ok (.aload_n 0, 1) := by decide +kernel
theorem dX9_buildFrom_14 : decode cX9_buildFrom 14 = .ok (.aload_n 1, 1) := by decide +kernel
theorem dX9_buildFrom_15 : decode cX9_buildFrom 15 = .ok (.getfield 49, 3) := by decide +kernel
theorem dX9_buildFrom_18 : decode cX9_buildFrom 18 = .ok (.iload_n 2, 1) := by decide +kernel
theorem dX9_buildFrom_19 : decode cX9_buildFrom 19 = .ok (.iconst (-1), 1) := by decide +kernel
theorem dX9_buildFrom_20 : decode cX9_buildFrom 20 = .ok (.invokestatic 34, 3) := by decide +kernel
theorem dX9_buildFrom_23 : decode cX9_buildFrom 23 = .ok (.aload_n 1, 1) := by decide +kernel
theorem dX9_buildFrom_24 : decode cX9_buildFrom 24 = .ok (.getfield 52, 3) := by decide +kernel
theorem dX9_buildFrom_27 : decode cX9_buildFrom 27 = .ok (.iload_n 2, 1) := by decide +kernel
theorem dX9_buildFrom_28 : decode cX9_buildFrom 28 = .ok (.iconst 0, 1) := by decide +kernel
theorem dX9_buildFrom_29 : decode cX9_buildFrom 29 = .ok (.invokestatic 34, 3) := by decide +kernel
theorem dX9_buildFrom_32 : decode cX9_buildFrom 32 = .ok (.aload_n 1, 1) := by decide +kernel
theorem dX9_buildFrom_33 : decode cX9_buildFrom 33 = .ok (.getfield 55, 3) := by decide +kernel
theorem dX9_buildFrom_36 : decode cX9_buildFrom 36 = .ok (.iload_n 2, 1) := by decide +kernel
theorem dX9_buildFrom_37 : decode cX9_buildFrom 37 = .ok (.iconst 0, 1) := by decide +kernel
theorem dX9_buildFrom_38 : decode cX9_buildFrom 38 = .ok (.invokestatic 34, 3) := by decide +kernel
theorem dX9_buildFrom_41 : decode cX9_buildFrom 41 = .ok (.invokevirtual 58, 3) := by decide +kernel
theorem dX9_buildFrom_44 : decode cX9_buildFrom 44 = .ok (.aload_n 0, 1) := by decide +kernel
theorem dX9_buildFrom_45 : decode cX9_buildFrom 45 = .ok (.getfield 18, 3) := by decide +kernel
theorem dX9_buildFrom_48 : decode cX9_buildFrom 48 = .ok (.iload_n 2, 1) := by decide +kernel
theorem dX9_buildFrom_49 : decode cX9_buildFrom 49 = .ok (.aload_n 0, 1) := by decide +kernel
theorem dX9_buildFrom_50 : decode cX9_buildFrom 50 = .ok (.getfield 41, 3) := by decide +kernel
theorem dX9_buildFrom_53 : decode cX9_buildFrom 53 = .ok (.invokestatic 45, 3) := by decide +kernel
theorem dX9_buildFrom_56 : decode cX9_buildFrom 56 = .ok (.iinc 2 1, 3) := by decide +kernel
theorem dX9_buildFrom_59 : decode cX9_buildFrom 59 = .ok (.goto (-52), 3) := by decide +kernel
theorem dX9_buildFrom_62 : decode cX9_buildFrom 62 = .ok (.return_, 1) := by decide +kernel
def is_X9_buildFrom (Rt : np_Rt) : List (Nat × np_Op) := [(0, np_ald 1 0), (1, np_push 1 (.int 0)), (2, nw_putf 9 6 (.int)), (5, np_push 1 (.int 0)), (6, nw_ist 1 2), (7, np_ild 1 2), (8, np_push 2 (.int 8)), (10, nq_ic (fun x y => y ≤ x) 62), (13, np_ald 1 0), (14, np_ald 1 1), (15, nw_getf 10 0), (18, np_ild 1 2), (19, np_push 1 (.int (-1))), (20, nq_call 3 sp_X11_at 3 0 0 0 0), (23, np_ald 1 1), (24, nw_getf 10 1), (27, np_ild 1 2), (28, np_push 1 (.int 0)), (29, nq_call 3 sp_X11_at 3 0 0 0 0), (32, np_ald 1 1), (33, nw_getf 10 2), (36, np_ild 1 2), (37, np_push 1 (.int 0)), (38, nq_call 3 sp_X11_at 3 0 0 0 0), (41, nw_callV 9 4 sp_X9_addStep 4 0 0 0 0), (44, np_ald 1 0), (45, nw_getf 9 2), (48, np_ild 1 2), (49, np_ald 1 0), (50, nw_getf 9 6), (53, nq_call 3 sp_X11_put 3 0 0 0 0), (56, nw_iinc 2 1), (59, np_goto 7), (62, np_ret Rt)]
set_option maxRecDepth 20000 in
theorem so_X9_buildFrom {X : np_Ctx} {Rt : np_Rt} (hX : np_ok RX9 cX9_buildFrom 3 3 67 0 0 .return_ X) (hR : ∀ st w ce sl, Rt st w ce sl → X.2.2.1 st w ce sl) : ∀ q ∈ is_X9_buildFrom Rt, np_S X q.1 q.2 :=
  List.forall_mem_cons.mpr ⟨np_s_aload_n hX dX9_buildFrom_0 rfl, List.forall_mem_cons.mpr ⟨np_s_iconst hX dX9_buildFrom_1 (by decide), List.forall_mem_cons.mpr ⟨np_S.mono (op := np_putf 9 6 (.int)) (np_s_putf hX dX9_buildFrom_2 (C := RX9) (T := TX9) (N := 7) (ty0 := tyX9) rfl guX9 tyX9_ok nmX9 (by decide) gw424 rfl rfl) nw_putf_le, List.forall_mem_cons.mpr ⟨np_s_iconst hX dX9_buildFrom_5 (by decide), List.forall_mem_cons.mpr ⟨np_S.mono (op := np_ist 1 2) (np_s_istore_n hX dX9_buildFrom_6 rfl (by decide)) nw_ist_le, List.forall_mem_cons.mpr ⟨np_s_iload_n hX dX9_buildFrom_7 rfl, List.forall_mem_cons.mpr ⟨np_s_bipush hX dX9_buildFrom_8 (by decide), List.forall_mem_cons.mpr ⟨np_S.mono (op := np_ic (fun x y => y ≤ x) 62) (np_s_icmp_ge hX dX9_buildFrom_10 (by decide)) nq_ic_le, List.forall_mem_cons.mpr ⟨np_s_aload_n hX dX9_buildFrom_13 rfl, List.forall_mem_cons.mpr ⟨np_s_aload_n hX dX9_buildFrom_14 rfl, List.forall_mem_cons.mpr ⟨np_S.mono (op := np_getf 10 0) (np_s_getN hX dX9_buildFrom_15 (C := RX10) (T := TX10) (N := 3) rfl guX10 (by decide) gw292) nw_getf_le, List.forall_mem_cons.mpr ⟨np_s_iload_n hX dX9_buildFrom_18 rfl, List.forall_mem_cons.mpr ⟨np_s_iconst hX dX9_buildFrom_19 (by decide), List.forall_mem_cons.mpr ⟨np_S.mono (op := np_call 3 sp_X11_at 3 0 0 0 0) (np_s_callSN hX C_X11_at dX9_buildFrom_20 gw653 gw63 gw1320 gw652 ⟨by decide, by decide, by decide⟩ (by decide) (by decide)) nq_call_le, List.forall_mem_cons.mpr ⟨np_s_aload_n hX dX9_buildFrom_23 rfl, List.forall_mem_cons.mpr ⟨np_S.mono (op := np_getf 10 1) (np_s_getN hX dX9_buildFrom_24 (C := RX10) (T := TX10) (N := 3) rfl guX10 (by decide) gw294) nw_getf_le, List.forall_mem_cons.mpr ⟨np_s_iload_n hX dX9_buildFrom_27 rfl, List.forall_mem_cons.mpr ⟨np_s_iconst hX dX9_buildFrom_28 (by decide), List.forall_mem_cons.mpr ⟨np_S.mono (op := np_call 3 sp_X11_at 3 0 0 0 0) (np_s_callSN hX C_X11_at dX9_buildFrom_29 gw653 gw63 gw1320 gw652 ⟨by decide, by decide, by decide⟩ (by decide) (by decide)) nq_call_le, List.forall_mem_cons.mpr ⟨np_s_aload_n hX dX9_buildFrom_32 rfl, List.forall_mem_cons.mpr ⟨np_S.mono (op := np_getf 10 2) (np_s_getN hX dX9_buildFrom_33 (C := RX10) (T := TX10) (N := 3) rfl guX10 (by decide) gw296) nw_getf_le, List.forall_mem_cons.mpr ⟨np_s_iload_n hX dX9_buildFrom_36 rfl, List.forall_mem_cons.mpr ⟨np_s_iconst hX dX9_buildFrom_37 (by decide), List.forall_mem_cons.mpr ⟨np_S.mono (op := np_call 3 sp_X11_at 3 0 0 0 0) (np_s_callSN hX C_X11_at dX9_buildFrom_38 gw653 gw63 gw1320 gw652 ⟨by decide, by decide, by decide⟩ (by decide) (by decide)) nq_call_le, List.forall_mem_cons.mpr ⟨np_S.mono (op := np_callV 9 4 sp_X9_addStep 4 0 0 0 0) (np_s_callV hX C_X9_addStep dX9_buildFrom_41 (q := (RX9, TX9, 7)) rfl rfl gw1324 gw74 gw1321 gw1323 gw39 ⟨by decide, by decide, by decide⟩ (by decide) (by decide)) nw_callV_le, List.forall_mem_cons.mpr ⟨np_s_aload_n hX dX9_buildFrom_44 rfl, List.forall_mem_cons.mpr ⟨np_S.mono (op := np_getf 9 2) (np_s_getf hX dX9_buildFrom_45 (C := RX9) (T := TX9) (N := 7) rfl guX9 (by decide) gw420) nw_getf_le, List.forall_mem_cons.mpr ⟨np_s_iload_n hX dX9_buildFrom_48 rfl, List.forall_mem_cons.mpr ⟨np_s_aload_n hX dX9_buildFrom_49 rfl, List.forall_mem_cons.mpr ⟨np_S.mono (op := np_getf 9 6) (np_s_getf hX dX9_buildFrom_50 (C := RX9) (T := TX9) (N := 7) rfl guX9 (by decide) gw424) nw_getf_le, List.forall_mem_cons.mpr ⟨np_S.mono (op := np_call 3 sp_X11_put 3 0 0 0 0) (np_s_callSN hX C_X11_put dX9_buildFrom_53 gw632 gw63 gw1329 gw631 ⟨by decide, by decide, by decide⟩ (by decide) (by decide)) nq_call_le, List.forall_mem_cons.mpr ⟨np_S.mono (op := np_iinc 2 1) (np_s_iinc hX dX9_buildFrom_56 (by decide)) nw_iinc_le, List.forall_mem_cons.mpr ⟨np_s_goto hX dX9_buildFrom_59 (by decide), List.forall_mem_cons.mpr ⟨np_S.mono (op := np_ret X.2.2.1) (np_s_ret hX dX9_buildFrom_62) (nq_ret_le hR), fun _ h => nomatch h⟩⟩⟩⟩⟩⟩⟩⟩⟩⟩⟩⟩⟩⟩⟩⟩⟩⟩⟩⟩⟩⟩⟩⟩⟩⟩⟩⟩⟩⟩⟩⟩⟩⟩
noncomputable def m_X9_buildFrom_7 : Nat → pw_S → Nat → Nat → Int32 → pw_R Unit
| 0, _, _, _, _ => none
| N + 1, S, v0, v1, v2 =>
 if 8 ≤ v2 then
 (some (S, ()))
 else
 (pw_b (m_X11_at S 19 0 v2 (-1)) fun S1 r4 =>
 pw_b (m_X11_at S1 20 0 v2 0) fun S6 r9 =>
 pw_b (m_X11_at S6 21 0 v2 0) fun S11 r14 =>
 pw_b (m_X9_addStep S11 v0 r4 r9 r14) fun S16 r19 =>
 pw_b (m_X11_put S16 24 v0 v2 (S16 57 v0 6)) fun S21 r24 =>
 pw_l (v2 + 1 : Int32) fun z26 =>
 m_X9_buildFrom_7 N S21 v0 v1 z26)
set_option maxRecDepth 100000 in
set_option maxHeartbeats 8000000 in
theorem L_X9_buildFrom_7 {X : np_Ctx} (hX : np_ok RX9 cX9_buildFrom 3 3 67 0 0 .return_ X) {Q : Option Value → np_W → Prop} {q n : Nat} (hR : ∀ st w ce sl, np_rt none 0 0 Q st w ce sl → X.2.2.1 st w ce sl) : ∀ (N : Nat) (S : pw_S) (v0 : Nat) (v1 : Nat) (v2 : Int32) (f : Nat → Option np_E) (hv0 : pw_ok q 57 v0 = true) (hv1 : pw_ok q 56 v1 = true), pw_W q (n, f) S → pw_p (m_X9_buildFrom_7 N S v0 v1 v2) (fun S' r => ∀ f', pw_W q (n, f') S' → Q none (n, f')) → np_G X 7 [(0, .ref (pw_pl 57 v0)), (1, .ref (pw_pl 56 v1)), (2, .int v2)] [] (n, f) 0 0 := by
  intro N
  induction N with
  | zero =>
    intro S v0 v1 v2 f hv0 hv1 hW h
    exact (pw_pn h).elim
  | succ N ih =>
    intro S v0 v1 v2 f hv0 hv1 hW h
    unfold m_X9_buildFrom_7 at h
    refine np_soundW (so_X9_buildFrom hX hR) [7] 400 7 _ _ _ _ _ ?_
    conv => whnf
    refine pw_br h (fun _ h => ?_) (fun _ h => ?_)
    · conv => whnf
      exact ⟨Nat.le_of_ble_eq_true rfl, Nat.le_of_ble_eq_true rfl, rfl, _, fun _ _ h9 => h9, pw_ps h _ hW⟩
    · conv => whnf
      refine np_rd_i (hW.g hv1) ?_
      conv => whnf
      refine ⟨q, S, 19, 0, v2, (-1), rfl, rfl, rfl, hW, pw_bd h (fun S1 r4 h f2 hW3 => ?_)⟩
      conv => whnf
      refine np_rd_i (hW3.g hv1) ?_
      conv => whnf
      refine ⟨q, S1, 20, 0, v2, 0, rfl, rfl, rfl, hW3, pw_bd h (fun S6 r9 h f7 hW8 => ?_)⟩
      conv => whnf
      refine np_rd_i (hW8.g hv1) ?_
      conv => whnf
      refine ⟨q, S6, 21, 0, v2, 0, rfl, rfl, rfl, hW8, pw_bd h (fun S11 r14 h f12 hW13 => ?_)⟩
      conv => whnf
      refine np_rd_i (hW13.g hv0) ?_
      conv => whnf
      refine ⟨q, S11, v0, r4, r9, r14, rfl, hv0, hW13, pw_bd h (fun S16 r19 h f17 hW18 => ?_)⟩
      conv => whnf
      refine np_rd_i (hW18.g hv0) ?_
      conv => whnf
      refine np_rd_i (hW18.g hv0) ?_
      conv => whnf
      refine ⟨q, S16, 24, v0, v2, (S16 57 v0 6), rfl, rfl, hv0, hW18, pw_bd h (fun S21 r24 h f22 hW23 => ?_)⟩
      conv => whnf
      refine pw_st h (fun z26 h => ?_)
      conv => whnf
      exact np_gl (ih S21 v0 v1 z26 f22 hv0 hv1 hW23 h) ⟨rfl, rfl, rfl, trivial⟩
noncomputable def m_X9_buildFrom (S : pw_S) (i0 : Nat) (i1 : Nat) : pw_R Unit :=
 pw_l (pw_up S 57 i0 (upd (S 57 i0) 6 0)) fun S27 =>
 pw_l (0 : Int32) fun z30 =>
 m_X9_buildFrom_7 (pw_F 20000) S27 i0 i1 z30
def sp_X9_buildFrom : np_Sp := fun vs w Q => ∃ (q : Nat) (S : pw_S) (i0 : Nat) (i1 : Nat), vs = [.ref (pw_pl 57 i0), .ref (pw_pl 56 i1)] ∧ pw_ok q 57 i0 = true ∧ pw_ok q 56 i1 = true ∧ pw_W q w S ∧ pw_p (m_X9_buildFrom S i0 i1) (fun S' r => ∀ f', pw_W q (w.1, f') S' → Q none (w.1, f'))
set_option maxRecDepth 100000 in
set_option maxHeartbeats 8000000 in
theorem C_X9_buildFrom : np_C yX9_buildFrom cX9_buildFrom 3 none 3 67 0 0 sp_X9_buildFrom := by
  refine np_of (by decide) ?_
  intro X vs w Q hsp hX hmn hRt hlt
  obtain ⟨q, S, i0, i1, rfl, hi0, hi1, hW, h⟩ := hsp
  obtain ⟨n, f⟩ := w
  unfold m_X9_buildFrom at h
  have hR : ∀ st w ce sl, np_rt none 0 0 Q st w ce sl → X.2.2.1 st w ce sl := fun _ _ _ _ h => by rw [hRt]; exact h
  refine np_soundW (so_X9_buildFrom hX hR) [7] 400 0 _ _ _ _ _ ?_
  conv => whnf
  refine np_rd_i (hW.g hi0) ?_
  conv => whnf
  refine pw_wr (a := 57) (i := i0) (d := upd (S 57 i0) 6 0) hW hi0 rfl h (fun S27 f28 hW29 h => ?_)
  conv => whnf
  refine pw_st h (fun z30 h => ?_)
  conv => whnf
  exact np_gl (L_X9_buildFrom_7 hX hR (pw_F 20000) S27 i0 i1 z30 f28 hi0 hi1 hW29 h) ⟨rfl, rfl, rfl, trivial⟩
theorem dX9_isMadeOf_0 : decode cX9_isMadeOf 0 = .ok (.aload_n 0, 1) := by decide +kernel
theorem dX9_isMadeOf_1 : decode cX9_isMadeOf 1 = .ok (.iload_n 2, 1) := by decide +kernel
theorem dX9_isMadeOf_2 : decode cX9_isMadeOf 2 = .ok (.invokevirtual 38, 3) := by decide +kernel
theorem dX9_isMadeOf_5 : decode cX9_isMadeOf 5 = .ok (.istore_n 3, 1) := by decide +kernel
theorem dX9_isMadeOf_6 : decode cX9_isMadeOf 6 = .ok (.iload_n 3, 1) := by decide +kernel
theorem dX9_isMadeOf_7 : decode cX9_isMadeOf 7 = .ok (.aload_n 0, 1) := by decide +kernel
theorem dX9_isMadeOf_8 : decode cX9_isMadeOf 8 = .ok (.iload_n 2, 1) := by decide +kernel
theorem dX9_isMadeOf_9 : decode cX9_isMadeOf 9 = .ok (.invokevirtual 30, 3) := by decide +kernel
theorem dX9_isMadeOf_12 : decode cX9_isMadeOf 12 = .ok (.if_icmp .ge 31, 3) := by decide +kernel
theorem dX9_isMadeOf_15 : decode cX9_isMadeOf 15 = .ok (.aload_n 0, 1) := by decide +kernel
theorem dX9_isMadeOf_16 : decode cX9_isMadeOf 16 = .ok (.iload_n 3, 1) := by decide +kernel
theorem dX9_isMadeOf_17 : decode cX9_isMadeOf 17 = .ok (.invokevirtual 74, 3) := by decide +kernel
theorem dX9_isMadeOf_20 : decode cX9_isMadeOf 20 = .ok (.ifCond .ne 17, 3) := by decide +kernel
theorem dX9_isMadeOf_23 : decode cX9_isMadeOf 23 = .ok (.aload_n 1, 1) := by decide +kernel
theorem dX9_isMadeOf_24 : decode cX9_isMadeOf 24 = .ok (.aload_n 0, 1) := by decide +kernel
theorem dX9_isMadeOf_25 : decode cX9_isMadeOf 25 = .ok (.iload_n 3, 1) := by decide +kernel
theorem dX9_isMadeOf_26 : decode cX9_isMadeOf 26 = .ok (.invokevirtual 77, 3) := by decide +kernel
theorem dX9_isMadeOf_29 : decode cX9_isMadeOf 29 = .ok (.invokevirtual 80, 3) := by decide +kernel
theorem dX9_isMadeOf_32 : decode cX9_isMadeOf 32 = .ok (.ifCond .ne 5, 3) := by decide +kernel
theorem dX9_isMadeOf_35 : decode cX9_isMadeOf 35 = .ok (.iconst 0, 1) := by decide +kernel
theorem dX9_isMadeOf_36 : decode cX9_isMadeOf 36 = .ok (.ireturn, 1) := by decide +kernel
theorem dX9_isMadeOf_37 : decode cX9_isMadeOf 37 = .ok (.iinc 3 1, 3) := by decide +kernel
theorem dX9_isMadeOf_40 : decode cX9_isMadeOf 40 = .ok (.goto (-34), 3) := by decide +kernel
theorem dX9_isMadeOf_43 : decode cX9_isMadeOf 43 = .ok (.iconst 1, 1) := by decide +kernel
theorem dX9_isMadeOf_44 : decode cX9_isMadeOf 44 = .ok (.ireturn, 1) := by decide +kernel
def is_X9_isMadeOf (Rt : np_Rt) : List (Nat × np_Op) := [(0, np_ald 1 0), (1, np_ild 1 2), (2, nw_callV 9 2 sp_X9_start 2 0 0 0 0), (5, nw_ist 1 3), (6, np_ild 1 3), (7, np_ald 1 0), (8, np_ild 1 2), (9, nw_callV 9 2 sp_X9_end 2 0 0 0 0), (12, nq_ic (fun x y => y ≤ x) 43), (15, np_ald 1 0), (16, np_ild 1 3), (17, nw_callV 9 2 sp_X9_kind 2 0 0 0 0), (20, nq_ifne 37), (23, np_ald 1 1), (24, np_ald 1 0), (25, np_ild 1 3), (26, nw_callV 9 2 sp_X9_number 2 0 0 0 0), (29, nw_callV 9 2 sp_X9_tells 2 0 0 0 0), (32, nq_ifne 37), (35, np_push 1 (.int 0)), (36, np_ret Rt), (37, nw_iinc 3 1), (40, np_goto 6), (43, np_push 1 (.int 1)), (44, np_ret Rt)]
set_option maxRecDepth 20000 in
theorem so_X9_isMadeOf {X : np_Ctx} {Rt : np_Rt} (hX : np_ok RX9 cX9_isMadeOf 4 4 85 0 0 .ireturn X) (hR : ∀ st w ce sl, Rt st w ce sl → X.2.2.1 st w ce sl) : ∀ q ∈ is_X9_isMadeOf Rt, np_S X q.1 q.2 :=
  List.forall_mem_cons.mpr ⟨np_s_aload_n hX dX9_isMadeOf_0 rfl, List.forall_mem_cons.mpr ⟨np_s_iload_n hX dX9_isMadeOf_1 rfl, List.forall_mem_cons.mpr ⟨np_S.mono (op := np_callV 9 2 sp_X9_start 2 0 0 0 0) (np_s_callV hX C_X9_start dX9_isMadeOf_2 (q := (RX9, TX9, 7)) rfl rfl gw1363 gw74 gw1360 gw1362 gw43 ⟨by decide, by decide, by decide⟩ (by decide) (by decide)) nw_callV_le, List.forall_mem_cons.mpr ⟨np_S.mono (op := np_ist 1 3) (np_s_istore_n hX dX9_isMadeOf_5 rfl (by decide)) nw_ist_le, List.forall_mem_cons.mpr ⟨np_s_iload_n hX dX9_isMadeOf_6 rfl, List.forall_mem_cons.mpr ⟨np_s_aload_n hX dX9_isMadeOf_7 rfl, List.forall_mem_cons.mpr ⟨np_s_iload_n hX dX9_isMadeOf_8 rfl, List.forall_mem_cons.mpr ⟨np_S.mono (op := np_callV 9 2 sp_X9_end 2 0 0 0 0) (np_s_callV hX C_X9_end dX9_isMadeOf_9 (q := (RX9, TX9, 7)) rfl rfl gw1367 gw74 gw1364 gw1366 gw44 ⟨by decide, by decide, by decide⟩ (by decide) (by decide)) nw_callV_le, List.forall_mem_cons.mpr ⟨np_S.mono (op := np_ic (fun x y => y ≤ x) 43) (np_s_icmp_ge hX dX9_isMadeOf_12 (by decide)) nq_ic_le, List.forall_mem_cons.mpr ⟨np_s_aload_n hX dX9_isMadeOf_15 rfl, List.forall_mem_cons.mpr ⟨np_s_iload_n hX dX9_isMadeOf_16 rfl, List.forall_mem_cons.mpr ⟨np_S.mono (op := np_callV 9 2 sp_X9_kind 2 0 0 0 0) (np_s_callV hX C_X9_kind dX9_isMadeOf_17 (q := (RX9, TX9, 7)) rfl rfl gw1371 gw74 gw1368 gw1370 gw45 ⟨by decide, by decide, by decide⟩ (by decide) (by decide)) nw_callV_le, List.forall_mem_cons.mpr ⟨np_S.mono (op := np_ifne 37) (np_s_if_ne hX dX9_isMadeOf_20 (by decide)) nq_ifne_le, List.forall_mem_cons.mpr ⟨np_s_aload_n hX dX9_isMadeOf_23 rfl, List.forall_mem_cons.mpr ⟨np_s_aload_n hX dX9_isMadeOf_24 rfl, List.forall_mem_cons.mpr ⟨np_s_iload_n hX dX9_isMadeOf_25 rfl, List.forall_mem_cons.mpr ⟨np_S.mono (op := np_callV 9 2 sp_X9_number 2 0 0 0 0) (np_s_callV hX C_X9_number dX9_isMadeOf_26 (q := (RX9, TX9, 7)) rfl rfl gw1375 gw74 gw1372 gw1374 gw46 ⟨by decide, by decide, by decide⟩ (by decide) (by decide)) nw_callV_le, List.forall_mem_cons.mpr ⟨np_S.mono (op := np_callV 9 2 sp_X9_tells 2 0 0 0 0) (np_s_callV hX C_X9_tells dX9_isMadeOf_29 (q := (RX9, TX9, 7)) rfl rfl gw1379 gw74 gw1376 gw1378 gw47 ⟨by decide, by decide, by decide⟩ (by decide) (by decide)) nw_callV_le, List.forall_mem_cons.mpr ⟨np_S.mono (op := np_ifne 37) (np_s_if_ne hX dX9_isMadeOf_32 (by decide)) nq_ifne_le, List.forall_mem_cons.mpr ⟨np_s_iconst hX dX9_isMadeOf_35 (by decide), List.forall_mem_cons.mpr ⟨np_S.mono (op := np_ret X.2.2.1) (np_s_ret hX dX9_isMadeOf_36) (nq_ret_le hR), List.forall_mem_cons.mpr ⟨np_S.mono (op := np_iinc 3 1) (np_s_iinc hX dX9_isMadeOf_37 (by decide)) nw_iinc_le, List.forall_mem_cons.mpr ⟨np_s_goto hX dX9_isMadeOf_40 (by decide), List.forall_mem_cons.mpr ⟨np_s_iconst hX dX9_isMadeOf_43 (by decide), List.forall_mem_cons.mpr ⟨np_S.mono (op := np_ret X.2.2.1) (np_s_ret hX dX9_isMadeOf_44) (nq_ret_le hR), fun _ h => nomatch h⟩⟩⟩⟩⟩⟩⟩⟩⟩⟩⟩⟩⟩⟩⟩⟩⟩⟩⟩⟩⟩⟩⟩⟩⟩
noncomputable def m_X9_isMadeOf_6 : Nat → pw_S → Nat → Nat → Int32 → Int32 → pw_R Int32
| 0, _, _, _, _, _ => none
| N + 1, S, v0, v1, v2, v3 =>
 pw_b (m_X9_end S v0 v2) fun S1 r4 =>
 if r4 ≤ v3 then
 (some (S1, 1))
 else
 (pw_b (m_X9_kind S1 v0 v3) fun S6 r9 =>
 if r9 = 0 then
 (pw_b (m_X9_number S6 v0 v3) fun S11 r14 =>
 pw_b (m_X9_tells S11 v1 r14) fun S16 r19 =>
 if r19 = 0 then
 (some (S16, 0))
 else
 (pw_l (v3 + 1 : Int32) fun z21 =>
 m_X9_isMadeOf_6 N S16 v0 v1 v2 z21))
 else
 (pw_l (v3 + 1 : Int32) fun z22 =>
 m_X9_isMadeOf_6 N S6 v0 v1 v2 z22))
set_option maxRecDepth 100000 in
set_option maxHeartbeats 8000000 in
theorem L_X9_isMadeOf_6 {X : np_Ctx} (hX : np_ok RX9 cX9_isMadeOf 4 4 85 0 0 .ireturn X) {Q : Option Value → np_W → Prop} {q n : Nat} (hR : ∀ st w ce sl, np_rt (some .boolean) 0 0 Q st w ce sl → X.2.2.1 st w ce sl) : ∀ (N : Nat) (S : pw_S) (v0 : Nat) (v1 : Nat) (v2 : Int32) (v3 : Int32) (f : Nat → Option np_E) (hv0 : pw_ok q 57 v0 = true) (hv1 : pw_ok q 57 v1 = true), pw_W q (n, f) S → pw_p (m_X9_isMadeOf_6 N S v0 v1 v2 v3) (fun S' r => ∀ f', pw_W q (n, f') S' → Q (some (.int r)) (n, f')) → np_G X 6 [(0, .ref (pw_pl 57 v0)), (1, .ref (pw_pl 57 v1)), (2, .int v2), (3, .int v3)] [] (n, f) 0 0 := by
  intro N
  induction N with
  | zero =>
    intro S v0 v1 v2 v3 f hv0 hv1 hW h
    exact (pw_pn h).elim
  | succ N ih =>
    intro S v0 v1 v2 v3 f hv0 hv1 hW h
    unfold m_X9_isMadeOf_6 at h
    refine np_soundW (so_X9_isMadeOf hX hR) [6] 400 6 _ _ _ _ _ ?_
    conv => whnf
    refine np_rd_i (hW.g hv0) ?_
    conv => whnf
    refine ⟨q, S, v0, v2, rfl, hv0, hW, pw_bd h (fun S1 r4 h f2 hW3 => ?_)⟩
    conv => whnf
    refine pw_br h (fun _ h => ?_) (fun _ h => ?_)
    · conv => whnf
      exact ⟨Nat.le_of_ble_eq_true rfl, Nat.le_of_ble_eq_true rfl, ⟨_, rfl, by decide⟩, _, fun _ _ h9 => h9, pw_ps h _ hW3⟩
    · conv => whnf
      refine np_rd_i (hW3.g hv0) ?_
      conv => whnf
      refine ⟨q, S1, v0, v3, rfl, hv0, hW3, pw_bd h (fun S6 r9 h f7 hW8 => ?_)⟩
      conv => whnf
      refine pw_br h (fun _ h => ?_) (fun _ h => ?_)
      · conv => whnf
        refine np_rd_i (hW8.g hv0) ?_
        conv => whnf
        refine ⟨q, S6, v0, v3, rfl, hv0, hW8, pw_bd h (fun S11 r14 h f12 hW13 => ?_)⟩
        conv => whnf
        refine np_rd_i (hW13.g hv1) ?_
        conv => whnf
        refine ⟨q, S11, v1, r14, rfl, hv1, hW13, pw_bd h (fun S16 r19 h f17 hW18 => ?_)⟩
        conv => whnf
        refine pw_br h (fun _ h => ?_) (fun _ h => ?_)
        · conv => whnf
          exact ⟨Nat.le_of_ble_eq_true rfl, Nat.le_of_ble_eq_true rfl, ⟨_, rfl, by decide⟩, _, fun _ _ h9 => h9, pw_ps h _ hW18⟩
        · conv => whnf
          refine pw_st h (fun z21 h => ?_)
          conv => whnf
          exact np_gl (ih S16 v0 v1 v2 z21 f17 hv0 hv1 hW18 h) ⟨rfl, rfl, rfl, rfl, trivial⟩
      · conv => whnf
        refine pw_st h (fun z22 h => ?_)
        conv => whnf
        exact np_gl (ih S6 v0 v1 v2 z22 f7 hv0 hv1 hW8 h) ⟨rfl, rfl, rfl, rfl, trivial⟩
noncomputable def m_X9_isMadeOf (S : pw_S) (i0 : Nat) (i1 : Nat) (x2 : Int32) : pw_R Int32 :=
 pw_b (m_X9_start S i0 x2) fun S23 r26 =>
 pw_l (r26 : Int32) fun z28 =>
 m_X9_isMadeOf_6 (pw_F 20000) S23 i0 i1 x2 z28
def sp_X9_isMadeOf : np_Sp := fun vs w Q => ∃ (q : Nat) (S : pw_S) (i0 : Nat) (i1 : Nat) (x2 : Int32), vs = [.ref (pw_pl 57 i0), .ref (pw_pl 57 i1), .int x2] ∧ pw_ok q 57 i0 = true ∧ pw_ok q 57 i1 = true ∧ pw_W q w S ∧ pw_p (m_X9_isMadeOf S i0 i1 x2) (fun S' r => ∀ f', pw_W q (w.1, f') S' → Q (some (.int r)) (w.1, f'))
set_option maxRecDepth 100000 in
set_option maxHeartbeats 8000000 in
theorem C_X9_isMadeOf : np_C yX9_isMadeOf cX9_isMadeOf 4 (some .boolean) 4 85 0 0 sp_X9_isMadeOf := by
  refine np_of (by decide) ?_
  intro X vs w Q hsp hX hmn hRt hlt
  obtain ⟨q, S, i0, i1, x2, rfl, hi0, hi1, hW, h⟩ := hsp
  obtain ⟨n, f⟩ := w
  unfold m_X9_isMadeOf at h
  have hR : ∀ st w ce sl, np_rt (some .boolean) 0 0 Q st w ce sl → X.2.2.1 st w ce sl := fun _ _ _ _ h => by rw [hRt]; exact h
  refine np_soundW (so_X9_isMadeOf hX hR) [6] 400 0 _ _ _ _ _ ?_
  conv => whnf
  refine np_rd_i (hW.g hi0) ?_
  conv => whnf
  refine ⟨q, S, i0, x2, rfl, hi0, hW, pw_bd h (fun S23 r26 h f24 hW25 => ?_)⟩
  conv => whnf
  refine pw_st h (fun z28 h => ?_)
  conv => whnf
  exact np_gl (L_X9_isMadeOf_6 hX hR (pw_F 20000) S23 i0 i1 x2 z28 f24 hi0 hi1 hW25 h) ⟨rfl, rfl, rfl, rfl, trivial⟩
theorem dX9_addTold_0 : decode cX9_addTold 0 = .ok (.aload_n 1, 1) := by decide +kernel
theorem dX9_addTold_1 : decode cX9_addTold 1 = .ok (.iload_n 2, 1) := by decide +kernel
theorem dX9_addTold_2 : decode cX9_addTold 2 = .ok (.invokevirtual 38, 3) := by decide +kernel
theorem dX9_addTold_5 : decode cX9_addTold 5 = .ok (.istore_n 3, 1) := by decide +kernel
theorem dX9_addTold_6 : decode cX9_addTold 6 = .ok (.iload_n 3, 1) := by decide +kernel
theorem dX9_addTold_7 : decode cX9_addTold 7 = .ok (.aload_n 1, 1) := by decide +kernel
theorem dX9_addTold_8 : decode cX9_addTold 8 = .ok (.iload_n 2, 1) := by decide +kernel
theorem dX9_addTold_9 : decode cX9_addTold 9 = .ok (.invokevirtual 30, 3) := by decide +kernel
theorem dX9_addTold_12 : decode cX9_addTold 12 = .ok (.if_icmp .ge 23, 3) := by decide +kernel
theorem dX9_addTold_15 : decode cX9_addTold 15 = .ok (.aload_n 0, 1) := by decide +kernel
theorem dX9_addTold_16 : decode cX9_addTold 16 = .ok (.aload_n 1, 1) := by decide +kernel
theorem dX9_addTold_17 : decode cX9_addTold 17 = .ok (.iload_n 3, 1) := by decide +kernel
theorem dX9_addTold_18 : decode cX9_addTold 18 = .ok (.invokevirtual 74, 3) := by decide +kernel
theorem dX9_addTold_21 : decode cX9_addTold 21 = .ok (.aload_n 1, 1) := by decide +kernel
theorem dX9_addTold_22 : decode cX9_addTold 22 = .ok (.iload_n 3, 1) := by decide +kernel
theorem dX9_addTold_23 : decode cX9_addTold 23 = .ok (.invokevirtual 77, 3) := by decide +kernel
theorem dX9_addTold_26 : decode cX9_addTold 26 = .ok (.invokevirtual 62, 3) := by decide +kernel
theorem dX9_addTold_29 : decode cX9_addTold 29 = .ok (.iinc 3 1, 3) := by decide +kernel
theorem dX9_addTold_32 : decode cX9_addTold 32 = .ok (.goto (-26), 3) := by decide +kernel
theorem dX9_addTold_35 : decode cX9_addTold 35 = .ok (.return_, 1) := by decide +kernel
def is_X9_addTold (Rt : np_Rt) : List (Nat × np_Op) := [(0, np_ald 1 1), (1, np_ild 1 2), (2, nw_callV 9 2 sp_X9_start 2 0 0 0 0), (5, nw_ist 1 3), (6, np_ild 1 3), (7, np_ald 1 1), (8, np_ild 1 2), (9, nw_callV 9 2 sp_X9_end 2 0 0 0 0), (12, nq_ic (fun x y => y ≤ x) 35), (15, np_ald 1 0), (16, np_ald 1 1), (17, np_ild 1 3), (18, nw_callV 9 2 sp_X9_kind 2 0 0 0 0), (21, np_ald 1 1), (22, np_ild 1 3), (23, nw_callV 9 2 sp_X9_number 2 0 0 0 0), (26, nw_callV 9 3 sp_X9_add 3 0 0 0 0), (29, nw_iinc 3 1), (32, np_goto 6), (35, np_ret Rt)]
set_option maxRecDepth 20000 in
theorem so_X9_addTold {X : np_Ctx} {Rt : np_Rt} (hX : np_ok RX9 cX9_addTold 4 3 64 0 0 .return_ X) (hR : ∀ st w ce sl, Rt st w ce sl → X.2.2.1 st w ce sl) : ∀ q ∈ is_X9_addTold Rt, np_S X q.1 q.2 :=
  List.forall_mem_cons.mpr ⟨np_s_aload_n hX dX9_addTold_0 rfl, List.forall_mem_cons.mpr ⟨np_s_iload_n hX dX9_addTold_1 rfl, List.forall_mem_cons.mpr ⟨np_S.mono (op := np_callV 9 2 sp_X9_start 2 0 0 0 0) (np_s_callV hX C_X9_start dX9_addTold_2 (q := (RX9, TX9, 7)) rfl rfl gw1363 gw74 gw1360 gw1362 gw43 ⟨by decide, by decide, by decide⟩ (by decide) (by decide)) nw_callV_le, List.forall_mem_cons.mpr ⟨np_S.mono (op := np_ist 1 3) (np_s_istore_n hX dX9_addTold_5 rfl (by decide)) nw_ist_le, List.forall_mem_cons.mpr ⟨np_s_iload_n hX dX9_addTold_6 rfl, List.forall_mem_cons.mpr ⟨np_s_aload_n hX dX9_addTold_7 rfl, List.forall_mem_cons.mpr ⟨np_s_iload_n hX dX9_addTold_8 rfl, List.forall_mem_cons.mpr ⟨np_S.mono (op := np_callV 9 2 sp_X9_end 2 0 0 0 0) (np_s_callV hX C_X9_end dX9_addTold_9 (q := (RX9, TX9, 7)) rfl rfl gw1367 gw74 gw1364 gw1366 gw44 ⟨by decide, by decide, by decide⟩ (by decide) (by decide)) nw_callV_le, List.forall_mem_cons.mpr ⟨np_S.mono (op := np_ic (fun x y => y ≤ x) 35) (np_s_icmp_ge hX dX9_addTold_12 (by decide)) nq_ic_le, List.forall_mem_cons.mpr ⟨np_s_aload_n hX dX9_addTold_15 rfl, List.forall_mem_cons.mpr ⟨np_s_aload_n hX dX9_addTold_16 rfl, List.forall_mem_cons.mpr ⟨np_s_iload_n hX dX9_addTold_17 rfl, List.forall_mem_cons.mpr ⟨np_S.mono (op := np_callV 9 2 sp_X9_kind 2 0 0 0 0) (np_s_callV hX C_X9_kind dX9_addTold_18 (q := (RX9, TX9, 7)) rfl rfl gw1371 gw74 gw1368 gw1370 gw45 ⟨by decide, by decide, by decide⟩ (by decide) (by decide)) nw_callV_le, List.forall_mem_cons.mpr ⟨np_s_aload_n hX dX9_addTold_21 rfl, List.forall_mem_cons.mpr ⟨np_s_iload_n hX dX9_addTold_22 rfl, List.forall_mem_cons.mpr ⟨np_S.mono (op := np_callV 9 2 sp_X9_number 2 0 0 0 0) (np_s_callV hX C_X9_number dX9_addTold_23 (q := (RX9, TX9, 7)) rfl rfl gw1375 gw74 gw1372 gw1374 gw46 ⟨by decide, by decide, by decide⟩ (by decide) (by decide)) nw_callV_le, List.forall_mem_cons.mpr ⟨np_S.mono (op := np_callV 9 3 sp_X9_add 3 0 0 0 0) (np_s_callV hX C_X9_add dX9_addTold_26 (q := (RX9, TX9, 7)) rfl rfl gw1328 gw74 gw1325 gw1327 gw40 ⟨by decide, by decide, by decide⟩ (by decide) (by decide)) nw_callV_le, List.forall_mem_cons.mpr ⟨np_S.mono (op := np_iinc 3 1) (np_s_iinc hX dX9_addTold_29 (by decide)) nw_iinc_le, List.forall_mem_cons.mpr ⟨np_s_goto hX dX9_addTold_32 (by decide), List.forall_mem_cons.mpr ⟨np_S.mono (op := np_ret X.2.2.1) (np_s_ret hX dX9_addTold_35) (nq_ret_le hR), fun _ h => nomatch h⟩⟩⟩⟩⟩⟩⟩⟩⟩⟩⟩⟩⟩⟩⟩⟩⟩⟩⟩⟩
noncomputable def m_X9_addTold_6 : Nat → pw_S → Nat → Nat → Int32 → Int32 → pw_R Unit
| 0, _, _, _, _, _ => none
| N + 1, S, v0, v1, v2, v3 =>
 pw_b (m_X9_end S v1 v2) fun S1 r4 =>
 if r4 ≤ v3 then
 (some (S1, ()))
 else
 (pw_b (m_X9_kind S1 v1 v3) fun S6 r9 =>
 pw_b (m_X9_number S6 v1 v3) fun S11 r14 =>
 pw_b (m_X9_add S11 v0 r9 r14) fun S16 r19 =>
 pw_l (v3 + 1 : Int32) fun z21 =>
 m_X9_addTold_6 N S16 v0 v1 v2 z21)
set_option maxRecDepth 100000 in
set_option maxHeartbeats 8000000 in
theorem L_X9_addTold_6 {X : np_Ctx} (hX : np_ok RX9 cX9_addTold 4 3 64 0 0 .return_ X) {Q : Option Value → np_W → Prop} {q n : Nat} (hR : ∀ st w ce sl, np_rt none 0 0 Q st w ce sl → X.2.2.1 st w ce sl) : ∀ (N : Nat) (S : pw_S) (v0 : Nat) (v1 : Nat) (v2 : Int32) (v3 : Int32) (f : Nat → Option np_E) (hv0 : pw_ok q 57 v0 = true) (hv1 : pw_ok q 57 v1 = true), pw_W q (n, f) S → pw_p (m_X9_addTold_6 N S v0 v1 v2 v3) (fun S' r => ∀ f', pw_W q (n, f') S' → Q none (n, f')) → np_G X 6 [(0, .ref (pw_pl 57 v0)), (1, .ref (pw_pl 57 v1)), (2, .int v2), (3, .int v3)] [] (n, f) 0 0 := by
  intro N
  induction N with
  | zero =>
    intro S v0 v1 v2 v3 f hv0 hv1 hW h
    exact (pw_pn h).elim
  | succ N ih =>
    intro S v0 v1 v2 v3 f hv0 hv1 hW h
    unfold m_X9_addTold_6 at h
    refine np_soundW (so_X9_addTold hX hR) [6] 400 6 _ _ _ _ _ ?_
    conv => whnf
    refine np_rd_i (hW.g hv1) ?_
    conv => whnf
    refine ⟨q, S, v1, v2, rfl, hv1, hW, pw_bd h (fun S1 r4 h f2 hW3 => ?_)⟩
    conv => whnf
    refine pw_br h (fun _ h => ?_) (fun _ h => ?_)
    · conv => whnf
      exact ⟨Nat.le_of_ble_eq_true rfl, Nat.le_of_ble_eq_true rfl, rfl, _, fun _ _ h9 => h9, pw_ps h _ hW3⟩
    · conv => whnf
      refine np_rd_i (hW3.g hv1) ?_
      conv => whnf
      refine ⟨q, S1, v1, v3, rfl, hv1, hW3, pw_bd h (fun S6 r9 h f7 hW8 => ?_)⟩
      conv => whnf
      refine np_rd_i (hW8.g hv1) ?_
      conv => whnf
      refine ⟨q, S6, v1, v3, rfl, hv1, hW8, pw_bd h (fun S11 r14 h f12 hW13 => ?_)⟩
      conv => whnf
      refine np_rd_i (hW13.g hv0) ?_
      conv => whnf
      refine ⟨q, S11, v0, r9, r14, rfl, hv0, hW13, pw_bd h (fun S16 r19 h f17 hW18 => ?_)⟩
      conv => whnf
      refine pw_st h (fun z21 h => ?_)
      conv => whnf
      exact np_gl (ih S16 v0 v1 v2 z21 f17 hv0 hv1 hW18 h) ⟨rfl, rfl, rfl, rfl, trivial⟩
noncomputable def m_X9_addTold (S : pw_S) (i0 : Nat) (i1 : Nat) (x2 : Int32) : pw_R Unit :=
 pw_b (m_X9_start S i1 x2) fun S22 r25 =>
 pw_l (r25 : Int32) fun z27 =>
 m_X9_addTold_6 (pw_F 20000) S22 i0 i1 x2 z27
def sp_X9_addTold : np_Sp := fun vs w Q => ∃ (q : Nat) (S : pw_S) (i0 : Nat) (i1 : Nat) (x2 : Int32), vs = [.ref (pw_pl 57 i0), .ref (pw_pl 57 i1), .int x2] ∧ pw_ok q 57 i0 = true ∧ pw_ok q 57 i1 = true ∧ pw_W q w S ∧ pw_p (m_X9_addTold S i0 i1 x2) (fun S' r => ∀ f', pw_W q (w.1, f') S' → Q none (w.1, f'))
set_option maxRecDepth 100000 in
set_option maxHeartbeats 8000000 in
theorem C_X9_addTold : np_C yX9_addTold cX9_addTold 4 none 3 64 0 0 sp_X9_addTold := by
  refine np_of (by decide) ?_
  intro X vs w Q hsp hX hmn hRt hlt
  obtain ⟨q, S, i0, i1, x2, rfl, hi0, hi1, hW, h⟩ := hsp
  obtain ⟨n, f⟩ := w
  unfold m_X9_addTold at h
  have hR : ∀ st w ce sl, np_rt none 0 0 Q st w ce sl → X.2.2.1 st w ce sl := fun _ _ _ _ h => by rw [hRt]; exact h
  refine np_soundW (so_X9_addTold hX hR) [6] 400 0 _ _ _ _ _ ?_
  conv => whnf
  refine np_rd_i (hW.g hi1) ?_
  conv => whnf
  refine ⟨q, S, i1, x2, rfl, hi1, hW, pw_bd h (fun S22 r25 h f23 hW24 => ?_)⟩
  conv => whnf
  refine pw_st h (fun z27 h => ?_)
  conv => whnf
  exact np_gl (L_X9_addTold_6 hX hR (pw_F 20000) S22 i0 i1 x2 z27 f23 hi0 hi1 hW24 h) ⟨rfl, rfl, rfl, rfl, trivial⟩
theorem dX9_addComposed_0 : decode cX9_addComposed 0 = .ok (.aload_n 2, 1) := by decide +kernel
theorem dX9_addComposed_1 : decode cX9_addComposed 1 = .ok (.iload_n 3, 1) := by decide +kernel
theorem dX9_addComposed_2 : decode cX9_addComposed 2 = .ok (.invokevirtual 38, 3) := by decide +kernel
theorem dX9_addComposed_5 : decode cX9_addComposed 5 = .ok (.istore 4, 2) := by decide +kernel
theorem dX9_addComposed_7 : decode cX9_addComposed 7 = .ok (.iload 4, 2) := by decide +kernel
theorem dX9_addComposed_9 : decode cX9_addComposed 9 = .ok (.aload_n 2, 1) := by decide +kernel
theorem dX9_addComposed_10 : decode cX9_addComposed 10 = .ok (.iload_n 3, 1) := by decide +kernel
theorem dX9_addComposed_11 : decode cX9_addComposed 11 = .ok (.invokevirtual 30, 3) := by decide +kernel
theorem dX9_addComposed_14 : decode cX9_addComposed 14 = .ok (.if_icmp .ge 48, 3) := by decide +kernel
theorem dX9_addComposed_17 : decode cX9_addComposed 17 = .ok (.aload_n 2, 1) := by decide +kernel
theorem dX9_addComposed_18 : decode cX9_addComposed 18 = .ok (.iload 4, 2) := by decide +kernel
theorem dX9_addComposed_20 : decode cX9_addComposed 20 = .ok (.invokevirtual 74, 3) := by decide +kernel
theorem dX9_addComposed_23 : decode cX9_addComposed 23 = .ok (.ifCond .ne 17, 3) := by decide +kernel
theorem dX9_addComposed_26 : decode cX9_addComposed 26 = .ok (.aload_n 0, 1) := by decide +kernel
theorem dX9_addComposed_27 : decode cX9_addComposed 27 = .ok (.aload_n 1, 1) := by decide +kernel
theorem dX9_addComposed_28 : decode cX9_addComposed 28 = .ok (.aload_n 2, 1) := by decide +kernel
theorem dX9_addComposed_29 : decode cX9_addComposed 29 = .ok (.iload 4, 2) := by decide +kernel
theorem dX9_addComposed_31 : decode cX9_addComposed 31 = .ok (.invokevirtual 77, 3) := by decide +kernel
theorem dX9_addComposed_34 : decode cX9_addComposed 34 = .ok (.invokevirtual 84, 3) := by decide +kernel
theorem dX9_addComposed_37 : decode cX9_addComposed 37 = .ok (.goto 19, 3) := by decide +kernel
theorem dX9_addComposed_40 : decode cX9_addComposed 40 = .ok (.aload_n 0, 1) := by decide +kernel
theorem dX9_addComposed_41 : decode cX9_addComposed 41 = .ok (.aload_n 2, 1) := by decide +kernel
theorem dX9_addComposed_42 : decode cX9_addComposed 42 = .ok (.iload 4, 2) := by decide +kernel
theorem dX9_addComposed_44 : decode cX9_addComposed 44 = .ok (.invokevirtual 74, 3) := by decide +kernel
theorem dX9_addComposed_47 : decode cX9_addComposed 47 = .ok (.aload_n 2, 1) := by decide +kernel
theorem dX9_addComposed_48 : decode cX9_addComposed 48 = .ok (.iload 4, 2) := by decide +kernel
theorem dX9_addComposed_50 : decode cX9_addComposed 50 = .ok (.invokevirtual 77, 3) := by decide +kernel
theorem dX9_addComposed_53 : decode cX9_addComposed 53 = .ok (.invokevirtual 62, 3) := by decide +kernel
theorem dX9_addComposed_56 : decode cX9_addComposed 56 = .ok (.iinc 4 1, 3) := by decide +kernel
theorem dX9_addComposed_59 : decode cX9_addComposed 59 = .ok (.goto (-52), 3) := by decide +kernel
theorem dX9_addComposed_62 : decode cX9_addComposed 62 = .ok (.return_, 1) := by decide +kernel
def is_X9_addComposed (Rt : np_Rt) : List (Nat × np_Op) := [(0, np_ald 1 2), (1, np_ild 1 3), (2, nw_callV 9 2 sp_X9_start 2 0 0 0 0), (5, nw_ist 2 4), (7, np_ild 2 4), (9, np_ald 1 2), (10, np_ild 1 3), (11, nw_callV 9 2 sp_X9_end 2 0 0 0 0), (14, nq_ic (fun x y => y ≤ x) 62), (17, np_ald 1 2), (18, np_ild 2 4), (20, nw_callV 9 2 sp_X9_kind 2 0 0 0 0), (23, nq_ifne 40), (26, np_ald 1 0), (27, np_ald 1 1), (28, np_ald 1 2), (29, np_ild 2 4), (31, nw_callV 9 2 sp_X9_number 2 0 0 0 0), (34, nw_callV 9 3 sp_X9_addTold 4 0 0 0 0), (37, np_goto 56), (40, np_ald 1 0), (41, np_ald 1 2), (42, np_ild 2 4), (44, nw_callV 9 2 sp_X9_kind 2 0 0 0 0), (47, np_ald 1 2), (48, np_ild 2 4), (50, nw_callV 9 2 sp_X9_number 2 0 0 0 0), (53, nw_callV 9 3 sp_X9_add 3 0 0 0 0), (56, nw_iinc 4 1), (59, np_goto 7), (62, np_ret Rt)]
set_option maxRecDepth 20000 in
theorem so_X9_addComposed {X : np_Ctx} {Rt : np_Rt} (hX : np_ok RX9 cX9_addComposed 5 4 87 0 0 .return_ X) (hR : ∀ st w ce sl, Rt st w ce sl → X.2.2.1 st w ce sl) : ∀ q ∈ is_X9_addComposed Rt, np_S X q.1 q.2 :=
  List.forall_mem_cons.mpr ⟨np_s_aload_n hX dX9_addComposed_0 rfl, List.forall_mem_cons.mpr ⟨np_s_iload_n hX dX9_addComposed_1 rfl, List.forall_mem_cons.mpr ⟨np_S.mono (op := np_callV 9 2 sp_X9_start 2 0 0 0 0) (np_s_callV hX C_X9_start dX9_addComposed_2 (q := (RX9, TX9, 7)) rfl rfl gw1363 gw74 gw1360 gw1362 gw43 ⟨by decide, by decide, by decide⟩ (by decide) (by decide)) nw_callV_le, List.forall_mem_cons.mpr ⟨np_S.mono (op := np_ist 2 4) (np_s_istore hX dX9_addComposed_5 (by decide)) nw_ist_le, List.forall_mem_cons.mpr ⟨np_s_iload hX dX9_addComposed_7, List.forall_mem_cons.mpr ⟨np_s_aload_n hX dX9_addComposed_9 rfl, List.forall_mem_cons.mpr ⟨np_s_iload_n hX dX9_addComposed_10 rfl, List.forall_mem_cons.mpr ⟨np_S.mono (op := np_callV 9 2 sp_X9_end 2 0 0 0 0) (np_s_callV hX C_X9_end dX9_addComposed_11 (q := (RX9, TX9, 7)) rfl rfl gw1367 gw74 gw1364 gw1366 gw44 ⟨by decide, by decide, by decide⟩ (by decide) (by decide)) nw_callV_le, List.forall_mem_cons.mpr ⟨np_S.mono (op := np_ic (fun x y => y ≤ x) 62) (np_s_icmp_ge hX dX9_addComposed_14 (by decide)) nq_ic_le, List.forall_mem_cons.mpr ⟨np_s_aload_n hX dX9_addComposed_17 rfl, List.forall_mem_cons.mpr ⟨np_s_iload hX dX9_addComposed_18, List.forall_mem_cons.mpr ⟨np_S.mono (op := np_callV 9 2 sp_X9_kind 2 0 0 0 0) (np_s_callV hX C_X9_kind dX9_addComposed_20 (q := (RX9, TX9, 7)) rfl rfl gw1371 gw74 gw1368 gw1370 gw45 ⟨by decide, by decide, by decide⟩ (by decide) (by decide)) nw_callV_le, List.forall_mem_cons.mpr ⟨np_S.mono (op := np_ifne 40) (np_s_if_ne hX dX9_addComposed_23 (by decide)) nq_ifne_le, List.forall_mem_cons.mpr ⟨np_s_aload_n hX dX9_addComposed_26 rfl, List.forall_mem_cons.mpr ⟨np_s_aload_n hX dX9_addComposed_27 rfl, List.forall_mem_cons.mpr ⟨np_s_aload_n hX dX9_addComposed_28 rfl, List.forall_mem_cons.mpr ⟨np_s_iload hX dX9_addComposed_29, List.forall_mem_cons.mpr ⟨np_S.mono (op := np_callV 9 2 sp_X9_number 2 0 0 0 0) (np_s_callV hX C_X9_number dX9_addComposed_31 (q := (RX9, TX9, 7)) rfl rfl gw1375 gw74 gw1372 gw1374 gw46 ⟨by decide, by decide, by decide⟩ (by decide) (by decide)) nw_callV_le, List.forall_mem_cons.mpr ⟨np_S.mono (op := np_callV 9 3 sp_X9_addTold 4 0 0 0 0) (np_s_callV hX C_X9_addTold dX9_addComposed_34 (q := (RX9, TX9, 7)) rfl rfl gw1387 gw74 gw1384 gw1386 gw49 ⟨by decide, by decide, by decide⟩ (by decide) (by decide)) nw_callV_le, List.forall_mem_cons.mpr ⟨np_s_goto hX dX9_addComposed_37 (by decide), List.forall_mem_cons.mpr ⟨np_s_aload_n hX dX9_addComposed_40 rfl, List.forall_mem_cons.mpr ⟨np_s_aload_n hX dX9_addComposed_41 rfl, List.forall_mem_cons.mpr ⟨np_s_iload hX dX9_addComposed_42, List.forall_mem_cons.mpr ⟨np_S.mono (op := np_callV 9 2 sp_X9_kind 2 0 0 0 0) (np_s_callV hX C_X9_kind dX9_addComposed_44 (q := (RX9, TX9, 7)) rfl rfl gw1371 gw74 gw1368 gw1370 gw45 ⟨by decide, by decide, by decide⟩ (by decide) (by decide)) nw_callV_le, List.forall_mem_cons.mpr ⟨np_s_aload_n hX dX9_addComposed_47 rfl, List.forall_mem_cons.mpr ⟨np_s_iload hX dX9_addComposed_48, List.forall_mem_cons.mpr ⟨np_S.mono (op := np_callV 9 2 sp_X9_number 2 0 0 0 0) (np_s_callV hX C_X9_number dX9_addComposed_50 (q := (RX9, TX9, 7)) rfl rfl gw1375 gw74 gw1372 gw1374 gw46 ⟨by decide, by decide, by decide⟩ (by decide) (by decide)) nw_callV_le, List.forall_mem_cons.mpr ⟨np_S.mono (op := np_callV 9 3 sp_X9_add 3 0 0 0 0) (np_s_callV hX C_X9_add dX9_addComposed_53 (q := (RX9, TX9, 7)) rfl rfl gw1328 gw74 gw1325 gw1327 gw40 ⟨by decide, by decide, by decide⟩ (by decide) (by decide)) nw_callV_le, List.forall_mem_cons.mpr ⟨np_S.mono (op := np_iinc 4 1) (np_s_iinc hX dX9_addComposed_56 (by decide)) nw_iinc_le, List.forall_mem_cons.mpr ⟨np_s_goto hX dX9_addComposed_59 (by decide), List.forall_mem_cons.mpr ⟨np_S.mono (op := np_ret X.2.2.1) (np_s_ret hX dX9_addComposed_62) (nq_ret_le hR), fun _ h => nomatch h⟩⟩⟩⟩⟩⟩⟩⟩⟩⟩⟩⟩⟩⟩⟩⟩⟩⟩⟩⟩⟩⟩⟩⟩⟩⟩⟩⟩⟩⟩⟩
noncomputable def m_X9_addComposed_7 : Nat → pw_S → Nat → Nat → Nat → Int32 → Int32 → pw_R Unit
| 0, _, _, _, _, _, _ => none
| N + 1, S, v0, v1, v2, v3, v4 =>
 pw_b (m_X9_end S v2 v3) fun S1 r4 =>
 if r4 ≤ v4 then
 (some (S1, ()))
 else
 (pw_b (m_X9_kind S1 v2 v4) fun S6 r9 =>
 if r9 = 0 then
 (pw_b (m_X9_number S6 v2 v4) fun S11 r14 =>
 pw_b (m_X9_addTold S11 v0 v1 r14) fun S16 r19 =>
 pw_l (v4 + 1 : Int32) fun z21 =>
 m_X9_addComposed_7 N S16 v0 v1 v2 v3 z21)
 else
 (pw_b (m_X9_kind S6 v2 v4) fun S22 r25 =>
 pw_b (m_X9_number S22 v2 v4) fun S27 r30 =>
 pw_b (m_X9_add S27 v0 r25 r30) fun S32 r35 =>
 pw_l (v4 + 1 : Int32) fun z37 =>
 m_X9_addComposed_7 N S32 v0 v1 v2 v3 z37))
set_option maxRecDepth 100000 in
set_option maxHeartbeats 8000000 in
theorem L_X9_addComposed_7 {X : np_Ctx} (hX : np_ok RX9 cX9_addComposed 5 4 87 0 0 .return_ X) {Q : Option Value → np_W → Prop} {q n : Nat} (hR : ∀ st w ce sl, np_rt none 0 0 Q st w ce sl → X.2.2.1 st w ce sl) : ∀ (N : Nat) (S : pw_S) (v0 : Nat) (v1 : Nat) (v2 : Nat) (v3 : Int32) (v4 : Int32) (f : Nat → Option np_E) (hv0 : pw_ok q 57 v0 = true) (hv1 : pw_ok q 57 v1 = true) (hv2 : pw_ok q 57 v2 = true), pw_W q (n, f) S → pw_p (m_X9_addComposed_7 N S v0 v1 v2 v3 v4) (fun S' r => ∀ f', pw_W q (n, f') S' → Q none (n, f')) → np_G X 7 [(0, .ref (pw_pl 57 v0)), (1, .ref (pw_pl 57 v1)), (2, .ref (pw_pl 57 v2)), (3, .int v3), (4, .int v4)] [] (n, f) 0 0 := by
  intro N
  induction N with
  | zero =>
    intro S v0 v1 v2 v3 v4 f hv0 hv1 hv2 hW h
    exact (pw_pn h).elim
  | succ N ih =>
    intro S v0 v1 v2 v3 v4 f hv0 hv1 hv2 hW h
    unfold m_X9_addComposed_7 at h
    refine np_soundW (so_X9_addComposed hX hR) [7] 400 7 _ _ _ _ _ ?_
    conv => whnf
    refine np_rd_i (hW.g hv2) ?_
    conv => whnf
    refine ⟨q, S, v2, v3, rfl, hv2, hW, pw_bd h (fun S1 r4 h f2 hW3 => ?_)⟩
    conv => whnf
    refine pw_br h (fun _ h => ?_) (fun _ h => ?_)
    · conv => whnf
      exact ⟨Nat.le_of_ble_eq_true rfl, Nat.le_of_ble_eq_true rfl, rfl, _, fun _ _ h9 => h9, pw_ps h _ hW3⟩
    · conv => whnf
      refine np_rd_i (hW3.g hv2) ?_
      conv => whnf
      refine ⟨q, S1, v2, v4, rfl, hv2, hW3, pw_bd h (fun S6 r9 h f7 hW8 => ?_)⟩
      conv => whnf
      refine pw_br h (fun _ h => ?_) (fun _ h => ?_)
      · conv => whnf
        refine np_rd_i (hW8.g hv2) ?_
        conv => whnf
        refine ⟨q, S6, v2, v4, rfl, hv2, hW8, pw_bd h (fun S11 r14 h f12 hW13 => ?_)⟩
        conv => whnf
        refine np_rd_i (hW13.g hv0) ?_
        conv => whnf
        refine ⟨q, S11, v0, v1, r14, rfl, hv0, hv1, hW13, pw_bd h (fun S16 r19 h f17 hW18 => ?_)⟩
        conv => whnf
        refine pw_st h (fun z21 h => ?_)
        conv => whnf
        exact np_gl (ih S16 v0 v1 v2 v3 z21 f17 hv0 hv1 hv2 hW18 h) ⟨rfl, rfl, rfl, rfl, rfl, trivial⟩
      · conv => whnf
        refine np_rd_i (hW8.g hv2) ?_
        conv => whnf
        refine ⟨q, S6, v2, v4, rfl, hv2, hW8, pw_bd h (fun S22 r25 h f23 hW24 => ?_)⟩
        conv => whnf
        refine np_rd_i (hW24.g hv2) ?_
        conv => whnf
        refine ⟨q, S22, v2, v4, rfl, hv2, hW24, pw_bd h (fun S27 r30 h f28 hW29 => ?_)⟩
        conv => whnf
        refine np_rd_i (hW29.g hv0) ?_
        conv => whnf
        refine ⟨q, S27, v0, r25, r30, rfl, hv0, hW29, pw_bd h (fun S32 r35 h f33 hW34 => ?_)⟩
        conv => whnf
        refine pw_st h (fun z37 h => ?_)
        conv => whnf
        exact np_gl (ih S32 v0 v1 v2 v3 z37 f33 hv0 hv1 hv2 hW34 h) ⟨rfl, rfl, rfl, rfl, rfl, trivial⟩
noncomputable def m_X9_addComposed (S : pw_S) (i0 : Nat) (i1 : Nat) (i2 : Nat) (x3 : Int32) : pw_R Unit :=
 pw_b (m_X9_start S i2 x3) fun S38 r41 =>
 pw_l (r41 : Int32) fun z43 =>
 m_X9_addComposed_7 (pw_F 20000) S38 i0 i1 i2 x3 z43
def sp_X9_addComposed : np_Sp := fun vs w Q => ∃ (q : Nat) (S : pw_S) (i0 : Nat) (i1 : Nat) (i2 : Nat) (x3 : Int32), vs = [.ref (pw_pl 57 i0), .ref (pw_pl 57 i1), .ref (pw_pl 57 i2), .int x3] ∧ pw_ok q 57 i0 = true ∧ pw_ok q 57 i1 = true ∧ pw_ok q 57 i2 = true ∧ pw_W q w S ∧ pw_p (m_X9_addComposed S i0 i1 i2 x3) (fun S' r => ∀ f', pw_W q (w.1, f') S' → Q none (w.1, f'))
set_option maxRecDepth 100000 in
set_option maxHeartbeats 8000000 in
theorem C_X9_addComposed : np_C yX9_addComposed cX9_addComposed 5 none 4 87 0 0 sp_X9_addComposed := by
  refine np_of (by decide) ?_
  intro X vs w Q hsp hX hmn hRt hlt
  obtain ⟨q, S, i0, i1, i2, x3, rfl, hi0, hi1, hi2, hW, h⟩ := hsp
  obtain ⟨n, f⟩ := w
  unfold m_X9_addComposed at h
  have hR : ∀ st w ce sl, np_rt none 0 0 Q st w ce sl → X.2.2.1 st w ce sl := fun _ _ _ _ h => by rw [hRt]; exact h
  refine np_soundW (so_X9_addComposed hX hR) [7] 400 0 _ _ _ _ _ ?_
  conv => whnf
  refine np_rd_i (hW.g hi2) ?_
  conv => whnf
  refine ⟨q, S, i2, x3, rfl, hi2, hW, pw_bd h (fun S38 r41 h f39 hW40 => ?_)⟩
  conv => whnf
  refine pw_st h (fun z43 h => ?_)
  conv => whnf
  exact np_gl (L_X9_addComposed_7 hX hR (pw_F 20000) S38 i0 i1 i2 x3 z43 f39 hi0 hi1 hi2 hW40 h) ⟨rfl, rfl, rfl, rfl, rfl, trivial⟩
theorem dX9_buildComposed_0 : decode cX9_buildComposed 0 = .ok (.aload_n 0, 1) := by decide +kernel
theorem dX9_buildComposed_1 : decode cX9_buildComposed 1 = .ok (.iconst 0, 1) := by decide +kernel
theorem dX9_buildComposed_2 : decode cX9_buildComposed 2 = .ok (.putfield 41, 3) := by decide +kernel
theorem dX9_buildComposed_5 : decode cX9_buildComposed 5 = .ok (.iconst 0, 1) := by decide +kernel
theorem dX9_buildComposed_6 : decode cX9_buildComposed 6 = .ok (.istore_n 3, 1) := by decide +kernel
theorem dX9_buildComposed_7 : decode cX9_buildComposed 7 = .ok (.iload_n 3, 1) := by decide +kernel
theorem dX9_buildComposed_8 : decode cX9_buildComposed 8 = .ok (.bipush 8, 2) := by decide +kernel
theorem dX9_buildComposed_10 : decode cX9_buildComposed 10 = .ok (.if_icmp .ge 37, 3) := by decide +kernel
theorem dX9_buildComposed_13 : decode cX9_buildComposed 13 = .ok (.aload_n 2, 1) := by decide +kernel
theorem dX9_buildComposed_14 : decode cX9_buildComposed 14 = .ok (.aload_n 1, 1) := by decide +kernel
theorem dX9_buildComposed_15 : decode cX9_buildComposed 15 = .ok (.iload_n 3, 1) := by decide +kernel
theorem dX9_buildComposed_16 : decode cX9_buildComposed 16 = .ok (.invokevirtual 66, 3) := by decide +kernel
theorem dX9_buildComposed_19 : decode cX9_buildComposed 19 = .ok (.ifCond .eq 10, 3) := by decide +kernel
theorem dX9_buildComposed_22 : decode cX9_buildComposed 22 = .ok (.aload_n 0, 1) := by decide +kernel
theorem dX9_buildComposed_23 : decode cX9_buildComposed 23 = .ok (.aload_n 1, 1) := by decide +kernel
theorem dX9_buildComposed_24 : decode cX9_buildComposed 24 = .ok (.aload_n 2, 1) := by decide +kernel
theorem dX9_buildComposed_25 : decode cX9_buildComposed 25 = .ok (.iload_n 3, 1) := by decide +kernel
theorem dX9_buildComposed_26 : decode cX9_buildComposed 26 = .ok (.invokevirtual 70, 3) := by decide +kernel
theorem dX9_buildComposed_29 : decode cX9_buildComposed 29 = .ok (.aload_n 0, 1) := by decide +kernel
theorem dX9_buildComposed_30 : decode cX9_buildComposed 30 = .ok (.getfield 18, 3) := by decide +kernel
theorem dX9_buildComposed_33 : decode cX9_buildComposed 33 = .ok (.iload_n 3, 1) := by decide +kernel
theorem dX9_buildComposed_34 : decode cX9_buildComposed 34 = .ok (.aload_n 0, 1) := by decide +kernel
theorem dX9_buildComposed_35 : decode cX9_buildComposed 35 = .ok (.getfield 41, 3) := by decide +kernel
theorem dX9_buildComposed_38 : decode cX9_buildComposed 38 = .ok (.invokestatic 45, 3) := by decide +kernel
theorem dX9_buildComposed_41 : decode cX9_buildComposed 41 = .ok (.iinc 3 1, 3) := by decide +kernel
theorem dX9_buildComposed_44 : decode cX9_buildComposed 44 = .ok (.goto (-37), 3) := by decide +kernel
theorem dX9_buildComposed_47 : decode cX9_buildComposed 47 = .ok (.aload_n 0, 1) := by decide +kernel
theorem dX9_buildComposed_48 : decode cX9_buildComposed 48 = .ok (.getfield 41, 3) := by decide +kernel
theorem dX9_buildComposed_51 : decode cX9_buildComposed 51 = .ok (.bipush 60, 2) := by decide +kernel
theorem dX9_buildComposed_53 : decode cX9_buildComposed 53 = .ok (.if_icmp .gt 7, 3) := by decide +kernel
theorem dX9_buildComposed_56 : decode cX9_buildComposed 56 = .ok (.iconst 1, 1) := by decide +kernel
theorem dX9_buildComposed_57 : decode cX9_buildComposed 57 = .ok (.goto 4, 3) := by decide +kernel
theorem dX9_buildComposed_60 : decode cX9_buildComposed 60 = .ok (.iconst 0, 1) := by decide +kernel
theorem dX9_buildComposed_61 : decode cX9_buildComposed 61 = .ok (.ireturn, 1) := by decide +kernel
def is_X9_buildComposed (Rt : np_Rt) : List (Nat × np_Op) := [(0, np_ald 1 0), (1, np_push 1 (.int 0)), (2, nw_putf 9 6 (.int)), (5, np_push 1 (.int 0)), (6, nw_ist 1 3), (7, np_ild 1 3), (8, np_push 2 (.int 8)), (10, nq_ic (fun x y => y ≤ x) 47), (13, np_ald 1 2), (14, np_ald 1 1), (15, np_ild 1 3), (16, nw_callV 9 3 sp_X9_isMadeOf 4 0 0 0 0), (19, nq_if (fun x => x = 0) 29), (22, np_ald 1 0), (23, np_ald 1 1), (24, np_ald 1 2), (25, np_ild 1 3), (26, nw_callV 9 4 sp_X9_addComposed 5 0 0 0 0), (29, np_ald 1 0), (30, nw_getf 9 2), (33, np_ild 1 3), (34, np_ald 1 0), (35, nw_getf 9 6), (38, nq_call 3 sp_X11_put 3 0 0 0 0), (41, nw_iinc 3 1), (44, np_goto 7), (47, np_ald 1 0), (48, nw_getf 9 6), (51, np_push 2 (.int 60)), (53, nq_ic (fun x y => y < x) 60), (56, np_push 1 (.int 1)), (57, np_goto 61), (60, np_push 1 (.int 0)), (61, np_ret Rt)]
set_option maxRecDepth 20000 in
theorem so_X9_buildComposed {X : np_Ctx} {Rt : np_Rt} (hX : np_ok RX9 cX9_buildComposed 4 5 111 0 0 .ireturn X) (hR : ∀ st w ce sl, Rt st w ce sl → X.2.2.1 st w ce sl) : ∀ q ∈ is_X9_buildComposed Rt, np_S X q.1 q.2 :=
  List.forall_mem_cons.mpr ⟨np_s_aload_n hX dX9_buildComposed_0 rfl, List.forall_mem_cons.mpr ⟨np_s_iconst hX dX9_buildComposed_1 (by decide), List.forall_mem_cons.mpr ⟨np_S.mono (op := np_putf 9 6 (.int)) (np_s_putf hX dX9_buildComposed_2 (C := RX9) (T := TX9) (N := 7) (ty0 := tyX9) rfl guX9 tyX9_ok nmX9 (by decide) gw424 rfl rfl) nw_putf_le, List.forall_mem_cons.mpr ⟨np_s_iconst hX dX9_buildComposed_5 (by decide), List.forall_mem_cons.mpr ⟨np_S.mono (op := np_ist 1 3) (np_s_istore_n hX dX9_buildComposed_6 rfl (by decide)) nw_ist_le, List.forall_mem_cons.mpr ⟨np_s_iload_n hX dX9_buildComposed_7 rfl, List.forall_mem_cons.mpr ⟨np_s_bipush hX dX9_buildComposed_8 (by decide), List.forall_mem_cons.mpr ⟨np_S.mono (op := np_ic (fun x y => y ≤ x) 47) (np_s_icmp_ge hX dX9_buildComposed_10 (by decide)) nq_ic_le, List.forall_mem_cons.mpr ⟨np_s_aload_n hX dX9_buildComposed_13 rfl, List.forall_mem_cons.mpr ⟨np_s_aload_n hX dX9_buildComposed_14 rfl, List.forall_mem_cons.mpr ⟨np_s_iload_n hX dX9_buildComposed_15 rfl, List.forall_mem_cons.mpr ⟨np_S.mono (op := np_callV 9 3 sp_X9_isMadeOf 4 0 0 0 0) (np_s_callV hX C_X9_isMadeOf dX9_buildComposed_16 (q := (RX9, TX9, 7)) rfl rfl gw1359 gw74 gw1356 gw1358 gw42 ⟨by decide, by decide, by decide⟩ (by decide) (by decide)) nw_callV_le, List.forall_mem_cons.mpr ⟨np_S.mono (op := np_if (fun x => x = 0) 29) (np_s_if_eq hX dX9_buildComposed_19 (by decide)) nq_if_le, List.forall_mem_cons.mpr ⟨np_s_aload_n hX dX9_buildComposed_22 rfl, List.forall_mem_cons.mpr ⟨np_s_aload_n hX dX9_buildComposed_23 rfl, List.forall_mem_cons.mpr ⟨np_s_aload_n hX dX9_buildComposed_24 rfl, List.forall_mem_cons.mpr ⟨np_s_iload_n hX dX9_buildComposed_25 rfl, List.forall_mem_cons.mpr ⟨np_S.mono (op := np_callV 9 4 sp_X9_addComposed 5 0 0 0 0) (np_s_callV hX C_X9_addComposed dX9_buildComposed_26 (q := (RX9, TX9, 7)) rfl rfl gw1383 gw74 gw1380 gw1382 gw48 ⟨by decide, by decide, by decide⟩ (by decide) (by decide)) nw_callV_le, List.forall_mem_cons.mpr ⟨np_s_aload_n hX dX9_buildComposed_29 rfl, List.forall_mem_cons.mpr ⟨np_S.mono (op := np_getf 9 2) (np_s_getf hX dX9_buildComposed_30 (C := RX9) (T := TX9) (N := 7) rfl guX9 (by decide) gw420) nw_getf_le, List.forall_mem_cons.mpr ⟨np_s_iload_n hX dX9_buildComposed_33 rfl, List.forall_mem_cons.mpr ⟨np_s_aload_n hX dX9_buildComposed_34 rfl, List.forall_mem_cons.mpr ⟨np_S.mono (op := np_getf 9 6) (np_s_getf hX dX9_buildComposed_35 (C := RX9) (T := TX9) (N := 7) rfl guX9 (by decide) gw424) nw_getf_le, List.forall_mem_cons.mpr ⟨np_S.mono (op := np_call 3 sp_X11_put 3 0 0 0 0) (np_s_callSN hX C_X11_put dX9_buildComposed_38 gw632 gw63 gw1329 gw631 ⟨by decide, by decide, by decide⟩ (by decide) (by decide)) nq_call_le, List.forall_mem_cons.mpr ⟨np_S.mono (op := np_iinc 3 1) (np_s_iinc hX dX9_buildComposed_41 (by decide)) nw_iinc_le, List.forall_mem_cons.mpr ⟨np_s_goto hX dX9_buildComposed_44 (by decide), List.forall_mem_cons.mpr ⟨np_s_aload_n hX dX9_buildComposed_47 rfl, List.forall_mem_cons.mpr ⟨np_S.mono (op := np_getf 9 6) (np_s_getf hX dX9_buildComposed_48 (C := RX9) (T := TX9) (N := 7) rfl guX9 (by decide) gw424) nw_getf_le, List.forall_mem_cons.mpr ⟨np_s_bipush hX dX9_buildComposed_51 (by decide), List.forall_mem_cons.mpr ⟨np_S.mono (op := np_ic (fun x y => y < x) 60) (np_s_icmp_gt hX dX9_buildComposed_53 (by decide)) nq_ic_le, List.forall_mem_cons.mpr ⟨np_s_iconst hX dX9_buildComposed_56 (by decide), List.forall_mem_cons.mpr ⟨np_s_goto hX dX9_buildComposed_57 (by decide), List.forall_mem_cons.mpr ⟨np_s_iconst hX dX9_buildComposed_60 (by decide), List.forall_mem_cons.mpr ⟨np_S.mono (op := np_ret X.2.2.1) (np_s_ret hX dX9_buildComposed_61) (nq_ret_le hR), fun _ h => nomatch h⟩⟩⟩⟩⟩⟩⟩⟩⟩⟩⟩⟩⟩⟩⟩⟩⟩⟩⟩⟩⟩⟩⟩⟩⟩⟩⟩⟩⟩⟩⟩⟩⟩⟩
noncomputable def m_X9_buildComposed_7 : Nat → pw_S → Nat → Nat → Nat → Int32 → pw_R Int32
| 0, _, _, _, _, _ => none
| N + 1, S, v0, v1, v2, v3 =>
 if 8 ≤ v3 then
 (if 60 < (S 57 v0 6) then
 (some (S, 0))
 else
 (some (S, 1)))
 else
 (pw_b (m_X9_isMadeOf S v2 v1 v3) fun S1 r4 =>
 if r4 = 0 then
 (pw_b (m_X11_put S1 24 v0 v3 (S1 57 v0 6)) fun S6 r9 =>
 pw_l (v3 + 1 : Int32) fun z11 =>
 m_X9_buildComposed_7 N S6 v0 v1 v2 z11)
 else
 (pw_b (m_X9_addComposed S1 v0 v1 v2 v3) fun S12 r15 =>
 pw_b (m_X11_put S12 24 v0 v3 (S12 57 v0 6)) fun S17 r20 =>
 pw_l (v3 + 1 : Int32) fun z22 =>
 m_X9_buildComposed_7 N S17 v0 v1 v2 z22))
set_option maxRecDepth 100000 in
set_option maxHeartbeats 8000000 in
theorem L_X9_buildComposed_7 {X : np_Ctx} (hX : np_ok RX9 cX9_buildComposed 4 5 111 0 0 .ireturn X) {Q : Option Value → np_W → Prop} {q n : Nat} (hR : ∀ st w ce sl, np_rt (some .boolean) 0 0 Q st w ce sl → X.2.2.1 st w ce sl) : ∀ (N : Nat) (S : pw_S) (v0 : Nat) (v1 : Nat) (v2 : Nat) (v3 : Int32) (f : Nat → Option np_E) (hv0 : pw_ok q 57 v0 = true) (hv1 : pw_ok q 57 v1 = true) (hv2 : pw_ok q 57 v2 = true), pw_W q (n, f) S → pw_p (m_X9_buildComposed_7 N S v0 v1 v2 v3) (fun S' r => ∀ f', pw_W q (n, f') S' → Q (some (.int r)) (n, f')) → np_G X 7 [(0, .ref (pw_pl 57 v0)), (1, .ref (pw_pl 57 v1)), (2, .ref (pw_pl 57 v2)), (3, .int v3)] [] (n, f) 0 0 := by
  intro N
  induction N with
  | zero =>
    intro S v0 v1 v2 v3 f hv0 hv1 hv2 hW h
    exact (pw_pn h).elim
  | succ N ih =>
    intro S v0 v1 v2 v3 f hv0 hv1 hv2 hW h
    unfold m_X9_buildComposed_7 at h
    refine np_soundW (so_X9_buildComposed hX hR) [7] 400 7 _ _ _ _ _ ?_
    conv => whnf
    refine pw_br h (fun _ h => ?_) (fun _ h => ?_)
    · conv => whnf
      refine np_rd_i (hW.g hv0) ?_
      conv => whnf
      refine pw_br h (fun _ h => ?_) (fun _ h => ?_)
      · conv => whnf
        exact ⟨Nat.le_of_ble_eq_true rfl, Nat.le_of_ble_eq_true rfl, ⟨_, rfl, by decide⟩, _, fun _ _ h9 => h9, pw_ps h _ hW⟩
      · conv => whnf
        exact ⟨Nat.le_of_ble_eq_true rfl, Nat.le_of_ble_eq_true rfl, ⟨_, rfl, by decide⟩, _, fun _ _ h9 => h9, pw_ps h _ hW⟩
    · conv => whnf
      refine np_rd_i (hW.g hv2) ?_
      conv => whnf
      refine ⟨q, S, v2, v1, v3, rfl, hv2, hv1, hW, pw_bd h (fun S1 r4 h f2 hW3 => ?_)⟩
      conv => whnf
      refine pw_br h (fun _ h => ?_) (fun _ h => ?_)
      · conv => whnf
        refine np_rd_i (hW3.g hv0) ?_
        conv => whnf
        refine np_rd_i (hW3.g hv0) ?_
        conv => whnf
        refine ⟨q, S1, 24, v0, v3, (S1 57 v0 6), rfl, rfl, hv0, hW3, pw_bd h (fun S6 r9 h f7 hW8 => ?_)⟩
        conv => whnf
        refine pw_st h (fun z11 h => ?_)
        conv => whnf
        exact np_gl (ih S6 v0 v1 v2 z11 f7 hv0 hv1 hv2 hW8 h) ⟨rfl, rfl, rfl, rfl, trivial⟩
      · conv => whnf
        refine np_rd_i (hW3.g hv0) ?_
        conv => whnf
        refine ⟨q, S1, v0, v1, v2, v3, rfl, hv0, hv1, hv2, hW3, pw_bd h (fun S12 r15 h f13 hW14 => ?_)⟩
        conv => whnf
        refine np_rd_i (hW14.g hv0) ?_
        conv => whnf
        refine np_rd_i (hW14.g hv0) ?_
        conv => whnf
        refine ⟨q, S12, 24, v0, v3, (S12 57 v0 6), rfl, rfl, hv0, hW14, pw_bd h (fun S17 r20 h f18 hW19 => ?_)⟩
        conv => whnf
        refine pw_st h (fun z22 h => ?_)
        conv => whnf
        exact np_gl (ih S17 v0 v1 v2 z22 f18 hv0 hv1 hv2 hW19 h) ⟨rfl, rfl, rfl, rfl, trivial⟩
noncomputable def m_X9_buildComposed (S : pw_S) (i0 : Nat) (i1 : Nat) (i2 : Nat) : pw_R Int32 :=
 pw_l (pw_up S 57 i0 (upd (S 57 i0) 6 0)) fun S23 =>
 pw_l (0 : Int32) fun z26 =>
 m_X9_buildComposed_7 (pw_F 20000) S23 i0 i1 i2 z26
def sp_X9_buildComposed : np_Sp := fun vs w Q => ∃ (q : Nat) (S : pw_S) (i0 : Nat) (i1 : Nat) (i2 : Nat), vs = [.ref (pw_pl 57 i0), .ref (pw_pl 57 i1), .ref (pw_pl 57 i2)] ∧ pw_ok q 57 i0 = true ∧ pw_ok q 57 i1 = true ∧ pw_ok q 57 i2 = true ∧ pw_W q w S ∧ pw_p (m_X9_buildComposed S i0 i1 i2) (fun S' r => ∀ f', pw_W q (w.1, f') S' → Q (some (.int r)) (w.1, f'))
set_option maxRecDepth 100000 in
set_option maxHeartbeats 8000000 in
theorem C_X9_buildComposed : np_C yX9_buildComposed cX9_buildComposed 4 (some .boolean) 5 111 0 0 sp_X9_buildComposed := by
  refine np_of (by decide) ?_
  intro X vs w Q hsp hX hmn hRt hlt
  obtain ⟨q, S, i0, i1, i2, rfl, hi0, hi1, hi2, hW, h⟩ := hsp
  obtain ⟨n, f⟩ := w
  unfold m_X9_buildComposed at h
  have hR : ∀ st w ce sl, np_rt (some .boolean) 0 0 Q st w ce sl → X.2.2.1 st w ce sl := fun _ _ _ _ h => by rw [hRt]; exact h
  refine np_soundW (so_X9_buildComposed hX hR) [7] 400 0 _ _ _ _ _ ?_
  conv => whnf
  refine np_rd_i (hW.g hi0) ?_
  conv => whnf
  refine pw_wr (a := 57) (i := i0) (d := upd (S 57 i0) 6 0) hW hi0 rfl h (fun S23 f24 hW25 h => ?_)
  conv => whnf
  refine pw_st h (fun z26 h => ?_)
  conv => whnf
  exact np_gl (L_X9_buildComposed_7 hX hR (pw_F 20000) S23 i0 i1 i2 z26 f24 hi0 hi1 hi2 hW25 h) ⟨rfl, rfl, rfl, rfl, trivial⟩
theorem dX9_hasQuotientOrRest_0 : decode cX9_hasQuotientOrRest 0 = .ok (.iconst 0, 1) := by decide +kernel
theorem dX9_hasQuotientOrRest_1 : decode cX9_hasQuotientOrRest 1 = .ok (.istore_n 1, 1) := by decide +kernel
theorem dX9_hasQuotientOrRest_2 : decode cX9_hasQuotientOrRest 2 = .ok (.iload_n 1, 1) := by decide +kernel
theorem dX9_hasQuotientOrRest_3 : decode cX9_hasQuotientOrRest 3 = .ok (.aload_n 0, 1) := by decide +kernel
theorem dX9_hasQuotientOrRest_4 : decode cX9_hasQuotientOrRest 4 = .ok (.getfield 41, 3) := by decide +kernel
theorem dX9_hasQuotientOrRest_7 : decode cX9_hasQuotientOrRest 7 = .ok (.if_icmp .ge 30, 3) := by decide +kernel
theorem dX9_hasQuotientOrRest_10 : decode cX9_hasQuotientOrRest 10 = .ok (.aload_n 0, 1) := by decide +kernel
theorem dX9_hasQuotientOrRest_11 : decode cX9_hasQuotientOrRest 11 = .ok (.iload_n 1, 1) := by decide +kernel
theorem dX9_hasQuotientOrRest_12 : decode cX9_hasQuotientOrRest 12 = .ok (.invokevirtual 74, 3) := by decide +kernel
theorem dX9_hasQuotientOrRest_15 : decode cX9_hasQuotientOrRest 15 = .ok (.iconst 5, 1) := by decide +kernel
theorem dX9_hasQuotientOrRest_16 : decode cX9_hasQuotientOrRest 16 = .ok (.if_icmp .eq 13, 3) := by decide +kernel
theorem dX9_hasQuotientOrRest_19 : decode cX9_hasQuotientOrRest 19 = .ok (.aload_n 0, 1) := by decide +kernel
theorem dX9_hasQuotientOrRest_20 : decode cX9_hasQuotientOrRest 20 = .ok (.iload_n 1, 1) := by decide +kernel
theorem dX9_hasQuotientOrRest_21 : decode cX9_hasQuotientOrRest 21 = .ok (.invokevirtual 74, 3) := by decide +kernel
theorem dX9_hasQuotientOrRest_24 : decode cX9_hasQuotientOrRest 24 = .ok (.bipush 6, 2) := by decide +kernel
theorem dX9_hasQuotientOrRest_26 : decode cX9_hasQuotientOrRest 26 = .ok (.if_icmp .ne 5, 3) := by decide +kernel
theorem dX9_hasQuotientOrRest_29 : decode cX9_hasQuotientOrRest 29 = .ok (.iconst 1, 1) := by decide +kernel
theorem dX9_hasQuotientOrRest_30 : decode cX9_hasQuotientOrRest 30 = .ok (.ireturn, 1) := by decide +kernel
theorem dX9_hasQuotientOrRest_31 : decode cX9_hasQuotientOrRest 31 = .ok (.iinc 1 1, 3) := by decide +kernel
theorem dX9_hasQuotientOrRest_34 : decode cX9_hasQuotientOrRest 34 = .ok (.goto (-32), 3) := by decide +kernel
theorem dX9_hasQuotientOrRest_37 : decode cX9_hasQuotientOrRest 37 = .ok (.iconst 0, 1) := by decide +kernel
theorem dX9_hasQuotientOrRest_38 : decode cX9_hasQuotientOrRest 38 = .ok (.ireturn, 1) := by decide +kernel
def is_X9_hasQuotientOrRest (Rt : np_Rt) : List (Nat × np_Op) := [(0, np_push 1 (.int 0)), (1, nw_ist 1 1), (2, np_ild 1 1), (3, np_ald 1 0), (4, nw_getf 9 6), (7, nq_ic (fun x y => y ≤ x) 37), (10, np_ald 1 0), (11, np_ild 1 1), (12, nw_callV 9 2 sp_X9_kind 2 0 0 0 0), (15, np_push 1 (.int 5)), (16, nq_ic (fun x y => x = y) 29), (19, np_ald 1 0), (20, np_ild 1 1), (21, nw_callV 9 2 sp_X9_kind 2 0 0 0 0), (24, np_push 2 (.int 6)), (26, nq_icne 31), (29, np_push 1 (.int 1)), (30, np_ret Rt), (31, nw_iinc 1 1), (34, np_goto 2), (37, np_push 1 (.int 0)), (38, np_ret Rt)]
set_option maxRecDepth 20000 in
theorem so_X9_hasQuotientOrRest {X : np_Ctx} {Rt : np_Rt} (hX : np_ok RX9 cX9_hasQuotientOrRest 2 2 43 0 0 .ireturn X) (hR : ∀ st w ce sl, Rt st w ce sl → X.2.2.1 st w ce sl) : ∀ q ∈ is_X9_hasQuotientOrRest Rt, np_S X q.1 q.2 :=
  List.forall_mem_cons.mpr ⟨np_s_iconst hX dX9_hasQuotientOrRest_0 (by decide), List.forall_mem_cons.mpr ⟨np_S.mono (op := np_ist 1 1) (np_s_istore_n hX dX9_hasQuotientOrRest_1 rfl (by decide)) nw_ist_le, List.forall_mem_cons.mpr ⟨np_s_iload_n hX dX9_hasQuotientOrRest_2 rfl, List.forall_mem_cons.mpr ⟨np_s_aload_n hX dX9_hasQuotientOrRest_3 rfl, List.forall_mem_cons.mpr ⟨np_S.mono (op := np_getf 9 6) (np_s_getf hX dX9_hasQuotientOrRest_4 (C := RX9) (T := TX9) (N := 7) rfl guX9 (by decide) gw424) nw_getf_le, List.forall_mem_cons.mpr ⟨np_S.mono (op := np_ic (fun x y => y ≤ x) 37) (np_s_icmp_ge hX dX9_hasQuotientOrRest_7 (by decide)) nq_ic_le, List.forall_mem_cons.mpr ⟨np_s_aload_n hX dX9_hasQuotientOrRest_10 rfl, List.forall_mem_cons.mpr ⟨np_s_iload_n hX dX9_hasQuotientOrRest_11 rfl, List.forall_mem_cons.mpr ⟨np_S.mono (op := np_callV 9 2 sp_X9_kind 2 0 0 0 0) (np_s_callV hX C_X9_kind dX9_hasQuotientOrRest_12 (q := (RX9, TX9, 7)) rfl rfl gw1371 gw74 gw1368 gw1370 gw45 ⟨by decide, by decide, by decide⟩ (by decide) (by decide)) nw_callV_le, List.forall_mem_cons.mpr ⟨np_s_iconst hX dX9_hasQuotientOrRest_15 (by decide), List.forall_mem_cons.mpr ⟨np_S.mono (op := np_ic (fun x y => x = y) 29) (np_s_icmp_eq hX dX9_hasQuotientOrRest_16 (by decide)) nq_ic_le, List.forall_mem_cons.mpr ⟨np_s_aload_n hX dX9_hasQuotientOrRest_19 rfl, List.forall_mem_cons.mpr ⟨np_s_iload_n hX dX9_hasQuotientOrRest_20 rfl, List.forall_mem_cons.mpr ⟨np_S.mono (op := np_callV 9 2 sp_X9_kind 2 0 0 0 0) (np_s_callV hX C_X9_kind dX9_hasQuotientOrRest_21 (q := (RX9, TX9, 7)) rfl rfl gw1371 gw74 gw1368 gw1370 gw45 ⟨by decide, by decide, by decide⟩ (by decide) (by decide)) nw_callV_le, List.forall_mem_cons.mpr ⟨np_s_bipush hX dX9_hasQuotientOrRest_24 (by decide), List.forall_mem_cons.mpr ⟨np_S.mono (op := np_icne 31) (np_s_icmp_ne hX dX9_hasQuotientOrRest_26 (by decide)) nq_icne_le, List.forall_mem_cons.mpr ⟨np_s_iconst hX dX9_hasQuotientOrRest_29 (by decide), List.forall_mem_cons.mpr ⟨np_S.mono (op := np_ret X.2.2.1) (np_s_ret hX dX9_hasQuotientOrRest_30) (nq_ret_le hR), List.forall_mem_cons.mpr ⟨np_S.mono (op := np_iinc 1 1) (np_s_iinc hX dX9_hasQuotientOrRest_31 (by decide)) nw_iinc_le, List.forall_mem_cons.mpr ⟨np_s_goto hX dX9_hasQuotientOrRest_34 (by decide), List.forall_mem_cons.mpr ⟨np_s_iconst hX dX9_hasQuotientOrRest_37 (by decide), List.forall_mem_cons.mpr ⟨np_S.mono (op := np_ret X.2.2.1) (np_s_ret hX dX9_hasQuotientOrRest_38) (nq_ret_le hR), fun _ h => nomatch h⟩⟩⟩⟩⟩⟩⟩⟩⟩⟩⟩⟩⟩⟩⟩⟩⟩⟩⟩⟩⟩⟩
noncomputable def m_X9_hasQuotientOrRest_2 : Nat → pw_S → Nat → Int32 → pw_R Int32
| 0, _, _, _ => none
| N + 1, S, v0, v1 =>
 if (S 57 v0 6) ≤ v1 then
 (some (S, 0))
 else
 (pw_b (m_X9_kind S v0 v1) fun S1 r4 =>
 if r4 = 5 then
 (some (S1, 1))
 else
 (pw_b (m_X9_kind S1 v0 v1) fun S6 r9 =>
 if r9 = 6 then
 (some (S6, 1))
 else
 (pw_l (v1 + 1 : Int32) fun z11 =>
 m_X9_hasQuotientOrRest_2 N S6 v0 z11)))
set_option maxRecDepth 100000 in
set_option maxHeartbeats 8000000 in
theorem L_X9_hasQuotientOrRest_2 {X : np_Ctx} (hX : np_ok RX9 cX9_hasQuotientOrRest 2 2 43 0 0 .ireturn X) {Q : Option Value → np_W → Prop} {q n : Nat} (hR : ∀ st w ce sl, np_rt (some .boolean) 0 0 Q st w ce sl → X.2.2.1 st w ce sl) : ∀ (N : Nat) (S : pw_S) (v0 : Nat) (v1 : Int32) (f : Nat → Option np_E) (hv0 : pw_ok q 57 v0 = true), pw_W q (n, f) S → pw_p (m_X9_hasQuotientOrRest_2 N S v0 v1) (fun S' r => ∀ f', pw_W q (n, f') S' → Q (some (.int r)) (n, f')) → np_G X 2 [(0, .ref (pw_pl 57 v0)), (1, .int v1)] [] (n, f) 0 0 := by
  intro N
  induction N with
  | zero =>
    intro S v0 v1 f hv0 hW h
    exact (pw_pn h).elim
  | succ N ih =>
    intro S v0 v1 f hv0 hW h
    unfold m_X9_hasQuotientOrRest_2 at h
    refine np_soundW (so_X9_hasQuotientOrRest hX hR) [2] 400 2 _ _ _ _ _ ?_
    conv => whnf
    refine np_rd_i (hW.g hv0) ?_
    conv => whnf
    refine pw_br h (fun _ h => ?_) (fun _ h => ?_)
    · conv => whnf
      exact ⟨Nat.le_of_ble_eq_true rfl, Nat.le_of_ble_eq_true rfl, ⟨_, rfl, by decide⟩, _, fun _ _ h9 => h9, pw_ps h _ hW⟩
    · conv => whnf
      refine np_rd_i (hW.g hv0) ?_
      conv => whnf
      refine ⟨q, S, v0, v1, rfl, hv0, hW, pw_bd h (fun S1 r4 h f2 hW3 => ?_)⟩
      conv => whnf
      refine pw_br h (fun _ h => ?_) (fun _ h => ?_)
      · conv => whnf
        exact ⟨Nat.le_of_ble_eq_true rfl, Nat.le_of_ble_eq_true rfl, ⟨_, rfl, by decide⟩, _, fun _ _ h9 => h9, pw_ps h _ hW3⟩
      · conv => whnf
        refine np_rd_i (hW3.g hv0) ?_
        conv => whnf
        refine ⟨q, S1, v0, v1, rfl, hv0, hW3, pw_bd h (fun S6 r9 h f7 hW8 => ?_)⟩
        conv => whnf
        refine pw_br h (fun _ h => ?_) (fun _ h => ?_)
        · conv => whnf
          exact ⟨Nat.le_of_ble_eq_true rfl, Nat.le_of_ble_eq_true rfl, ⟨_, rfl, by decide⟩, _, fun _ _ h9 => h9, pw_ps h _ hW8⟩
        · conv => whnf
          refine pw_st h (fun z11 h => ?_)
          conv => whnf
          exact np_gl (ih S6 v0 z11 f7 hv0 hW8 h) ⟨rfl, rfl, trivial⟩
noncomputable def m_X9_hasQuotientOrRest (S : pw_S) (i0 : Nat) : pw_R Int32 :=
 pw_l (0 : Int32) fun z12 =>
 m_X9_hasQuotientOrRest_2 (pw_F 20000) S i0 z12
def sp_X9_hasQuotientOrRest : np_Sp := fun vs w Q => ∃ (q : Nat) (S : pw_S) (i0 : Nat), vs = [.ref (pw_pl 57 i0)] ∧ pw_ok q 57 i0 = true ∧ pw_W q w S ∧ pw_p (m_X9_hasQuotientOrRest S i0) (fun S' r => ∀ f', pw_W q (w.1, f') S' → Q (some (.int r)) (w.1, f'))
set_option maxRecDepth 100000 in
set_option maxHeartbeats 8000000 in
theorem C_X9_hasQuotientOrRest : np_C yX9_hasQuotientOrRest cX9_hasQuotientOrRest 2 (some .boolean) 2 43 0 0 sp_X9_hasQuotientOrRest := by
  refine np_of (by decide) ?_
  intro X vs w Q hsp hX hmn hRt hlt
  obtain ⟨q, S, i0, rfl, hi0, hW, h⟩ := hsp
  obtain ⟨n, f⟩ := w
  unfold m_X9_hasQuotientOrRest at h
  have hR : ∀ st w ce sl, np_rt (some .boolean) 0 0 Q st w ce sl → X.2.2.1 st w ce sl := fun _ _ _ _ h => by rw [hRt]; exact h
  refine np_soundW (so_X9_hasQuotientOrRest hX hR) [2] 400 0 _ _ _ _ _ ?_
  conv => whnf
  refine pw_st h (fun z12 h => ?_)
  conv => whnf
  exact np_gl (L_X9_hasQuotientOrRest_2 hX hR (pw_F 20000) S i0 z12 f hi0 hW h) ⟨rfl, rfl, trivial⟩
theorem dX9_turnToSecond_0 : decode cX9_turnToSecond 0 = .ok (.iload_n 1, 1) := by decide +kernel
theorem dX9_turnToSecond_1 : decode cX9_turnToSecond 1 = .ok (.iconst 1, 1) := by decide +kernel
theorem dX9_turnToSecond_2 : decode cX9_turnToSecond 2 = .ok (.isub, 1) := by decide +kernel
theorem dX9_turnToSecond_3 : decode cX9_turnToSecond 3 = .ok (.istore_n 2, 1) := by decide +kernel
theorem dX9_turnToSecond_4 : decode cX9_turnToSecond 4 = .ok (.iload_n 2, 1) := by decide +kernel
theorem dX9_turnToSecond_5 : decode cX9_turnToSecond 5 = .ok (.ifCond .lt 36, 3) := by decide +kernel
theorem dX9_turnToSecond_8 : decode cX9_turnToSecond 8 = .ok (.aload_n 0, 1) := by decide +kernel
theorem dX9_turnToSecond_9 : decode cX9_turnToSecond 9 = .ok (.getfield 24, 3) := by decide +kernel
theorem dX9_turnToSecond_12 : decode cX9_turnToSecond 12 = .ok (.iload_n 2, 1) := by decide +kernel
theorem dX9_turnToSecond_13 : decode cX9_turnToSecond 13 = .ok (.iconst (-1), 1) := by decide +kernel
theorem dX9_turnToSecond_14 : decode cX9_turnToSecond 14 = .ok (.invokestatic 34, 3) := by decide +kernel
theorem dX9_turnToSecond_17 : decode cX9_turnToSecond 17 = .ok (.iconst 4, 1) := by decide +kernel
theorem dX9_turnToSecond_18 : decode cX9_turnToSecond 18 = .ok (.if_icmp .ne 17, 3) := by decide +kernel
theorem dX9_turnToSecond_21 : decode cX9_turnToSecond 21 = .ok (.aload_n 0, 1) := by decide +kernel
theorem dX9_turnToSecond_22 : decode cX9_turnToSecond 22 = .ok (.getfield 24, 3) := by decide +kernel
theorem dX9_turnToSecond_25 : decode cX9_turnToSecond 25 = .ok (.iload_n 2, 1) := by decide +kernel
theorem dX9_turnToSecond_26 : decode cX9_turnToSecond 26 = .ok (.bipush 6, 2) := by decide +kernel
theorem dX9_turnToSecond_28 : decode cX9_turnToSecond 28 = .ok (.invokestatic 45, 3) := by decide +kernel
theorem dX9_turnToSecond_31 : decode cX9_turnToSecond 31 = .ok (.iload_n 2, 1) := by decide +kernel
theorem dX9_turnToSecond_32 : decode cX9_turnToSecond 32 = .ok (.iconst 1, 1) := by decide +kernel
theorem dX9_turnToSecond_33 : decode cX9_turnToSecond 33 = .ok (.iadd, 1) := by decide +kernel
theorem dX9_turnToSecond_34 : decode cX9_turnToSecond 34 = .ok (.ireturn, 1) := by decide +kernel
theorem dX9_turnToSecond_35 : decode cX9_turnToSecond 35 = .ok (.iinc 2 (-1), 3) := by decide +kernel
theorem dX9_turnToSecond_38 : decode cX9_turnToSecond 38 = .ok (.goto (-34), 3) := by decide +kernel
theorem dX9_turnToSecond_41 : decode cX9_turnToSecond 41 = .ok (.iconst 0, 1) := by decide +kernel
theorem dX9_turnToSecond_42 : decode cX9_turnToSecond 42 = .ok (.ireturn, 1) := by decide +kernel
def is_X9_turnToSecond (Rt : np_Rt) : List (Nat × np_Op) := [(0, np_ild 1 1), (1, np_push 1 (.int 1)), (2, np_ib (fun x y => x - y)), (3, nw_ist 1 2), (4, np_ild 1 2), (5, nq_if (fun x => x < 0) 41), (8, np_ald 1 0), (9, nw_getf 9 4), (12, np_ild 1 2), (13, np_push 1 (.int (-1))), (14, nq_call 3 sp_X11_at 3 0 0 0 0), (17, np_push 1 (.int 4)), (18, nq_icne 35), (21, np_ald 1 0), (22, nw_getf 9 4), (25, np_ild 1 2), (26, np_push 2 (.int 6)), (28, nq_call 3 sp_X11_put 3 0 0 0 0), (31, np_ild 1 2), (32, np_push 1 (.int 1)), (33, np_ib (fun x y => x + y)), (34, np_ret Rt), (35, nw_iinc 2 (-1)), (38, np_goto 4), (41, np_push 1 (.int 0)), (42, np_ret Rt)]
set_option maxRecDepth 20000 in
theorem so_X9_turnToSecond {X : np_Ctx} {Rt : np_Rt} (hX : np_ok RX9 cX9_turnToSecond 3 1 22 0 0 .ireturn X) (hR : ∀ st w ce sl, Rt st w ce sl → X.2.2.1 st w ce sl) : ∀ q ∈ is_X9_turnToSecond Rt, np_S X q.1 q.2 :=
  List.forall_mem_cons.mpr ⟨np_s_iload_n hX dX9_turnToSecond_0 rfl, List.forall_mem_cons.mpr ⟨np_s_iconst hX dX9_turnToSecond_1 (by decide), List.forall_mem_cons.mpr ⟨np_s_isub hX dX9_turnToSecond_2, List.forall_mem_cons.mpr ⟨np_S.mono (op := np_ist 1 2) (np_s_istore_n hX dX9_turnToSecond_3 rfl (by decide)) nw_ist_le, List.forall_mem_cons.mpr ⟨np_s_iload_n hX dX9_turnToSecond_4 rfl, List.forall_mem_cons.mpr ⟨np_S.mono (op := np_if (fun x => x < 0) 41) (np_s_if_lt hX dX9_turnToSecond_5 (by decide)) nq_if_le, List.forall_mem_cons.mpr ⟨np_s_aload_n hX dX9_turnToSecond_8 rfl, List.forall_mem_cons.mpr ⟨np_S.mono (op := np_getf 9 4) (np_s_getf hX dX9_turnToSecond_9 (C := RX9) (T := TX9) (N := 7) rfl guX9 (by decide) gw422) nw_getf_le, List.forall_mem_cons.mpr ⟨np_s_iload_n hX dX9_turnToSecond_12 rfl, List.forall_mem_cons.mpr ⟨np_s_iconst hX dX9_turnToSecond_13 (by decide), List.forall_mem_cons.mpr ⟨np_S.mono (op := np_call 3 sp_X11_at 3 0 0 0 0) (np_s_callSN hX C_X11_at dX9_turnToSecond_14 gw653 gw63 gw1320 gw652 ⟨by decide, by decide, by decide⟩ (by decide) (by decide)) nq_call_le, List.forall_mem_cons.mpr ⟨np_s_iconst hX dX9_turnToSecond_17 (by decide), List.forall_mem_cons.mpr ⟨np_S.mono (op := np_icne 35) (np_s_icmp_ne hX dX9_turnToSecond_18 (by decide)) nq_icne_le, List.forall_mem_cons.mpr ⟨np_s_aload_n hX dX9_turnToSecond_21 rfl, List.forall_mem_cons.mpr ⟨np_S.mono (op := np_getf 9 4) (np_s_getf hX dX9_turnToSecond_22 (C := RX9) (T := TX9) (N := 7) rfl guX9 (by decide) gw422) nw_getf_le, List.forall_mem_cons.mpr ⟨np_s_iload_n hX dX9_turnToSecond_25 rfl, List.forall_mem_cons.mpr ⟨np_s_bipush hX dX9_turnToSecond_26 (by decide), List.forall_mem_cons.mpr ⟨np_S.mono (op := np_call 3 sp_X11_put 3 0 0 0 0) (np_s_callSN hX C_X11_put dX9_turnToSecond_28 gw632 gw63 gw1329 gw631 ⟨by decide, by decide, by decide⟩ (by decide) (by decide)) nq_call_le, List.forall_mem_cons.mpr ⟨np_s_iload_n hX dX9_turnToSecond_31 rfl, List.forall_mem_cons.mpr ⟨np_s_iconst hX dX9_turnToSecond_32 (by decide), List.forall_mem_cons.mpr ⟨np_s_iadd hX dX9_turnToSecond_33, List.forall_mem_cons.mpr ⟨np_S.mono (op := np_ret X.2.2.1) (np_s_ret hX dX9_turnToSecond_34) (nq_ret_le hR), List.forall_mem_cons.mpr ⟨np_S.mono (op := np_iinc 2 (-1)) (np_s_iinc hX dX9_turnToSecond_35 (by decide)) nw_iinc_le, List.forall_mem_cons.mpr ⟨np_s_goto hX dX9_turnToSecond_38 (by decide), List.forall_mem_cons.mpr ⟨np_s_iconst hX dX9_turnToSecond_41 (by decide), List.forall_mem_cons.mpr ⟨np_S.mono (op := np_ret X.2.2.1) (np_s_ret hX dX9_turnToSecond_42) (nq_ret_le hR), fun _ h => nomatch h⟩⟩⟩⟩⟩⟩⟩⟩⟩⟩⟩⟩⟩⟩⟩⟩⟩⟩⟩⟩⟩⟩⟩⟩⟩⟩
noncomputable def m_X9_turnToSecond_4 : Nat → pw_S → Nat → Int32 → pw_R Int32
| 0, _, _, _ => none
| N + 1, S, v0, v2 =>
 if v2 < 0 then
 (some (S, 0))
 else
 (pw_b (m_X11_at S 26 v0 v2 (-1)) fun S1 r4 =>
 if r4 = 4 then
 (pw_b (m_X11_put S1 26 v0 v2 6) fun S6 r9 =>
 some (S6, (v2 + 1)))
 else
 (pw_l (v2 + (-1) : Int32) fun z11 =>
 m_X9_turnToSecond_4 N S1 v0 z11))
set_option maxRecDepth 100000 in
set_option maxHeartbeats 8000000 in
theorem L_X9_turnToSecond_4 {X : np_Ctx} (hX : np_ok RX9 cX9_turnToSecond 3 1 22 0 0 .ireturn X) {Q : Option Value → np_W → Prop} {q n : Nat} (hR : ∀ st w ce sl, np_rt (some .int) 0 0 Q st w ce sl → X.2.2.1 st w ce sl) : ∀ (N : Nat) (S : pw_S) (v0 : Nat) (v2 : Int32) (f : Nat → Option np_E) (hv0 : pw_ok q 57 v0 = true), pw_W q (n, f) S → pw_p (m_X9_turnToSecond_4 N S v0 v2) (fun S' r => ∀ f', pw_W q (n, f') S' → Q (some (.int r)) (n, f')) → np_G X 4 [(0, .ref (pw_pl 57 v0)), (2, .int v2)] [] (n, f) 0 0 := by
  intro N
  induction N with
  | zero =>
    intro S v0 v2 f hv0 hW h
    exact (pw_pn h).elim
  | succ N ih =>
    intro S v0 v2 f hv0 hW h
    unfold m_X9_turnToSecond_4 at h
    refine np_soundW (so_X9_turnToSecond hX hR) [4] 400 4 _ _ _ _ _ ?_
    conv => whnf
    refine pw_br h (fun _ h => ?_) (fun _ h => ?_)
    · conv => whnf
      exact ⟨Nat.le_of_ble_eq_true rfl, Nat.le_of_ble_eq_true rfl, ⟨_, rfl⟩, _, fun _ _ h9 => h9, pw_ps h _ hW⟩
    · conv => whnf
      refine np_rd_i (hW.g hv0) ?_
      conv => whnf
      refine ⟨q, S, 26, v0, v2, (-1), rfl, rfl, hv0, hW, pw_bd h (fun S1 r4 h f2 hW3 => ?_)⟩
      conv => whnf
      refine pw_br h (fun _ h => ?_) (fun _ h => ?_)
      · conv => whnf
        refine np_rd_i (hW3.g hv0) ?_
        conv => whnf
        refine ⟨q, S1, 26, v0, v2, 6, rfl, rfl, hv0, hW3, pw_bd h (fun S6 r9 h f7 hW8 => ?_)⟩
        conv => whnf
        exact ⟨Nat.le_of_ble_eq_true rfl, Nat.le_of_ble_eq_true rfl, ⟨_, rfl⟩, _, fun _ _ h9 => h9, pw_ps h _ hW8⟩
      · conv => whnf
        refine pw_st h (fun z11 h => ?_)
        conv => whnf
        exact np_gl (ih S1 v0 z11 f2 hv0 hW3 h) ⟨rfl, rfl, trivial⟩
noncomputable def m_X9_turnToSecond (S : pw_S) (i0 : Nat) (x1 : Int32) : pw_R Int32 :=
 pw_l ((x1 - 1) : Int32) fun z12 =>
 m_X9_turnToSecond_4 (pw_F 20000) S i0 z12
def sp_X9_turnToSecond : np_Sp := fun vs w Q => ∃ (q : Nat) (S : pw_S) (i0 : Nat) (x1 : Int32), vs = [.ref (pw_pl 57 i0), .int x1] ∧ pw_ok q 57 i0 = true ∧ pw_W q w S ∧ pw_p (m_X9_turnToSecond S i0 x1) (fun S' r => ∀ f', pw_W q (w.1, f') S' → Q (some (.int r)) (w.1, f'))
set_option maxRecDepth 100000 in
set_option maxHeartbeats 8000000 in
theorem C_X9_turnToSecond : np_C yX9_turnToSecond cX9_turnToSecond 3 (some .int) 1 22 0 0 sp_X9_turnToSecond := by
  refine np_of (by decide) ?_
  intro X vs w Q hsp hX hmn hRt hlt
  obtain ⟨q, S, i0, x1, rfl, hi0, hW, h⟩ := hsp
  obtain ⟨n, f⟩ := w
  unfold m_X9_turnToSecond at h
  have hR : ∀ st w ce sl, np_rt (some .int) 0 0 Q st w ce sl → X.2.2.1 st w ce sl := fun _ _ _ _ h => by rw [hRt]; exact h
  refine np_soundW (so_X9_turnToSecond hX hR) [4] 400 0 _ _ _ _ _ ?_
  conv => whnf
  refine pw_st h (fun z12 h => ?_)
  conv => whnf
  exact np_gl (L_X9_turnToSecond_4 hX hR (pw_F 20000) S i0 z12 f hi0 hW h) ⟨rfl, rfl, trivial⟩
theorem dX9_findPath_0 : decode cX9_findPath 0 = .ok (.iconst 0, 1) := by decide +kernel
theorem dX9_findPath_1 : decode cX9_findPath 1 = .ok (.istore 4, 2) := by decide +kernel
theorem dX9_findPath_3 : decode cX9_findPath 3 = .ok (.aload_n 1, 1) := by decide +kernel
theorem dX9_findPath_4 : decode cX9_findPath 4 = .ok (.iload_n 2, 1) := by decide +kernel
theorem dX9_findPath_5 : decode cX9_findPath 5 = .ok (.invokevirtual 38, 3) := by decide +kernel
theorem dX9_findPath_8 : decode cX9_findPath 8 = .ok (.istore 5, 2) := by decide +kernel
theorem dX9_findPath_10 : decode cX9_findPath 10 = .ok (.iload 5, 2) := by decide +kernel
theorem dX9_findPath_12 : decode cX9_findPath 12 = .ok (.aload_n 1, 1) := by decide +kernel
theorem dX9_findPath_13 : decode cX9_findPath 13 = .ok (.iload_n 2, 1) := by decide +kernel
theorem dX9_findPath_14 : decode cX9_findPath 14 = .ok (.invokevirtual 30, 3) := by decide +kernel
theorem dX9_findPath_17 : decode cX9_findPath 17 = .ok (.if_icmp .ge 109, 3) := by decide +kernel
theorem dX9_findPath_20 : decode cX9_findPath 20 = .ok (.aload_n 1, 1) := by decide +kernel
theorem dX9_findPath_21 : decode cX9_findPath 21 = .ok (.iload 5, 2) := by decide +kernel
theorem dX9_findPath_23 : decode cX9_findPath 23 = .ok (.invokevirtual 74, 3) := by decide +kernel
theorem dX9_findPath_26 : decode cX9_findPath 26 = .ok (.istore 6, 2) := by decide +kernel
theorem dX9_findPath_28 : decode cX9_findPath 28 = .ok (.aload_n 1, 1) := by decide +kernel
theorem dX9_findPath_29 : decode cX9_findPath 29 = .ok (.iload 5, 2) := by decide +kernel
theorem dX9_findPath_31 : decode cX9_findPath 31 = .ok (.invokevirtual 77, 3) := by decide +kernel
theorem dX9_findPath_34 : decode cX9_findPath 34 = .ok (.istore 7, 2) := by decide +kernel
theorem dX9_findPath_36 : decode cX9_findPath 36 = .ok (.iload 6, 2) := by decide +kernel
theorem dX9_findPath_38 : decode cX9_findPath 38 = .ok (.ifCond .ne 12, 3) := by decide +kernel
theorem dX9_findPath_41 : decode cX9_findPath 41 = .ok (.iload 7, 2) := by decide +kernel
theorem dX9_findPath_43 : decode cX9_findPath 43 = .ok (.iload_n 3, 1) := by decide +kernel
theorem dX9_findPath_44 : decode cX9_findPath 44 = .ok (.if_icmp .ne 6, 3) := by decide +kernel
theorem dX9_findPath_47 : decode cX9_findPath 47 = .ok (.iload 4, 2) := by decide +kernel
theorem dX9_findPath_49 : decode cX9_findPath 49 = .ok (.ireturn, 1) := by decide +kernel
theorem dX9_findPath_50 : decode cX9_findPath 50 = .ok (.iload 6, 2) := by decide +kernel
theorem dX9_findPath_52 : decode cX9_findPath 52 = .ok (.ifCond .eq 9, 3) := by decide +kernel
theorem dX9_findPath_55 : decode cX9_findPath 55 = .ok (.iload 6, 2) := by decide +kernel
theorem dX9_findPath_57 : decode cX9_findPath 57 = .ok (.iconst 1, 1) := by decide +kernel
theorem dX9_findPath_58 : decode cX9_findPath 58 = .ok (.if_icmp .ne 14, 3) := by decide +kernel
theorem dX9_findPath_61 : decode cX9_findPath 61 = .ok (.aload_n 0, 1) := by decide +kernel
theorem dX9_findPath_62 : decode cX9_findPath 62 = .ok (.iload 4, 2) := by decide +kernel
theorem dX9_findPath_64 : decode cX9_findPath 64 = .ok (.invokevirtual 102, 3) := by decide +kernel
theorem dX9_findPath_67 : decode cX9_findPath 67 = .ok (.istore 4, 2) := by decide +kernel
theorem dX9_findPath_69 : decode cX9_findPath 69 = .ok (.goto 51, 3) := by decide +kernel
theorem dX9_findPath_72 : decode cX9_findPath 72 = .ok (.aload_n 0, 1) := by decide +kernel
theorem dX9_findPath_73 : decode cX9_findPath 73 = .ok (.getfield 24, 3) := by decide +kernel
theorem dX9_findPath_76 : decode cX9_findPath 76 = .ok (.iload 4, 2) := by decide +kernel
theorem dX9_findPath_78 : decode cX9_findPath 78 = .ok (.iload 6, 2) := by decide +kernel
theorem dX9_findPath_80 : decode cX9_findPath 80 = .ok (.invokestatic 45, 3) := by decide +kernel
theorem dX9_findPath_83 : decode cX9_findPath 83 = .ok (.aload_n 0, 1) := by decide +kernel
theorem dX9_findPath_84 : decode cX9_findPath 84 = .ok (.getfield 27, 3) := by decide +kernel
theorem dX9_findPath_87 : decode cX9_findPath 87 = .ok (.iload 4, 2) := by decide +kernel
theorem dX9_findPath_89 : decode cX9_findPath 89 = .ok (.iload 6, 2) := by decide +kernel
theorem dX9_findPath_91 : decode cX9_findPath 91 = .ok (.iconst 2, 1) := by decide +kernel
theorem dX9_findPath_92 : decode cX9_findPath 92 = .ok (.if_icmp .ne 9, 3) := by decide +kernel
theorem dX9_findPath_95 : decode cX9_findPath 95 = .ok (.iload 7, 2) := by decide +kernel
theorem dX9_findPath_97 : decode cX9_findPath 97 = .ok (.ineg, 1) := by decide +kernel
theorem dX9_findPath_98 : decode cX9_findPath 98 = .ok (.goto 16, 3) := by decide +kernel
theorem dX9_findPath_101 : decode cX9_findPath 101 = .ok (.iload 6, 2) := by decide +kernel
theorem dX9_findPath_103 : decode cX9_findPath 103 = .ok (.iconst 4, 1) := by decide +kernel
theorem dX9_findPath_104 : decode cX9_findPath 104 = .ok (.if_icmp .ne 8, 3) := by decide +kernel
theorem dX9_findPath_107 : decode cX9_findPath 107 = .ok (.bipush 100, 2) := by decide +kernel
theorem dX9_findPath_109 : decode cX9_findPath 109 = .ok (.goto 5, 3) := by decide +kernel
theorem dX9_findPath_112 : decode cX9_findPath 112 = .ok (.iload 7, 2) := by decide +kernel
theorem dX9_findPath_114 : decode cX9_findPath 114 = .ok (.invokestatic 45, 3) := by decide +kernel
theorem dX9_findPath_117 : decode cX9_findPath 117 = .ok (.iinc 4 1, 3) := by decide +kernel
theorem dX9_findPath_120 : decode cX9_findPath 120 = .ok (.iinc 5 1, 3) := by decide +kernel
theorem dX9_findPath_123 : decode cX9_findPath 123 = .ok (.goto (-113), 3) := by decide +kernel
theorem dX9_findPath_126 : decode cX9_findPath 126 = .ok (.iconst (-1), 1) := by decide +kernel
theorem dX9_findPath_127 : decode cX9_findPath 127 = .ok (.ireturn, 1) := by decide +kernel
def is_X9_findPath (Rt : np_Rt) : List (Nat × np_Op) := [(0, np_push 1 (.int 0)), (1, nw_ist 2 4), (3, np_ald 1 1), (4, np_ild 1 2), (5, nw_callV 9 2 sp_X9_start 2 0 0 0 0), (8, nw_ist 2 5), (10, np_ild 2 5), (12, np_ald 1 1), (13, np_ild 1 2), (14, nw_callV 9 2 sp_X9_end 2 0 0 0 0), (17, nq_ic (fun x y => y ≤ x) 126), (20, np_ald 1 1), (21, np_ild 2 5), (23, nw_callV 9 2 sp_X9_kind 2 0 0 0 0), (26, nw_ist 2 6), (28, np_ald 1 1), (29, np_ild 2 5), (31, nw_callV 9 2 sp_X9_number 2 0 0 0 0), (34, nw_ist 2 7), (36, np_ild 2 6), (38, nq_ifne 50), (41, np_ild 2 7), (43, np_ild 1 3), (44, nq_icne 50), (47, np_ild 2 4), (49, np_ret Rt), (50, np_ild 2 6), (52, nq_if (fun x => x = 0) 61), (55, np_ild 2 6), (57, np_push 1 (.int 1)), (58, nq_icne 72), (61, np_ald 1 0), (62, np_ild 2 4), (64, nw_callV 9 2 sp_X9_turnToSecond 3 0 0 0 0), (67, nw_ist 2 4), (69, np_goto 120), (72, np_ald 1 0), (73, nw_getf 9 4), (76, np_ild 2 4), (78, np_ild 2 6), (80, nq_call 3 sp_X11_put 3 0 0 0 0), (83, np_ald 1 0), (84, nw_getf 9 5), (87, np_ild 2 4), (89, np_ild 2 6), (91, np_push 1 (.int 2)), (92, nq_icne 101), (95, np_ild 2 7), (97, np_iu (fun x => -x)), (98, np_goto 114), (101, np_ild 2 6), (103, np_push 1 (.int 4)), (104, nq_icne 112), (107, np_push 2 (.int 100)), (109, np_goto 114), (112, np_ild 2 7), (114, nq_call 3 sp_X11_put 3 0 0 0 0), (117, nw_iinc 4 1), (120, nw_iinc 5 1), (123, np_goto 10), (126, np_push 1 (.int (-1))), (127, np_ret Rt)]
set_option maxRecDepth 20000 in
theorem so_X9_findPath {X : np_Ctx} {Rt : np_Rt} (hX : np_ok RX9 cX9_findPath 8 3 64 0 0 .ireturn X) (hR : ∀ st w ce sl, Rt st w ce sl → X.2.2.1 st w ce sl) : ∀ q ∈ is_X9_findPath Rt, np_S X q.1 q.2 :=
  List.forall_mem_cons.mpr ⟨np_s_iconst hX dX9_findPath_0 (by decide), List.forall_mem_cons.mpr ⟨np_S.mono (op := np_ist 2 4) (np_s_istore hX dX9_findPath_1 (by decide)) nw_ist_le, List.forall_mem_cons.mpr ⟨np_s_aload_n hX dX9_findPath_3 rfl, List.forall_mem_cons.mpr ⟨np_s_iload_n hX dX9_findPath_4 rfl, List.forall_mem_cons.mpr ⟨np_S.mono (op := np_callV 9 2 sp_X9_start 2 0 0 0 0) (np_s_callV hX C_X9_start dX9_findPath_5 (q := (RX9, TX9, 7)) rfl rfl gw1363 gw74 gw1360 gw1362 gw43 ⟨by decide, by decide, by decide⟩ (by decide) (by decide)) nw_callV_le, List.forall_mem_cons.mpr ⟨np_S.mono (op := np_ist 2 5) (np_s_istore hX dX9_findPath_8 (by decide)) nw_ist_le, List.forall_mem_cons.mpr ⟨np_s_iload hX dX9_findPath_10, List.forall_mem_cons.mpr ⟨np_s_aload_n hX dX9_findPath_12 rfl, List.forall_mem_cons.mpr ⟨np_s_iload_n hX dX9_findPath_13 rfl, List.forall_mem_cons.mpr ⟨np_S.mono (op := np_callV 9 2 sp_X9_end 2 0 0 0 0) (np_s_callV hX C_X9_end dX9_findPath_14 (q := (RX9, TX9, 7)) rfl rfl gw1367 gw74 gw1364 gw1366 gw44 ⟨by decide, by decide, by decide⟩ (by decide) (by decide)) nw_callV_le, List.forall_mem_cons.mpr ⟨np_S.mono (op := np_ic (fun x y => y ≤ x) 126) (np_s_icmp_ge hX dX9_findPath_17 (by decide)) nq_ic_le, List.forall_mem_cons.mpr ⟨np_s_aload_n hX dX9_findPath_20 rfl, List.forall_mem_cons.mpr ⟨np_s_iload hX dX9_findPath_21, List.forall_mem_cons.mpr ⟨np_S.mono (op := np_callV 9 2 sp_X9_kind 2 0 0 0 0) (np_s_callV hX C_X9_kind dX9_findPath_23 (q := (RX9, TX9, 7)) rfl rfl gw1371 gw74 gw1368 gw1370 gw45 ⟨by decide, by decide, by decide⟩ (by decide) (by decide)) nw_callV_le, List.forall_mem_cons.mpr ⟨np_S.mono (op := np_ist 2 6) (np_s_istore hX dX9_findPath_26 (by decide)) nw_ist_le, List.forall_mem_cons.mpr ⟨np_s_aload_n hX dX9_findPath_28 rfl, List.forall_mem_cons.mpr ⟨np_s_iload hX dX9_findPath_29, List.forall_mem_cons.mpr ⟨np_S.mono (op := np_callV 9 2 sp_X9_number 2 0 0 0 0) (np_s_callV hX C_X9_number dX9_findPath_31 (q := (RX9, TX9, 7)) rfl rfl gw1375 gw74 gw1372 gw1374 gw46 ⟨by decide, by decide, by decide⟩ (by decide) (by decide)) nw_callV_le, List.forall_mem_cons.mpr ⟨np_S.mono (op := np_ist 2 7) (np_s_istore hX dX9_findPath_34 (by decide)) nw_ist_le, List.forall_mem_cons.mpr ⟨np_s_iload hX dX9_findPath_36, List.forall_mem_cons.mpr ⟨np_S.mono (op := np_ifne 50) (np_s_if_ne hX dX9_findPath_38 (by decide)) nq_ifne_le, List.forall_mem_cons.mpr ⟨np_s_iload hX dX9_findPath_41, List.forall_mem_cons.mpr ⟨np_s_iload_n hX dX9_findPath_43 rfl, List.forall_mem_cons.mpr ⟨np_S.mono (op := np_icne 50) (np_s_icmp_ne hX dX9_findPath_44 (by decide)) nq_icne_le, List.forall_mem_cons.mpr ⟨np_s_iload hX dX9_findPath_47, List.forall_mem_cons.mpr ⟨np_S.mono (op := np_ret X.2.2.1) (np_s_ret hX dX9_findPath_49) (nq_ret_le hR), List.forall_mem_cons.mpr ⟨np_s_iload hX dX9_findPath_50, List.forall_mem_cons.mpr ⟨np_S.mono (op := np_if (fun x => x = 0) 61) (np_s_if_eq hX dX9_findPath_52 (by decide)) nq_if_le, List.forall_mem_cons.mpr ⟨np_s_iload hX dX9_findPath_55, List.forall_mem_cons.mpr ⟨np_s_iconst hX dX9_findPath_57 (by decide), List.forall_mem_cons.mpr ⟨np_S.mono (op := np_icne 72) (np_s_icmp_ne hX dX9_findPath_58 (by decide)) nq_icne_le, List.forall_mem_cons.mpr ⟨np_s_aload_n hX dX9_findPath_61 rfl, List.forall_mem_cons.mpr ⟨np_s_iload hX dX9_findPath_62, List.forall_mem_cons.mpr ⟨np_S.mono (op := np_callV 9 2 sp_X9_turnToSecond 3 0 0 0 0) (np_s_callV hX C_X9_turnToSecond dX9_findPath_64 (q := (RX9, TX9, 7)) rfl rfl gw1446 gw74 gw1443 gw1445 gw53 ⟨by decide, by decide, by decide⟩ (by decide) (by decide)) nw_callV_le, List.forall_mem_cons.mpr ⟨np_S.mono (op := np_ist 2 4) (np_s_istore hX dX9_findPath_67 (by decide)) nw_ist_le, List.forall_mem_cons.mpr ⟨np_s_goto hX dX9_findPath_69 (by decide), List.forall_mem_cons.mpr ⟨np_s_aload_n hX dX9_findPath_72 rfl, List.forall_mem_cons.mpr ⟨np_S.mono (op := np_getf 9 4) (np_s_getf hX dX9_findPath_73 (C := RX9) (T := TX9) (N := 7) rfl guX9 (by decide) gw422) nw_getf_le, List.forall_mem_cons.mpr ⟨np_s_iload hX dX9_findPath_76, List.forall_mem_cons.mpr ⟨np_s_iload hX dX9_findPath_78, List.forall_mem_cons.mpr ⟨np_S.mono (op := np_call 3 sp_X11_put 3 0 0 0 0) (np_s_callSN hX C_X11_put dX9_findPath_80 gw632 gw63 gw1329 gw631 ⟨by decide, by decide, by decide⟩ (by decide) (by decide)) nq_call_le, List.forall_mem_cons.mpr ⟨np_s_aload_n hX dX9_findPath_83 rfl, List.forall_mem_cons.mpr ⟨np_S.mono (op := np_getf 9 5) (np_s_getf hX dX9_findPath_84 (C := RX9) (T := TX9) (N := 7) rfl guX9 (by decide) gw423) nw_getf_le, List.forall_mem_cons.mpr ⟨np_s_iload hX dX9_findPath_87, List.forall_mem_cons.mpr ⟨np_s_iload hX dX9_findPath_89, List.forall_mem_cons.mpr ⟨np_s_iconst hX dX9_findPath_91 (by decide), List.forall_mem_cons.mpr ⟨np_S.mono (op := np_icne 101) (np_s_icmp_ne hX dX9_findPath_92 (by decide)) nq_icne_le, List.forall_mem_cons.mpr ⟨np_s_iload hX dX9_findPath_95, List.forall_mem_cons.mpr ⟨np_s_ineg hX dX9_findPath_97, List.forall_mem_cons.mpr ⟨np_s_goto hX dX9_findPath_98 (by decide), List.forall_mem_cons.mpr ⟨np_s_iload hX dX9_findPath_101, List.forall_mem_cons.mpr ⟨np_s_iconst hX dX9_findPath_103 (by decide), List.forall_mem_cons.mpr ⟨np_S.mono (op := np_icne 112) (np_s_icmp_ne hX dX9_findPath_104 (by decide)) nq_icne_le, List.forall_mem_cons.mpr ⟨np_s_bipush hX dX9_findPath_107 (by decide), List.forall_mem_cons.mpr ⟨np_s_goto hX dX9_findPath_109 (by decide), List.forall_mem_cons.mpr ⟨np_s_iload hX dX9_findPath_112, List.forall_mem_cons.mpr ⟨np_S.mono (op := np_call 3 sp_X11_put 3 0 0 0 0) (np_s_callSN hX C_X11_put dX9_findPath_114 gw632 gw63 gw1329 gw631 ⟨by decide, by decide, by decide⟩ (by decide) (by decide)) nq_call_le, List.forall_mem_cons.mpr ⟨np_S.mono (op := np_iinc 4 1) (np_s_iinc hX dX9_findPath_117 (by decide)) nw_iinc_le, List.forall_mem_cons.mpr ⟨np_S.mono (op := np_iinc 5 1) (np_s_iinc hX dX9_findPath_120 (by decide)) nw_iinc_le, List.forall_mem_cons.mpr ⟨np_s_goto hX dX9_findPath_123 (by decide), List.forall_mem_cons.mpr ⟨np_s_iconst hX dX9_findPath_126 (by decide), List.forall_mem_cons.mpr ⟨np_S.mono (op := np_ret X.2.2.1) (np_s_ret hX dX9_findPath_127) (nq_ret_le hR), fun _ h => nomatch h⟩⟩⟩⟩⟩⟩⟩⟩⟩⟩⟩⟩⟩⟩⟩⟩⟩⟩⟩⟩⟩⟩⟩⟩⟩⟩⟩⟩⟩⟩⟩⟩⟩⟩⟩⟩⟩⟩⟩⟩⟩⟩⟩⟩⟩⟩⟩⟩⟩⟩⟩⟩⟩⟩⟩⟩⟩⟩⟩⟩⟩⟩
noncomputable def m_X9_findPath_10 : Nat → pw_S → Nat → Nat → Int32 → Int32 → Int32 → Int32 → pw_R Int32
| 0, _, _, _, _, _, _, _ => none
| N + 1, S, v0, v1, v2, v3, v4, v5 =>
 pw_b (m_X9_end S v1 v2) fun S1 r4 =>
 if r4 ≤ v5 then
 (some (S1, (-1)))
 else
 (pw_b (m_X9_kind S1 v1 v5) fun S6 r9 =>
 pw_l (r9 : Int32) fun z11 =>
 pw_b (m_X9_number S6 v1 v5) fun S12 r15 =>
 pw_l (r15 : Int32) fun z17 =>
 if z11 = 0 then
 (if z17 = v3 then
 (some (S12, v4))
 else
 (if z11 = 0 then
 (pw_b (m_X9_turnToSecond S12 v0 v4) fun S18 r21 =>
 pw_l (r21 : Int32) fun z23 =>
 pw_l (v5 + 1 : Int32) fun z24 =>
 m_X9_findPath_10 N S18 v0 v1 v2 v3 z23 z24)
 else
 (if z11 = 1 then
 (pw_b (m_X9_turnToSecond S12 v0 v4) fun S25 r28 =>
 pw_l (r28 : Int32) fun z30 =>
 pw_l (v5 + 1 : Int32) fun z31 =>
 m_X9_findPath_10 N S25 v0 v1 v2 v3 z30 z31)
 else
 (pw_b (m_X11_put S12 26 v0 v4 z11) fun S32 r35 =>
 if z11 = 2 then
 (pw_b (m_X11_put S32 27 v0 v4 (-z17)) fun S37 r40 =>
 pw_l (v4 + 1 : Int32) fun z42 =>
 pw_l (v5 + 1 : Int32) fun z43 =>
 m_X9_findPath_10 N S37 v0 v1 v2 v3 z42 z43)
 else
 (if z11 = 4 then
 (pw_b (m_X11_put S32 27 v0 v4 100) fun S44 r47 =>
 pw_l (v4 + 1 : Int32) fun z49 =>
 pw_l (v5 + 1 : Int32) fun z50 =>
 m_X9_findPath_10 N S44 v0 v1 v2 v3 z49 z50)
 else
 (pw_b (m_X11_put S32 27 v0 v4 z17) fun S51 r54 =>
 pw_l (v4 + 1 : Int32) fun z56 =>
 pw_l (v5 + 1 : Int32) fun z57 =>
 m_X9_findPath_10 N S51 v0 v1 v2 v3 z56 z57))))))
 else
 (if z11 = 0 then
 (pw_b (m_X9_turnToSecond S12 v0 v4) fun S58 r61 =>
 pw_l (r61 : Int32) fun z63 =>
 pw_l (v5 + 1 : Int32) fun z64 =>
 m_X9_findPath_10 N S58 v0 v1 v2 v3 z63 z64)
 else
 (if z11 = 1 then
 (pw_b (m_X9_turnToSecond S12 v0 v4) fun S65 r68 =>
 pw_l (r68 : Int32) fun z70 =>
 pw_l (v5 + 1 : Int32) fun z71 =>
 m_X9_findPath_10 N S65 v0 v1 v2 v3 z70 z71)
 else
 (pw_b (m_X11_put S12 26 v0 v4 z11) fun S72 r75 =>
 if z11 = 2 then
 (pw_b (m_X11_put S72 27 v0 v4 (-z17)) fun S77 r80 =>
 pw_l (v4 + 1 : Int32) fun z82 =>
 pw_l (v5 + 1 : Int32) fun z83 =>
 m_X9_findPath_10 N S77 v0 v1 v2 v3 z82 z83)
 else
 (if z11 = 4 then
 (pw_b (m_X11_put S72 27 v0 v4 100) fun S84 r87 =>
 pw_l (v4 + 1 : Int32) fun z89 =>
 pw_l (v5 + 1 : Int32) fun z90 =>
 m_X9_findPath_10 N S84 v0 v1 v2 v3 z89 z90)
 else
 (pw_b (m_X11_put S72 27 v0 v4 z17) fun S91 r94 =>
 pw_l (v4 + 1 : Int32) fun z96 =>
 pw_l (v5 + 1 : Int32) fun z97 =>
 m_X9_findPath_10 N S91 v0 v1 v2 v3 z96 z97))))))
set_option maxRecDepth 100000 in
set_option maxHeartbeats 8000000 in
theorem L_X9_findPath_10 {X : np_Ctx} (hX : np_ok RX9 cX9_findPath 8 3 64 0 0 .ireturn X) {Q : Option Value → np_W → Prop} {q n : Nat} (hR : ∀ st w ce sl, np_rt (some .int) 0 0 Q st w ce sl → X.2.2.1 st w ce sl) : ∀ (N : Nat) (S : pw_S) (v0 : Nat) (v1 : Nat) (v2 : Int32) (v3 : Int32) (v4 : Int32) (v5 : Int32) (f : Nat → Option np_E) (hv0 : pw_ok q 57 v0 = true) (hv1 : pw_ok q 57 v1 = true), pw_W q (n, f) S → pw_p (m_X9_findPath_10 N S v0 v1 v2 v3 v4 v5) (fun S' r => ∀ f', pw_W q (n, f') S' → Q (some (.int r)) (n, f')) → np_G X 10 [(0, .ref (pw_pl 57 v0)), (1, .ref (pw_pl 57 v1)), (2, .int v2), (3, .int v3), (4, .int v4), (5, .int v5)] [] (n, f) 0 0 := by
  intro N
  induction N with
  | zero =>
    intro S v0 v1 v2 v3 v4 v5 f hv0 hv1 hW h
    exact (pw_pn h).elim
  | succ N ih =>
    intro S v0 v1 v2 v3 v4 v5 f hv0 hv1 hW h
    unfold m_X9_findPath_10 at h
    refine np_soundW (so_X9_findPath hX hR) [10] 400 10 _ _ _ _ _ ?_
    conv => whnf
    refine np_rd_i (hW.g hv1) ?_
    conv => whnf
    refine ⟨q, S, v1, v2, rfl, hv1, hW, pw_bd h (fun S1 r4 h f2 hW3 => ?_)⟩
    conv => whnf
    refine pw_br h (fun _ h => ?_) (fun _ h => ?_)
    · conv => whnf
      exact ⟨Nat.le_of_ble_eq_true rfl, Nat.le_of_ble_eq_true rfl, ⟨_, rfl⟩, _, fun _ _ h9 => h9, pw_ps h _ hW3⟩
    · conv => whnf
      refine np_rd_i (hW3.g hv1) ?_
      conv => whnf
      refine ⟨q, S1, v1, v5, rfl, hv1, hW3, pw_bd h (fun S6 r9 h f7 hW8 => ?_)⟩
      conv => whnf
      refine pw_st h (fun z11 h => ?_)
      conv => whnf
      refine np_rd_i (hW8.g hv1) ?_
      conv => whnf
      refine ⟨q, S6, v1, v5, rfl, hv1, hW8, pw_bd h (fun S12 r15 h f13 hW14 => ?_)⟩
      conv => whnf
      refine pw_st h (fun z17 h => ?_)
      conv => whnf
      refine pw_br h (fun _ h => ?_) (fun _ h => ?_)
      · conv => whnf
        refine pw_br h (fun _ h => ?_) (fun _ h => ?_)
        · conv => whnf
          exact ⟨Nat.le_of_ble_eq_true rfl, Nat.le_of_ble_eq_true rfl, ⟨_, rfl⟩, _, fun _ _ h9 => h9, pw_ps h _ hW14⟩
        · conv => whnf
          refine pw_br h (fun _ h => ?_) (fun _ h => ?_)
          · conv => whnf
            refine np_rd_i (hW14.g hv0) ?_
            conv => whnf
            refine ⟨q, S12, v0, v4, rfl, hv0, hW14, pw_bd h (fun S18 r21 h f19 hW20 => ?_)⟩
            conv => whnf
            refine pw_st h (fun z23 h => ?_)
            conv => whnf
            refine pw_st h (fun z24 h => ?_)
            conv => whnf
            exact np_gl (ih S18 v0 v1 v2 v3 z23 z24 f19 hv0 hv1 hW20 h) ⟨rfl, rfl, rfl, rfl, rfl, rfl, trivial⟩
          · conv => whnf
            refine pw_br h (fun _ h => ?_) (fun _ h => ?_)
            · conv => whnf
              refine np_rd_i (hW14.g hv0) ?_
              conv => whnf
              refine ⟨q, S12, v0, v4, rfl, hv0, hW14, pw_bd h (fun S25 r28 h f26 hW27 => ?_)⟩
              conv => whnf
              refine pw_st h (fun z30 h => ?_)
              conv => whnf
              refine pw_st h (fun z31 h => ?_)
              conv => whnf
              exact np_gl (ih S25 v0 v1 v2 v3 z30 z31 f26 hv0 hv1 hW27 h) ⟨rfl, rfl, rfl, rfl, rfl, rfl, trivial⟩
            · conv => whnf
              refine np_rd_i (hW14.g hv0) ?_
              conv => whnf
              refine ⟨q, S12, 26, v0, v4, z11, rfl, rfl, hv0, hW14, pw_bd h (fun S32 r35 h f33 hW34 => ?_)⟩
              conv => whnf
              refine np_rd_i (hW34.g hv0) ?_
              conv => whnf
              refine pw_br h (fun _ h => ?_) (fun _ h => ?_)
              · conv => whnf
                refine ⟨q, S32, 27, v0, v4, (-z17), rfl, rfl, hv0, hW34, pw_bd h (fun S37 r40 h f38 hW39 => ?_)⟩
                conv => whnf
                refine pw_st h (fun z42 h => ?_)
                conv => whnf
                refine pw_st h (fun z43 h => ?_)
                conv => whnf
                exact np_gl (ih S37 v0 v1 v2 v3 z42 z43 f38 hv0 hv1 hW39 h) ⟨rfl, rfl, rfl, rfl, rfl, rfl, trivial⟩
              · conv => whnf
                refine pw_br h (fun _ h => ?_) (fun _ h => ?_)
                · conv => whnf
                  refine ⟨q, S32, 27, v0, v4, 100, rfl, rfl, hv0, hW34, pw_bd h (fun S44 r47 h f45 hW46 => ?_)⟩
                  conv => whnf
                  refine pw_st h (fun z49 h => ?_)
                  conv => whnf
                  refine pw_st h (fun z50 h => ?_)
                  conv => whnf
                  exact np_gl (ih S44 v0 v1 v2 v3 z49 z50 f45 hv0 hv1 hW46 h) ⟨rfl, rfl, rfl, rfl, rfl, rfl, trivial⟩
                · conv => whnf
                  refine ⟨q, S32, 27, v0, v4, z17, rfl, rfl, hv0, hW34, pw_bd h (fun S51 r54 h f52 hW53 => ?_)⟩
                  conv => whnf
                  refine pw_st h (fun z56 h => ?_)
                  conv => whnf
                  refine pw_st h (fun z57 h => ?_)
                  conv => whnf
                  exact np_gl (ih S51 v0 v1 v2 v3 z56 z57 f52 hv0 hv1 hW53 h) ⟨rfl, rfl, rfl, rfl, rfl, rfl, trivial⟩
      · conv => whnf
        refine pw_br h (fun _ h => ?_) (fun _ h => ?_)
        · conv => whnf
          refine np_rd_i (hW14.g hv0) ?_
          conv => whnf
          refine ⟨q, S12, v0, v4, rfl, hv0, hW14, pw_bd h (fun S58 r61 h f59 hW60 => ?_)⟩
          conv => whnf
          refine pw_st h (fun z63 h => ?_)
          conv => whnf
          refine pw_st h (fun z64 h => ?_)
          conv => whnf
          exact np_gl (ih S58 v0 v1 v2 v3 z63 z64 f59 hv0 hv1 hW60 h) ⟨rfl, rfl, rfl, rfl, rfl, rfl, trivial⟩
        · conv => whnf
          refine pw_br h (fun _ h => ?_) (fun _ h => ?_)
          · conv => whnf
            refine np_rd_i (hW14.g hv0) ?_
            conv => whnf
            refine ⟨q, S12, v0, v4, rfl, hv0, hW14, pw_bd h (fun S65 r68 h f66 hW67 => ?_)⟩
            conv => whnf
            refine pw_st h (fun z70 h => ?_)
            conv => whnf
            refine pw_st h (fun z71 h => ?_)
            conv => whnf
            exact np_gl (ih S65 v0 v1 v2 v3 z70 z71 f66 hv0 hv1 hW67 h) ⟨rfl, rfl, rfl, rfl, rfl, rfl, trivial⟩
          · conv => whnf
            refine np_rd_i (hW14.g hv0) ?_
            conv => whnf
            refine ⟨q, S12, 26, v0, v4, z11, rfl, rfl, hv0, hW14, pw_bd h (fun S72 r75 h f73 hW74 => ?_)⟩
            conv => whnf
            refine np_rd_i (hW74.g hv0) ?_
            conv => whnf
            refine pw_br h (fun _ h => ?_) (fun _ h => ?_)
            · conv => whnf
              refine ⟨q, S72, 27, v0, v4, (-z17), rfl, rfl, hv0, hW74, pw_bd h (fun S77 r80 h f78 hW79 => ?_)⟩
              conv => whnf
              refine pw_st h (fun z82 h => ?_)
              conv => whnf
              refine pw_st h (fun z83 h => ?_)
              conv => whnf
              exact np_gl (ih S77 v0 v1 v2 v3 z82 z83 f78 hv0 hv1 hW79 h) ⟨rfl, rfl, rfl, rfl, rfl, rfl, trivial⟩
            · conv => whnf
              refine pw_br h (fun _ h => ?_) (fun _ h => ?_)
              · conv => whnf
                refine ⟨q, S72, 27, v0, v4, 100, rfl, rfl, hv0, hW74, pw_bd h (fun S84 r87 h f85 hW86 => ?_)⟩
                conv => whnf
                refine pw_st h (fun z89 h => ?_)
                conv => whnf
                refine pw_st h (fun z90 h => ?_)
                conv => whnf
                exact np_gl (ih S84 v0 v1 v2 v3 z89 z90 f85 hv0 hv1 hW86 h) ⟨rfl, rfl, rfl, rfl, rfl, rfl, trivial⟩
              · conv => whnf
                refine ⟨q, S72, 27, v0, v4, z17, rfl, rfl, hv0, hW74, pw_bd h (fun S91 r94 h f92 hW93 => ?_)⟩
                conv => whnf
                refine pw_st h (fun z96 h => ?_)
                conv => whnf
                refine pw_st h (fun z97 h => ?_)
                conv => whnf
                exact np_gl (ih S91 v0 v1 v2 v3 z96 z97 f92 hv0 hv1 hW93 h) ⟨rfl, rfl, rfl, rfl, rfl, rfl, trivial⟩
noncomputable def m_X9_findPath (S : pw_S) (i0 : Nat) (i1 : Nat) (x2 : Int32) (x3 : Int32) : pw_R Int32 :=
 pw_l (0 : Int32) fun z98 =>
 pw_b (m_X9_start S i1 x2) fun S99 r102 =>
 pw_l (r102 : Int32) fun z104 =>
 m_X9_findPath_10 (pw_F 20000) S99 i0 i1 x2 x3 z98 z104
def sp_X9_findPath : np_Sp := fun vs w Q => ∃ (q : Nat) (S : pw_S) (i0 : Nat) (i1 : Nat) (x2 : Int32) (x3 : Int32), vs = [.ref (pw_pl 57 i0), .ref (pw_pl 57 i1), .int x2, .int x3] ∧ pw_ok q 57 i0 = true ∧ pw_ok q 57 i1 = true ∧ pw_W q w S ∧ pw_p (m_X9_findPath S i0 i1 x2 x3) (fun S' r => ∀ f', pw_W q (w.1, f') S' → Q (some (.int r)) (w.1, f'))
set_option maxRecDepth 100000 in
set_option maxHeartbeats 8000000 in
theorem C_X9_findPath : np_C yX9_findPath cX9_findPath 8 (some .int) 3 64 0 0 sp_X9_findPath := by
  refine np_of (by decide) ?_
  intro X vs w Q hsp hX hmn hRt hlt
  obtain ⟨q, S, i0, i1, x2, x3, rfl, hi0, hi1, hW, h⟩ := hsp
  obtain ⟨n, f⟩ := w
  unfold m_X9_findPath at h
  have hR : ∀ st w ce sl, np_rt (some .int) 0 0 Q st w ce sl → X.2.2.1 st w ce sl := fun _ _ _ _ h => by rw [hRt]; exact h
  refine np_soundW (so_X9_findPath hX hR) [10] 400 0 _ _ _ _ _ ?_
  conv => whnf
  refine pw_st h (fun z98 h => ?_)
  conv => whnf
  refine np_rd_i (hW.g hi1) ?_
  conv => whnf
  refine ⟨q, S, i1, x2, rfl, hi1, hW, pw_bd h (fun S99 r102 h f100 hW101 => ?_)⟩
  conv => whnf
  refine pw_st h (fun z104 h => ?_)
  conv => whnf
  exact np_gl (L_X9_findPath_10 hX hR (pw_F 20000) S99 i0 i1 x2 x3 z98 z104 f100 hi0 hi1 hW101 h) ⟨rfl, rfl, rfl, rfl, rfl, rfl, trivial⟩
theorem dX9_reversedKind_0 : decode cX9_reversedKind 0 = .ok (.iload_n 0, 1) := by decide +kernel
theorem dX9_reversedKind_1 : decode cX9_reversedKind 1 = .ok (.iconst 3, 1) := by decide +kernel
theorem dX9_reversedKind_2 : decode cX9_reversedKind 2 = .ok (.if_icmp .eq 8, 3) := by decide +kernel
theorem dX9_reversedKind_5 : decode cX9_reversedKind 5 = .ok (.iload_n 0, 1) := by decide +kernel
theorem dX9_reversedKind_6 : decode cX9_reversedKind 6 = .ok (.iconst 4, 1) := by decide +kernel
theorem dX9_reversedKind_7 : decode cX9_reversedKind 7 = .ok (.if_icmp .ne 7, 3) := by decide +kernel
theorem dX9_reversedKind_10 : decode cX9_reversedKind 10 = .ok (.iconst 5, 1) := by decide +kernel
theorem dX9_reversedKind_11 : decode cX9_reversedKind 11 = .ok (.goto 4, 3) := by decide +kernel
theorem dX9_reversedKind_14 : decode cX9_reversedKind 14 = .ok (.iload_n 0, 1) := by decide +kernel
theorem dX9_reversedKind_15 : decode cX9_reversedKind 15 = .ok (.ireturn, 1) := by decide +kernel
def is_X9_reversedKind (Rt : np_Rt) : List (Nat × np_Op) := [(0, np_ild 1 0), (1, np_push 1 (.int 3)), (2, nq_ic (fun x y => x = y) 10), (5, np_ild 1 0), (6, np_push 1 (.int 4)), (7, nq_icne 14), (10, np_push 1 (.int 5)), (11, np_goto 15), (14, np_ild 1 0), (15, np_ret Rt)]
set_option maxRecDepth 20000 in
theorem so_X9_reversedKind {X : np_Ctx} {Rt : np_Rt} (hX : np_ok RX9 cX9_reversedKind 1 0 0 0 0 .ireturn X) (hR : ∀ st w ce sl, Rt st w ce sl → X.2.2.1 st w ce sl) : ∀ q ∈ is_X9_reversedKind Rt, np_S X q.1 q.2 :=
  List.forall_mem_cons.mpr ⟨np_s_iload_n hX dX9_reversedKind_0 rfl, List.forall_mem_cons.mpr ⟨np_s_iconst hX dX9_reversedKind_1 (by decide), List.forall_mem_cons.mpr ⟨np_S.mono (op := np_ic (fun x y => x = y) 10) (np_s_icmp_eq hX dX9_reversedKind_2 (by decide)) nq_ic_le, List.forall_mem_cons.mpr ⟨np_s_iload_n hX dX9_reversedKind_5 rfl, List.forall_mem_cons.mpr ⟨np_s_iconst hX dX9_reversedKind_6 (by decide), List.forall_mem_cons.mpr ⟨np_S.mono (op := np_icne 14) (np_s_icmp_ne hX dX9_reversedKind_7 (by decide)) nq_icne_le, List.forall_mem_cons.mpr ⟨np_s_iconst hX dX9_reversedKind_10 (by decide), List.forall_mem_cons.mpr ⟨np_s_goto hX dX9_reversedKind_11 (by decide), List.forall_mem_cons.mpr ⟨np_s_iload_n hX dX9_reversedKind_14 rfl, List.forall_mem_cons.mpr ⟨np_S.mono (op := np_ret X.2.2.1) (np_s_ret hX dX9_reversedKind_15) (nq_ret_le hR), fun _ h => nomatch h⟩⟩⟩⟩⟩⟩⟩⟩⟩⟩
noncomputable def m_X9_reversedKind (S : pw_S) (x0 : Int32) : pw_R Int32 :=
 if x0 = 3 then
 (some (S, 5))
 else
 (if x0 = 4 then
 (some (S, 5))
 else
 (some (S, x0)))
def sp_X9_reversedKind : np_Sp := fun vs w Q => ∃ (q : Nat) (S : pw_S) (x0 : Int32), vs = [.int x0] ∧ pw_W q w S ∧ pw_p (m_X9_reversedKind S x0) (fun S' r => ∀ f', pw_W q (w.1, f') S' → Q (some (.int r)) (w.1, f'))
set_option maxRecDepth 100000 in
set_option maxHeartbeats 8000000 in
theorem C_X9_reversedKind : np_C yX9_reversedKind cX9_reversedKind 1 (some .int) 0 0 0 0 sp_X9_reversedKind := by
  refine np_of (by decide) ?_
  intro X vs w Q hsp hX hmn hRt hlt
  obtain ⟨q, S, x0, rfl, hW, h⟩ := hsp
  obtain ⟨n, f⟩ := w
  unfold m_X9_reversedKind at h
  have hR : ∀ st w ce sl, np_rt (some .int) 0 0 Q st w ce sl → X.2.2.1 st w ce sl := fun _ _ _ _ h => by rw [hRt]; exact h
  refine np_soundW (so_X9_reversedKind hX hR) [] 400 0 _ _ _ _ _ ?_
  conv => whnf
  refine pw_br h (fun _ h => ?_) (fun _ h => ?_)
  · conv => whnf
    exact ⟨Nat.le_of_ble_eq_true rfl, Nat.le_of_ble_eq_true rfl, ⟨_, rfl⟩, _, fun _ _ h9 => h9, pw_ps h _ hW⟩
  · conv => whnf
    refine pw_br h (fun _ h => ?_) (fun _ h => ?_)
    · conv => whnf
      exact ⟨Nat.le_of_ble_eq_true rfl, Nat.le_of_ble_eq_true rfl, ⟨_, rfl⟩, _, fun _ _ h9 => h9, pw_ps h _ hW⟩
    · conv => whnf
      exact ⟨Nat.le_of_ble_eq_true rfl, Nat.le_of_ble_eq_true rfl, ⟨_, rfl⟩, _, fun _ _ h9 => h9, pw_ps h _ hW⟩
theorem dX9_addReversed_0 : decode cX9_addReversed 0 = .ok (.iconst 0, 1) := by decide +kernel
theorem dX9_addReversed_1 : decode cX9_addReversed 1 = .ok (.istore_n 3, 1) := by decide +kernel
theorem dX9_addReversed_2 : decode cX9_addReversed 2 = .ok (.iload_n 3, 1) := by decide +kernel
theorem dX9_addReversed_3 : decode cX9_addReversed 3 = .ok (.bipush 8, 2) := by decide +kernel
theorem dX9_addReversed_5 : decode cX9_addReversed 5 = .ok (.if_icmp .ge 74, 3) := by decide +kernel
theorem dX9_addReversed_8 : decode cX9_addReversed 8 = .ok (.aload_n 0, 1) := by decide +kernel
theorem dX9_addReversed_9 : decode cX9_addReversed 9 = .ok (.aload_n 1, 1) := by decide +kernel
theorem dX9_addReversed_10 : decode cX9_addReversed 10 = .ok (.iload_n 3, 1) := by decide +kernel
theorem dX9_addReversed_11 : decode cX9_addReversed 11 = .ok (.iload_n 2, 1) := by decide +kernel
theorem dX9_addReversed_12 : decode cX9_addReversed 12 = .ok (.invokevirtual 95, 3) := by decide +kernel
theorem dX9_addReversed_15 : decode cX9_addReversed 15 = .ok (.istore 4, 2) := by decide +kernel
theorem dX9_addReversed_17 : decode cX9_addReversed 17 = .ok (.iload 4, 2) := by decide +kernel
theorem dX9_addReversed_19 : decode cX9_addReversed 19 = .ok (.iconst 1, 1) := by decide +kernel
theorem dX9_addReversed_20 : decode cX9_addReversed 20 = .ok (.isub, 1) := by decide +kernel
theorem dX9_addReversed_21 : decode cX9_addReversed 21 = .ok (.istore 5, 2) := by decide +kernel
theorem dX9_addReversed_23 : decode cX9_addReversed 23 = .ok (.iload 5, 2) := by decide +kernel
theorem dX9_addReversed_25 : decode cX9_addReversed 25 = .ok (.ifCond .lt 36, 3) := by decide +kernel
theorem dX9_addReversed_28 : decode cX9_addReversed 28 = .ok (.aload_n 0, 1) := by decide +kernel
theorem dX9_addReversed_29 : decode cX9_addReversed 29 = .ok (.aload_n 0, 1) := by decide +kernel
theorem dX9_addReversed_30 : decode cX9_addReversed 30 = .ok (.getfield 24, 3) := by decide +kernel
theorem dX9_addReversed_33 : decode cX9_addReversed 33 = .ok (.iload 5, 2) := by decide +kernel
theorem dX9_addReversed_35 : decode cX9_addReversed 35 = .ok (.iconst (-1), 1) := by decide +kernel
theorem dX9_addReversed_36 : decode cX9_addReversed 36 = .ok (.invokestatic 34, 3) := by decide +kernel
theorem dX9_addReversed_39 : decode cX9_addReversed 39 = .ok (.invokestatic 99, 3) := by decide +kernel
theorem dX9_addReversed_42 : decode cX9_addReversed 42 = .ok (.aload_n 0, 1) := by decide +kernel
theorem dX9_addReversed_43 : decode cX9_addReversed 43 = .ok (.getfield 27, 3) := by decide +kernel
theorem dX9_addReversed_46 : decode cX9_addReversed 46 = .ok (.iload 5, 2) := by decide +kernel
theorem dX9_addReversed_48 : decode cX9_addReversed 48 = .ok (.iconst 0, 1) := by decide +kernel
theorem dX9_addReversed_49 : decode cX9_addReversed 49 = .ok (.invokestatic 34, 3) := by decide +kernel
theorem dX9_addReversed_52 : decode cX9_addReversed 52 = .ok (.invokevirtual 62, 3) := by decide +kernel
theorem dX9_addReversed_55 : decode cX9_addReversed 55 = .ok (.iinc 5 (-1), 3) := by decide +kernel
theorem dX9_addReversed_58 : decode cX9_addReversed 58 = .ok (.goto (-35), 3) := by decide +kernel
theorem dX9_addReversed_61 : decode cX9_addReversed 61 = .ok (.iload 4, 2) := by decide +kernel
theorem dX9_addReversed_63 : decode cX9_addReversed 63 = .ok (.ifCond .lt 10, 3) := by decide +kernel
theorem dX9_addReversed_66 : decode cX9_addReversed 66 = .ok (.aload_n 0, 1) := by decide +kernel
theorem dX9_addReversed_67 : decode cX9_addReversed 67 = .ok (.iconst 0, 1) := by decide +kernel
theorem dX9_addReversed_68 : decode cX9_addReversed 68 = .ok (.iload_n 3, 1) := by decide +kernel
theorem dX9_addReversed_69 : decode cX9_addReversed 69 = .ok (.invokevirtual 62, 3) := by decide +kernel
theorem dX9_addReversed_72 : decode cX9_addReversed 72 = .ok (.return_, 1) := by decide +kernel
theorem dX9_addReversed_73 : decode cX9_addReversed 73 = .ok (.iinc 3 1, 3) := by decide +kernel
theorem dX9_addReversed_76 : decode cX9_addReversed 76 = .ok (.goto (-74), 3) := by decide +kernel
theorem dX9_addReversed_79 : decode cX9_addReversed 79 = .ok (.return_, 1) := by decide +kernel
def is_X9_addReversed (Rt : np_Rt) : List (Nat × np_Op) := [(0, np_push 1 (.int 0)), (1, nw_ist 1 3), (2, np_ild 1 3), (3, np_push 2 (.int 8)), (5, nq_ic (fun x y => y ≤ x) 79), (8, np_ald 1 0), (9, np_ald 1 1), (10, np_ild 1 3), (11, np_ild 1 2), (12, nw_callV 9 4 sp_X9_findPath 8 0 0 0 0), (15, nw_ist 2 4), (17, np_ild 2 4), (19, np_push 1 (.int 1)), (20, np_ib (fun x y => x - y)), (21, nw_ist 2 5), (23, np_ild 2 5), (25, nq_if (fun x => x < 0) 61), (28, np_ald 1 0), (29, np_ald 1 0), (30, nw_getf 9 4), (33, np_ild 2 5), (35, np_push 1 (.int (-1))), (36, nq_call 3 sp_X11_at 3 0 0 0 0), (39, nq_call 1 sp_X9_reversedKind 1 0 0 0 0), (42, np_ald 1 0), (43, nw_getf 9 5), (46, np_ild 2 5), (48, np_push 1 (.int 0)), (49, nq_call 3 sp_X11_at 3 0 0 0 0), (52, nw_callV 9 3 sp_X9_add 3 0 0 0 0), (55, nw_iinc 5 (-1)), (58, np_goto 23), (61, np_ild 2 4), (63, nq_if (fun x => x < 0) 73), (66, np_ald 1 0), (67, np_push 1 (.int 0)), (68, np_ild 1 3), (69, nw_callV 9 3 sp_X9_add 3 0 0 0 0), (72, np_ret Rt), (73, nw_iinc 3 1), (76, np_goto 2), (79, np_ret Rt)]
set_option maxRecDepth 20000 in
theorem so_X9_addReversed {X : np_Ctx} {Rt : np_Rt} (hX : np_ok RX9 cX9_addReversed 6 4 91 0 0 .return_ X) (hR : ∀ st w ce sl, Rt st w ce sl → X.2.2.1 st w ce sl) : ∀ q ∈ is_X9_addReversed Rt, np_S X q.1 q.2 :=
  List.forall_mem_cons.mpr ⟨np_s_iconst hX dX9_addReversed_0 (by decide), List.forall_mem_cons.mpr ⟨np_S.mono (op := np_ist 1 3) (np_s_istore_n hX dX9_addReversed_1 rfl (by decide)) nw_ist_le, List.forall_mem_cons.mpr ⟨np_s_iload_n hX dX9_addReversed_2 rfl, List.forall_mem_cons.mpr ⟨np_s_bipush hX dX9_addReversed_3 (by decide), List.forall_mem_cons.mpr ⟨np_S.mono (op := np_ic (fun x y => y ≤ x) 79) (np_s_icmp_ge hX dX9_addReversed_5 (by decide)) nq_ic_le, List.forall_mem_cons.mpr ⟨np_s_aload_n hX dX9_addReversed_8 rfl, List.forall_mem_cons.mpr ⟨np_s_aload_n hX dX9_addReversed_9 rfl, List.forall_mem_cons.mpr ⟨np_s_iload_n hX dX9_addReversed_10 rfl, List.forall_mem_cons.mpr ⟨np_s_iload_n hX dX9_addReversed_11 rfl, List.forall_mem_cons.mpr ⟨np_S.mono (op := np_callV 9 4 sp_X9_findPath 8 0 0 0 0) (np_s_callV hX C_X9_findPath dX9_addReversed_12 (q := (RX9, TX9, 7)) rfl rfl gw1442 gw74 gw1439 gw1441 gw52 ⟨by decide, by decide, by decide⟩ (by decide) (by decide)) nw_callV_le, List.forall_mem_cons.mpr ⟨np_S.mono (op := np_ist 2 4) (np_s_istore hX dX9_addReversed_15 (by decide)) nw_ist_le, List.forall_mem_cons.mpr ⟨np_s_iload hX dX9_addReversed_17, List.forall_mem_cons.mpr ⟨np_s_iconst hX dX9_addReversed_19 (by decide), List.forall_mem_cons.mpr ⟨np_s_isub hX dX9_addReversed_20, List.forall_mem_cons.mpr ⟨np_S.mono (op := np_ist 2 5) (np_s_istore hX dX9_addReversed_21 (by decide)) nw_ist_le, List.forall_mem_cons.mpr ⟨np_s_iload hX dX9_addReversed_23, List.forall_mem_cons.mpr ⟨np_S.mono (op := np_if (fun x => x < 0) 61) (np_s_if_lt hX dX9_addReversed_25 (by decide)) nq_if_le, List.forall_mem_cons.mpr ⟨np_s_aload_n hX dX9_addReversed_28 rfl, List.forall_mem_cons.mpr ⟨np_s_aload_n hX dX9_addReversed_29 rfl, List.forall_mem_cons.mpr ⟨np_S.mono (op := np_getf 9 4) (np_s_getf hX dX9_addReversed_30 (C := RX9) (T := TX9) (N := 7) rfl guX9 (by decide) gw422) nw_getf_le, List.forall_mem_cons.mpr ⟨np_s_iload hX dX9_addReversed_33, List.forall_mem_cons.mpr ⟨np_s_iconst hX dX9_addReversed_35 (by decide), List.forall_mem_cons.mpr ⟨np_S.mono (op := np_call 3 sp_X11_at 3 0 0 0 0) (np_s_callSN hX C_X11_at dX9_addReversed_36 gw653 gw63 gw1320 gw652 ⟨by decide, by decide, by decide⟩ (by decide) (by decide)) nq_call_le, List.forall_mem_cons.mpr ⟨np_S.mono (op := np_call 1 sp_X9_reversedKind 1 0 0 0 0) (np_s_callS hX C_X9_reversedKind dX9_addReversed_39 gw1449 gw74 gw1447 gw1448 ⟨by decide, by decide, by decide⟩ (by decide) (by decide)) nq_call_le, List.forall_mem_cons.mpr ⟨np_s_aload_n hX dX9_addReversed_42 rfl, List.forall_mem_cons.mpr ⟨np_S.mono (op := np_getf 9 5) (np_s_getf hX dX9_addReversed_43 (C := RX9) (T := TX9) (N := 7) rfl guX9 (by decide) gw423) nw_getf_le, List.forall_mem_cons.mpr ⟨np_s_iload hX dX9_addReversed_46, List.forall_mem_cons.mpr ⟨np_s_iconst hX dX9_addReversed_48 (by decide), List.forall_mem_cons.mpr ⟨np_S.mono (op := np_call 3 sp_X11_at 3 0 0 0 0) (np_s_callSN hX C_X11_at dX9_addReversed_49 gw653 gw63 gw1320 gw652 ⟨by decide, by decide, by decide⟩ (by decide) (by decide)) nq_call_le, List.forall_mem_cons.mpr ⟨np_S.mono (op := np_callV 9 3 sp_X9_add 3 0 0 0 0) (np_s_callV hX C_X9_add dX9_addReversed_52 (q := (RX9, TX9, 7)) rfl rfl gw1328 gw74 gw1325 gw1327 gw40 ⟨by decide, by decide, by decide⟩ (by decide) (by decide)) nw_callV_le, List.forall_mem_cons.mpr ⟨np_S.mono (op := np_iinc 5 (-1)) (np_s_iinc hX dX9_addReversed_55 (by decide)) nw_iinc_le, List.forall_mem_cons.mpr ⟨np_s_goto hX dX9_addReversed_58 (by decide), List.forall_mem_cons.mpr ⟨np_s_iload hX dX9_addReversed_61, List.forall_mem_cons.mpr ⟨np_S.mono (op := np_if (fun x => x < 0) 73) (np_s_if_lt hX dX9_addReversed_63 (by decide)) nq_if_le, List.forall_mem_cons.mpr ⟨np_s_aload_n hX dX9_addReversed_66 rfl, List.forall_mem_cons.mpr ⟨np_s_iconst hX dX9_addReversed_67 (by decide), List.forall_mem_cons.mpr ⟨np_s_iload_n hX dX9_addReversed_68 rfl, List.forall_mem_cons.mpr ⟨np_S.mono (op := np_callV 9 3 sp_X9_add 3 0 0 0 0) (np_s_callV hX C_X9_add dX9_addReversed_69 (q := (RX9, TX9, 7)) rfl rfl gw1328 gw74 gw1325 gw1327 gw40 ⟨by decide, by decide, by decide⟩ (by decide) (by decide)) nw_callV_le, List.forall_mem_cons.mpr ⟨np_S.mono (op := np_ret X.2.2.1) (np_s_ret hX dX9_addReversed_72) (nq_ret_le hR), List.forall_mem_cons.mpr ⟨np_S.mono (op := np_iinc 3 1) (np_s_iinc hX dX9_addReversed_73 (by decide)) nw_iinc_le, List.forall_mem_cons.mpr ⟨np_s_goto hX dX9_addReversed_76 (by decide), List.forall_mem_cons.mpr ⟨np_S.mono (op := np_ret X.2.2.1) (np_s_ret hX dX9_addReversed_79) (nq_ret_le hR), fun _ h => nomatch h⟩⟩⟩⟩⟩⟩⟩⟩⟩⟩⟩⟩⟩⟩⟩⟩⟩⟩⟩⟩⟩⟩⟩⟩⟩⟩⟩⟩⟩⟩⟩⟩⟩⟩⟩⟩⟩⟩⟩⟩⟩⟩
noncomputable def m_X9_addReversed_23 (k61 : pw_S → Nat → Nat → Int32 → Int32 → Int32 → pw_R Unit) : Nat → pw_S → Nat → Nat → Int32 → Int32 → Int32 → Int32 → pw_R Unit
| 0, _, _, _, _, _, _, _ => none
| N + 1, S, v0, v1, v2, v3, v4, v5 =>
 if v5 < 0 then
 (k61 S v0 v1 v2 v3 v4)
 else
 (pw_b (m_X11_at S 26 v0 v5 (-1)) fun S1 r4 =>
 pw_b (m_X9_reversedKind S1 r4) fun S6 r9 =>
 pw_b (m_X11_at S6 27 v0 v5 0) fun S11 r14 =>
 pw_b (m_X9_add S11 v0 r9 r14) fun S16 r19 =>
 pw_l (v5 + (-1) : Int32) fun z21 =>
 m_X9_addReversed_23 k61 N S16 v0 v1 v2 v3 v4 z21)
set_option maxRecDepth 100000 in
set_option maxHeartbeats 8000000 in
theorem L_X9_addReversed_23 {X : np_Ctx} (hX : np_ok RX9 cX9_addReversed 6 4 91 0 0 .return_ X) {Q : Option Value → np_W → Prop} {q n : Nat} (hR : ∀ st w ce sl, np_rt none 0 0 Q st w ce sl → X.2.2.1 st w ce sl) {k61 : pw_S → Nat → Nat → Int32 → Int32 → Int32 → pw_R Unit} (hk61 : ∀ (S : pw_S) (v0 : Nat) (v1 : Nat) (v2 : Int32) (v3 : Int32) (v4 : Int32) (f : Nat → Option np_E) (hv0 : pw_ok q 57 v0 = true) (hv1 : pw_ok q 57 v1 = true), pw_W q (n, f) S → pw_p (k61 S v0 v1 v2 v3 v4) (fun S' r => ∀ f', pw_W q (n, f') S' → Q none (n, f')) → np_G X 61 [(0, .ref (pw_pl 57 v0)), (1, .ref (pw_pl 57 v1)), (2, .int v2), (3, .int v3), (4, .int v4)] [] (n, f) 0 0) : ∀ (N : Nat) (S : pw_S) (v0 : Nat) (v1 : Nat) (v2 : Int32) (v3 : Int32) (v4 : Int32) (v5 : Int32) (f : Nat → Option np_E) (hv0 : pw_ok q 57 v0 = true) (hv1 : pw_ok q 57 v1 = true), pw_W q (n, f) S → pw_p (m_X9_addReversed_23 k61 N S v0 v1 v2 v3 v4 v5) (fun S' r => ∀ f', pw_W q (n, f') S' → Q none (n, f')) → np_G X 23 [(0, .ref (pw_pl 57 v0)), (1, .ref (pw_pl 57 v1)), (2, .int v2), (3, .int v3), (4, .int v4), (5, .int v5)] [] (n, f) 0 0 := by
  intro N
  induction N with
  | zero =>
    intro S v0 v1 v2 v3 v4 v5 f hv0 hv1 hW h
    exact (pw_pn h).elim
  | succ N ih =>
    intro S v0 v1 v2 v3 v4 v5 f hv0 hv1 hW h
    unfold m_X9_addReversed_23 at h
    refine np_soundW (so_X9_addReversed hX hR) [2, 23, 61] 400 23 _ _ _ _ _ ?_
    conv => whnf
    refine pw_br h (fun _ h => ?_) (fun _ h => ?_)
    · conv => whnf
      exact np_gl (hk61 S v0 v1 v2 v3 v4 f hv0 hv1 hW h) ⟨rfl, rfl, rfl, rfl, rfl, trivial⟩
    · conv => whnf
      refine np_rd_i (hW.g hv0) ?_
      conv => whnf
      refine ⟨q, S, 26, v0, v5, (-1), rfl, rfl, hv0, hW, pw_bd h (fun S1 r4 h f2 hW3 => ?_)⟩
      conv => whnf
      refine ⟨q, S1, r4, rfl, hW3, pw_bd h (fun S6 r9 h f7 hW8 => ?_)⟩
      conv => whnf
      refine np_rd_i (hW8.g hv0) ?_
      conv => whnf
      refine ⟨q, S6, 27, v0, v5, 0, rfl, rfl, hv0, hW8, pw_bd h (fun S11 r14 h f12 hW13 => ?_)⟩
      conv => whnf
      refine np_rd_i (hW13.g hv0) ?_
      conv => whnf
      refine ⟨q, S11, v0, r9, r14, rfl, hv0, hW13, pw_bd h (fun S16 r19 h f17 hW18 => ?_)⟩
      conv => whnf
      refine pw_st h (fun z21 h => ?_)
      conv => whnf
      exact np_gl (ih S16 v0 v1 v2 v3 v4 z21 f17 hv0 hv1 hW18 h) ⟨rfl, rfl, rfl, rfl, rfl, rfl, trivial⟩
noncomputable def m_X9_addReversed_2 : Nat → pw_S → Nat → Nat → Int32 → Int32 → pw_R Unit
| 0, _, _, _, _, _ => none
| N + 1, S, v0, v1, v2, v3 =>
 if 8 ≤ v3 then
 (some (S, ()))
 else
 (pw_b (m_X9_findPath S v0 v1 v3 v2) fun S22 r25 =>
 pw_l (r25 : Int32) fun z27 =>
 pw_l ((z27 - 1) : Int32) fun z28 =>
 m_X9_addReversed_23
 (fun S36 u29 u31 u33 u34 u35 =>
 (if u35 < 0 then
 (pw_l (u34 + 1 : Int32) fun z39 =>
 m_X9_addReversed_2 N S36 u29 u31 u33 z39)
 else
 (pw_b (m_X9_add S36 u29 0 u34) fun S40 r43 =>
 some (S40, ())))) (pw_F 20000) S22 v0 v1 v2 v3 z27 z28)
set_option maxRecDepth 100000 in
set_option maxHeartbeats 8000000 in
theorem L_X9_addReversed_2 {X : np_Ctx} (hX : np_ok RX9 cX9_addReversed 6 4 91 0 0 .return_ X) {Q : Option Value → np_W → Prop} {q n : Nat} (hR : ∀ st w ce sl, np_rt none 0 0 Q st w ce sl → X.2.2.1 st w ce sl) : ∀ (N : Nat) (S : pw_S) (v0 : Nat) (v1 : Nat) (v2 : Int32) (v3 : Int32) (f : Nat → Option np_E) (hv0 : pw_ok q 57 v0 = true) (hv1 : pw_ok q 57 v1 = true), pw_W q (n, f) S → pw_p (m_X9_addReversed_2 N S v0 v1 v2 v3) (fun S' r => ∀ f', pw_W q (n, f') S' → Q none (n, f')) → np_G X 2 [(0, .ref (pw_pl 57 v0)), (1, .ref (pw_pl 57 v1)), (2, .int v2), (3, .int v3)] [] (n, f) 0 0 := by
  intro N
  induction N with
  | zero =>
    intro S v0 v1 v2 v3 f hv0 hv1 hW h
    exact (pw_pn h).elim
  | succ N ih =>
    intro S v0 v1 v2 v3 f hv0 hv1 hW h
    unfold m_X9_addReversed_2 at h
    refine np_soundW (so_X9_addReversed hX hR) [2, 23] 400 2 _ _ _ _ _ ?_
    conv => whnf
    refine pw_br h (fun _ h => ?_) (fun _ h => ?_)
    · conv => whnf
      exact ⟨Nat.le_of_ble_eq_true rfl, Nat.le_of_ble_eq_true rfl, rfl, _, fun _ _ h9 => h9, pw_ps h _ hW⟩
    · conv => whnf
      refine np_rd_i (hW.g hv0) ?_
      conv => whnf
      refine ⟨q, S, v0, v1, v3, v2, rfl, hv0, hv1, hW, pw_bd h (fun S22 r25 h f23 hW24 => ?_)⟩
      conv => whnf
      refine pw_st h (fun z27 h => ?_)
      conv => whnf
      refine pw_st h (fun z28 h => ?_)
      conv => whnf
      refine np_gl (L_X9_addReversed_23 hX hR (fun S36 u29 u31 u33 u34 u35 f37 ho30 ho32 hW38 h => ?_) (pw_F 20000) S22 v0 v1 v2 v3 z27 z28 f23 hv0 hv1 hW24 h) ⟨rfl, rfl, rfl, rfl, rfl, rfl, trivial⟩
      · refine np_soundW (so_X9_addReversed hX hR) [2, 23] 400 61 _ _ _ _ _ ?_
        conv => whnf
        refine pw_br h (fun _ h => ?_) (fun _ h => ?_)
        · conv => whnf
          refine pw_st h (fun z39 h => ?_)
          conv => whnf
          exact np_gl (ih S36 u29 u31 u33 z39 f37 ho30 ho32 hW38 h) ⟨rfl, rfl, rfl, rfl, trivial⟩
        · conv => whnf
          refine np_rd_i (hW38.g ho30) ?_
          conv => whnf
          refine ⟨q, S36, u29, 0, u34, rfl, ho30, hW38, pw_bd h (fun S40 r43 h f41 hW42 => ?_)⟩
          conv => whnf
          exact ⟨Nat.le_of_ble_eq_true rfl, Nat.le_of_ble_eq_true rfl, rfl, _, fun _ _ h9 => h9, pw_ps h _ hW42⟩
noncomputable def m_X9_addReversed (S : pw_S) (i0 : Nat) (i1 : Nat) (x2 : Int32) : pw_R Unit :=
 pw_l (0 : Int32) fun z45 =>
 m_X9_addReversed_2 (pw_F 20000) S i0 i1 x2 z45
def sp_X9_addReversed : np_Sp := fun vs w Q => ∃ (q : Nat) (S : pw_S) (i0 : Nat) (i1 : Nat) (x2 : Int32), vs = [.ref (pw_pl 57 i0), .ref (pw_pl 57 i1), .int x2] ∧ pw_ok q 57 i0 = true ∧ pw_ok q 57 i1 = true ∧ pw_W q w S ∧ pw_p (m_X9_addReversed S i0 i1 x2) (fun S' r => ∀ f', pw_W q (w.1, f') S' → Q none (w.1, f'))
set_option maxRecDepth 100000 in
set_option maxHeartbeats 8000000 in
theorem C_X9_addReversed : np_C yX9_addReversed cX9_addReversed 6 none 4 91 0 0 sp_X9_addReversed := by
  refine np_of (by decide) ?_
  intro X vs w Q hsp hX hmn hRt hlt
  obtain ⟨q, S, i0, i1, x2, rfl, hi0, hi1, hW, h⟩ := hsp
  obtain ⟨n, f⟩ := w
  unfold m_X9_addReversed at h
  have hR : ∀ st w ce sl, np_rt none 0 0 Q st w ce sl → X.2.2.1 st w ce sl := fun _ _ _ _ h => by rw [hRt]; exact h
  refine np_soundW (so_X9_addReversed hX hR) [2, 23] 400 0 _ _ _ _ _ ?_
  conv => whnf
  refine pw_st h (fun z45 h => ?_)
  conv => whnf
  exact np_gl (L_X9_addReversed_2 hX hR (pw_F 20000) S i0 i1 x2 z45 f hi0 hi1 hW h) ⟨rfl, rfl, rfl, rfl, trivial⟩
theorem dX9_buildReversed_0 : decode cX9_buildReversed 0 = .ok (.aload_n 1, 1) := by decide +kernel
theorem dX9_buildReversed_1 : decode cX9_buildReversed 1 = .ok (.invokevirtual 88, 3) := by decide +kernel
theorem dX9_buildReversed_4 : decode cX9_buildReversed 4 = .ok (.ifCond .eq 5, 3) := by decide +kernel
theorem dX9_buildReversed_7 : decode cX9_buildReversed 7 = .ok (.iconst 0, 1) := by decide +kernel
theorem dX9_buildReversed_8 : decode cX9_buildReversed 8 = .ok (.ireturn, 1) := by decide +kernel
theorem dX9_buildReversed_9 : decode cX9_buildReversed 9 = .ok (.aload_n 0, 1) := by decide +kernel
theorem dX9_buildReversed_10 : decode cX9_buildReversed 10 = .ok (.iconst 0, 1) := by decide +kernel
theorem dX9_buildReversed_11 : decode cX9_buildReversed 11 = .ok (.putfield 41, 3) := by decide +kernel
theorem dX9_buildReversed_14 : decode cX9_buildReversed 14 = .ok (.iconst 0, 1) := by decide +kernel
theorem dX9_buildReversed_15 : decode cX9_buildReversed 15 = .ok (.istore_n 2, 1) := by decide +kernel
theorem dX9_buildReversed_16 : decode cX9_buildReversed 16 = .ok (.iload_n 2, 1) := by decide +kernel
theorem dX9_buildReversed_17 : decode cX9_buildReversed 17 = .ok (.bipush 8, 2) := by decide +kernel
theorem dX9_buildReversed_19 : decode cX9_buildReversed 19 = .ok (.if_icmp .ge 27, 3) := by decide +kernel
theorem dX9_buildReversed_22 : decode cX9_buildReversed 22 = .ok (.aload_n 0, 1) := by decide +kernel
theorem dX9_buildReversed_23 : decode cX9_buildReversed 23 = .ok (.aload_n 1, 1) := by decide +kernel
theorem dX9_buildReversed_24 : decode cX9_buildReversed 24 = .ok (.iload_n 2, 1) := by decide +kernel
theorem dX9_buildReversed_25 : decode cX9_buildReversed 25 = .ok (.invokevirtual 92, 3) := by decide +kernel
theorem dX9_buildReversed_28 : decode cX9_buildReversed 28 = .ok (.aload_n 0, 1) := by decide +kernel
theorem dX9_buildReversed_29 : decode cX9_buildReversed 29 = .ok (.getfield 18, 3) := by decide +kernel
theorem dX9_buildReversed_32 : decode cX9_buildReversed 32 = .ok (.iload_n 2, 1) := by decide +kernel
theorem dX9_buildReversed_33 : decode cX9_buildReversed 33 = .ok (.aload_n 0, 1) := by decide +kernel
theorem dX9_buildReversed_34 : decode cX9_buildReversed 34 = .ok (.getfield 41, 3) := by decide +kernel
theorem dX9_buildReversed_37 : decode cX9_buildReversed 37 = .ok (.invokestatic 45, 3) := by decide +kernel
theorem dX9_buildReversed_40 : decode cX9_buildReversed 40 = .ok (.iinc 2 1, 3) := by decide +kernel
theorem dX9_buildReversed_43 : decode cX9_buildReversed 43 = .ok (.goto (-27), 3) := by decide +kernel
theorem dX9_buildReversed_46 : decode cX9_buildReversed 46 = .ok (.aload_n 0, 1) := by decide +kernel
theorem dX9_buildReversed_47 : decode cX9_buildReversed 47 = .ok (.getfield 41, 3) := by decide +kernel
theorem dX9_buildReversed_50 : decode cX9_buildReversed 50 = .ok (.bipush 60, 2) := by decide +kernel
theorem dX9_buildReversed_52 : decode cX9_buildReversed 52 = .ok (.if_icmp .gt 7, 3) := by decide +kernel
theorem dX9_buildReversed_55 : decode cX9_buildReversed 55 = .ok (.iconst 1, 1) := by decide +kernel
theorem dX9_buildReversed_56 : decode cX9_buildReversed 56 = .ok (.goto 4, 3) := by decide +kernel
theorem dX9_buildReversed_59 : decode cX9_buildReversed 59 = .ok (.iconst 0, 1) := by decide +kernel
theorem dX9_buildReversed_60 : decode cX9_buildReversed 60 = .ok (.ireturn, 1) := by decide +kernel
def is_X9_buildReversed (Rt : np_Rt) : List (Nat × np_Op) := [(0, np_ald 1 1), (1, nw_callV 9 1 sp_X9_hasQuotientOrRest 2 0 0 0 0), (4, nq_if (fun x => x = 0) 9), (7, np_push 1 (.int 0)), (8, np_ret Rt), (9, np_ald 1 0), (10, np_push 1 (.int 0)), (11, nw_putf 9 6 (.int)), (14, np_push 1 (.int 0)), (15, nw_ist 1 2), (16, np_ild 1 2), (17, np_push 2 (.int 8)), (19, nq_ic (fun x y => y ≤ x) 46), (22, np_ald 1 0), (23, np_ald 1 1), (24, np_ild 1 2), (25, nw_callV 9 3 sp_X9_addReversed 6 0 0 0 0), (28, np_ald 1 0), (29, nw_getf 9 2), (32, np_ild 1 2), (33, np_ald 1 0), (34, nw_getf 9 6), (37, nq_call 3 sp_X11_put 3 0 0 0 0), (40, nw_iinc 2 1), (43, np_goto 16), (46, np_ald 1 0), (47, nw_getf 9 6), (50, np_push 2 (.int 60)), (52, nq_ic (fun x y => y < x) 59), (55, np_push 1 (.int 1)), (56, np_goto 60), (59, np_push 1 (.int 0)), (60, np_ret Rt)]
set_option maxRecDepth 20000 in
theorem so_X9_buildReversed {X : np_Ctx} {Rt : np_Rt} (hX : np_ok RX9 cX9_buildReversed 3 5 116 0 0 .ireturn X) (hR : ∀ st w ce sl, Rt st w ce sl → X.2.2.1 st w ce sl) : ∀ q ∈ is_X9_buildReversed Rt, np_S X q.1 q.2 :=
  List.forall_mem_cons.mpr ⟨np_s_aload_n hX dX9_buildReversed_0 rfl, List.forall_mem_cons.mpr ⟨np_S.mono (op := np_callV 9 1 sp_X9_hasQuotientOrRest 2 0 0 0 0) (np_s_callV hX C_X9_hasQuotientOrRest dX9_buildReversed_1 (q := (RX9, TX9, 7)) rfl rfl gw1434 gw74 gw1431 gw1433 gw50 ⟨by decide, by decide, by decide⟩ (by decide) (by decide)) nw_callV_le, List.forall_mem_cons.mpr ⟨np_S.mono (op := np_if (fun x => x = 0) 9) (np_s_if_eq hX dX9_buildReversed_4 (by decide)) nq_if_le, List.forall_mem_cons.mpr ⟨np_s_iconst hX dX9_buildReversed_7 (by decide), List.forall_mem_cons.mpr ⟨np_S.mono (op := np_ret X.2.2.1) (np_s_ret hX dX9_buildReversed_8) (nq_ret_le hR), List.forall_mem_cons.mpr ⟨np_s_aload_n hX dX9_buildReversed_9 rfl, List.forall_mem_cons.mpr ⟨np_s_iconst hX dX9_buildReversed_10 (by decide), List.forall_mem_cons.mpr ⟨np_S.mono (op := np_putf 9 6 (.int)) (np_s_putf hX dX9_buildReversed_11 (C := RX9) (T := TX9) (N := 7) (ty0 := tyX9) rfl guX9 tyX9_ok nmX9 (by decide) gw424 rfl rfl) nw_putf_le, List.forall_mem_cons.mpr ⟨np_s_iconst hX dX9_buildReversed_14 (by decide), List.forall_mem_cons.mpr ⟨np_S.mono (op := np_ist 1 2) (np_s_istore_n hX dX9_buildReversed_15 rfl (by decide)) nw_ist_le, List.forall_mem_cons.mpr ⟨np_s_iload_n hX dX9_buildReversed_16 rfl, List.forall_mem_cons.mpr ⟨np_s_bipush hX dX9_buildReversed_17 (by decide), List.forall_mem_cons.mpr ⟨np_S.mono (op := np_ic (fun x y => y ≤ x) 46) (np_s_icmp_ge hX dX9_buildReversed_19 (by decide)) nq_ic_le, List.forall_mem_cons.mpr ⟨np_s_aload_n hX dX9_buildReversed_22 rfl, List.forall_mem_cons.mpr ⟨np_s_aload_n hX dX9_buildReversed_23 rfl, List.forall_mem_cons.mpr ⟨np_s_iload_n hX dX9_buildReversed_24 rfl, List.forall_mem_cons.mpr ⟨np_S.mono (op := np_callV 9 3 sp_X9_addReversed 6 0 0 0 0) (np_s_callV hX C_X9_addReversed dX9_buildReversed_25 (q := (RX9, TX9, 7)) rfl rfl gw1438 gw74 gw1435 gw1437 gw51 ⟨by decide, by decide, by decide⟩ (by decide) (by decide)) nw_callV_le, List.forall_mem_cons.mpr ⟨np_s_aload_n hX dX9_buildReversed_28 rfl, List.forall_mem_cons.mpr ⟨np_S.mono (op := np_getf 9 2) (np_s_getf hX dX9_buildReversed_29 (C := RX9) (T := TX9) (N := 7) rfl guX9 (by decide) gw420) nw_getf_le, List.forall_mem_cons.mpr ⟨np_s_iload_n hX dX9_buildReversed_32 rfl, List.forall_mem_cons.mpr ⟨np_s_aload_n hX dX9_buildReversed_33 rfl, List.forall_mem_cons.mpr ⟨np_S.mono (op := np_getf 9 6) (np_s_getf hX dX9_buildReversed_34 (C := RX9) (T := TX9) (N := 7) rfl guX9 (by decide) gw424) nw_getf_le, List.forall_mem_cons.mpr ⟨np_S.mono (op := np_call 3 sp_X11_put 3 0 0 0 0) (np_s_callSN hX C_X11_put dX9_buildReversed_37 gw632 gw63 gw1329 gw631 ⟨by decide, by decide, by decide⟩ (by decide) (by decide)) nq_call_le, List.forall_mem_cons.mpr ⟨np_S.mono (op := np_iinc 2 1) (np_s_iinc hX dX9_buildReversed_40 (by decide)) nw_iinc_le, List.forall_mem_cons.mpr ⟨np_s_goto hX dX9_buildReversed_43 (by decide), List.forall_mem_cons.mpr ⟨np_s_aload_n hX dX9_buildReversed_46 rfl, List.forall_mem_cons.mpr ⟨np_S.mono (op := np_getf 9 6) (np_s_getf hX dX9_buildReversed_47 (C := RX9) (T := TX9) (N := 7) rfl guX9 (by decide) gw424) nw_getf_le, List.forall_mem_cons.mpr ⟨np_s_bipush hX dX9_buildReversed_50 (by decide), List.forall_mem_cons.mpr ⟨np_S.mono (op := np_ic (fun x y => y < x) 59) (np_s_icmp_gt hX dX9_buildReversed_52 (by decide)) nq_ic_le, List.forall_mem_cons.mpr ⟨np_s_iconst hX dX9_buildReversed_55 (by decide), List.forall_mem_cons.mpr ⟨np_s_goto hX dX9_buildReversed_56 (by decide), List.forall_mem_cons.mpr ⟨np_s_iconst hX dX9_buildReversed_59 (by decide), List.forall_mem_cons.mpr ⟨np_S.mono (op := np_ret X.2.2.1) (np_s_ret hX dX9_buildReversed_60) (nq_ret_le hR), fun _ h => nomatch h⟩⟩⟩⟩⟩⟩⟩⟩⟩⟩⟩⟩⟩⟩⟩⟩⟩⟩⟩⟩⟩⟩⟩⟩⟩⟩⟩⟩⟩⟩⟩⟩⟩
noncomputable def m_X9_buildReversed_16 : Nat → pw_S → Nat → Nat → Int32 → pw_R Int32
| 0, _, _, _, _ => none
| N + 1, S, v0, v1, v2 =>
 if 8 ≤ v2 then
 (if 60 < (S 57 v0 6) then
 (some (S, 0))
 else
 (some (S, 1)))
 else
 (pw_b (m_X9_addReversed S v0 v1 v2) fun S1 r4 =>
 pw_b (m_X11_put S1 24 v0 v2 (S1 57 v0 6)) fun S6 r9 =>
 pw_l (v2 + 1 : Int32) fun z11 =>
 m_X9_buildReversed_16 N S6 v0 v1 z11)
set_option maxRecDepth 100000 in
set_option maxHeartbeats 8000000 in
theorem L_X9_buildReversed_16 {X : np_Ctx} (hX : np_ok RX9 cX9_buildReversed 3 5 116 0 0 .ireturn X) {Q : Option Value → np_W → Prop} {q n : Nat} (hR : ∀ st w ce sl, np_rt (some .boolean) 0 0 Q st w ce sl → X.2.2.1 st w ce sl) : ∀ (N : Nat) (S : pw_S) (v0 : Nat) (v1 : Nat) (v2 : Int32) (f : Nat → Option np_E) (hv0 : pw_ok q 57 v0 = true) (hv1 : pw_ok q 57 v1 = true), pw_W q (n, f) S → pw_p (m_X9_buildReversed_16 N S v0 v1 v2) (fun S' r => ∀ f', pw_W q (n, f') S' → Q (some (.int r)) (n, f')) → np_G X 16 [(0, .ref (pw_pl 57 v0)), (1, .ref (pw_pl 57 v1)), (2, .int v2)] [] (n, f) 0 0 := by
  intro N
  induction N with
  | zero =>
    intro S v0 v1 v2 f hv0 hv1 hW h
    exact (pw_pn h).elim
  | succ N ih =>
    intro S v0 v1 v2 f hv0 hv1 hW h
    unfold m_X9_buildReversed_16 at h
    refine np_soundW (so_X9_buildReversed hX hR) [16] 400 16 _ _ _ _ _ ?_
    conv => whnf
    refine pw_br h (fun _ h => ?_) (fun _ h => ?_)
    · conv => whnf
      refine np_rd_i (hW.g hv0) ?_
      conv => whnf
      refine pw_br h (fun _ h => ?_) (fun _ h => ?_)
      · conv => whnf
        exact ⟨Nat.le_of_ble_eq_true rfl, Nat.le_of_ble_eq_true rfl, ⟨_, rfl, by decide⟩, _, fun _ _ h9 => h9, pw_ps h _ hW⟩
      · conv => whnf
        exact ⟨Nat.le_of_ble_eq_true rfl, Nat.le_of_ble_eq_true rfl, ⟨_, rfl, by decide⟩, _, fun _ _ h9 => h9, pw_ps h _ hW⟩
    · conv => whnf
      refine np_rd_i (hW.g hv0) ?_
      conv => whnf
      refine ⟨q, S, v0, v1, v2, rfl, hv0, hv1, hW, pw_bd h (fun S1 r4 h f2 hW3 => ?_)⟩
      conv => whnf
      refine np_rd_i (hW3.g hv0) ?_
      conv => whnf
      refine np_rd_i (hW3.g hv0) ?_
      conv => whnf
      refine ⟨q, S1, 24, v0, v2, (S1 57 v0 6), rfl, rfl, hv0, hW3, pw_bd h (fun S6 r9 h f7 hW8 => ?_)⟩
      conv => whnf
      refine pw_st h (fun z11 h => ?_)
      conv => whnf
      exact np_gl (ih S6 v0 v1 z11 f7 hv0 hv1 hW8 h) ⟨rfl, rfl, rfl, trivial⟩
noncomputable def m_X9_buildReversed (S : pw_S) (i0 : Nat) (i1 : Nat) : pw_R Int32 :=
 pw_b (m_X9_hasQuotientOrRest S i1) fun S12 r15 =>
 if r15 = 0 then
 (pw_l (pw_up S12 57 i0 (upd (S12 57 i0) 6 0)) fun S17 =>
 pw_l (0 : Int32) fun z20 =>
 m_X9_buildReversed_16 (pw_F 20000) S17 i0 i1 z20)
 else
 (some (S12, 0))
def sp_X9_buildReversed : np_Sp := fun vs w Q => ∃ (q : Nat) (S : pw_S) (i0 : Nat) (i1 : Nat), vs = [.ref (pw_pl 57 i0), .ref (pw_pl 57 i1)] ∧ pw_ok q 57 i0 = true ∧ pw_ok q 57 i1 = true ∧ pw_W q w S ∧ pw_p (m_X9_buildReversed S i0 i1) (fun S' r => ∀ f', pw_W q (w.1, f') S' → Q (some (.int r)) (w.1, f'))
set_option maxRecDepth 100000 in
set_option maxHeartbeats 8000000 in
theorem C_X9_buildReversed : np_C yX9_buildReversed cX9_buildReversed 3 (some .boolean) 5 116 0 0 sp_X9_buildReversed := by
  refine np_of (by decide) ?_
  intro X vs w Q hsp hX hmn hRt hlt
  obtain ⟨q, S, i0, i1, rfl, hi0, hi1, hW, h⟩ := hsp
  obtain ⟨n, f⟩ := w
  unfold m_X9_buildReversed at h
  have hR : ∀ st w ce sl, np_rt (some .boolean) 0 0 Q st w ce sl → X.2.2.1 st w ce sl := fun _ _ _ _ h => by rw [hRt]; exact h
  refine np_soundW (so_X9_buildReversed hX hR) [16] 400 0 _ _ _ _ _ ?_
  conv => whnf
  refine np_rd_i (hW.g hi1) ?_
  conv => whnf
  refine ⟨q, S, i1, rfl, hi1, hW, pw_bd h (fun S12 r15 h f13 hW14 => ?_)⟩
  conv => whnf
  refine pw_br h (fun _ h => ?_) (fun _ h => ?_)
  · conv => whnf
    refine np_rd_i (hW14.g hi0) ?_
    conv => whnf
    refine pw_wr (a := 57) (i := i0) (d := upd (S12 57 i0) 6 0) hW14 hi0 rfl h (fun S17 f18 hW19 h => ?_)
    conv => whnf
    refine pw_st h (fun z20 h => ?_)
    conv => whnf
    exact np_gl (L_X9_buildReversed_16 hX hR (pw_F 20000) S17 i0 i1 z20 f18 hi0 hi1 hW19 h) ⟨rfl, rfl, rfl, trivial⟩
  · conv => whnf
    exact ⟨Nat.le_of_ble_eq_true rfl, Nat.le_of_ble_eq_true rfl, ⟨_, rfl, by decide⟩, _, fun _ _ h9 => h9, pw_ps h _ hW14⟩
